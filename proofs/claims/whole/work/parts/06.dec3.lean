theorem dX7_init_0 : decode cX7_init 0 = .ok (.aload_n 0, 1) := by decide +kernel
theorem dX7_init_1 : decode cX7_init 1 = .ok (.invokespecial 1, 3) := by decide +kernel
theorem dX7_init_4 : decode cX7_init 4 = .ok (.aload_n 0, 1) := by decide +kernel
theorem dX7_init_5 : decode cX7_init 5 = .ok (.bipush 60, 2) := by decide +kernel
theorem dX7_init_7 : decode cX7_init 7 = .ok (.newarray .int, 2) := by decide +kernel
theorem dX7_init_9 : decode cX7_init 9 = .ok (.putfield 7, 3) := by decide +kernel
theorem dX7_init_12 : decode cX7_init 12 = .ok (.aload_n 0, 1) := by decide +kernel
theorem dX7_init_13 : decode cX7_init 13 = .ok (.bipush 60, 2) := by decide +kernel
theorem dX7_init_15 : decode cX7_init 15 = .ok (.newarray .int, 2) := by decide +kernel
theorem dX7_init_17 : decode cX7_init 17 = .ok (.putfield 13, 3) := by decide +kernel
theorem dX7_init_20 : decode cX7_init 20 = .ok (.aload_n 0, 1) := by decide +kernel
theorem dX7_init_21 : decode cX7_init 21 = .ok (.bipush 60, 2) := by decide +kernel
theorem dX7_init_23 : decode cX7_init 23 = .ok (.newarray .int, 2) := by decide +kernel
theorem dX7_init_25 : decode cX7_init 25 = .ok (.putfield 16, 3) := by decide +kernel
theorem dX7_init_28 : decode cX7_init 28 = .ok (.aload_n 0, 1) := by decide +kernel
theorem dX7_init_29 : decode cX7_init 29 = .ok (.bipush 60, 2) := by decide +kernel
theorem dX7_init_31 : decode cX7_init 31 = .ok (.newarray .int, 2) := by decide +kernel
theorem dX7_init_33 : decode cX7_init 33 = .ok (.putfield 19, 3) := by decide +kernel
theorem dX7_init_36 : decode cX7_init 36 = .ok (.aload_n 0, 1) := by decide +kernel
theorem dX7_init_37 : decode cX7_init 37 = .ok (.bipush 60, 2) := by decide +kernel
theorem dX7_init_39 : decode cX7_init 39 = .ok (.newarray .int, 2) := by decide +kernel
theorem dX7_init_41 : decode cX7_init 41 = .ok (.putfield 22, 3) := by decide +kernel
theorem dX7_init_44 : decode cX7_init 44 = .ok (.aload_n 0, 1) := by decide +kernel
theorem dX7_init_45 : decode cX7_init 45 = .ok (.bipush 60, 2) := by decide +kernel
theorem dX7_init_47 : decode cX7_init 47 = .ok (.newarray .int, 2) := by decide +kernel
theorem dX7_init_49 : decode cX7_init 49 = .ok (.putfield 25, 3) := by decide +kernel
theorem dX7_init_52 : decode cX7_init 52 = .ok (.aload_n 0, 1) := by decide +kernel
theorem dX7_init_53 : decode cX7_init 53 = .ok (.bipush 120, 2) := by decide +kernel
theorem dX7_init_55 : decode cX7_init 55 = .ok (.newarray .int, 2) := by decide +kernel
theorem dX7_init_57 : decode cX7_init 57 = .ok (.putfield 28, 3) := by decide +kernel
theorem dX7_init_60 : decode cX7_init 60 = .ok (.aload_n 0, 1) := by decide +kernel
theorem dX7_init_61 : decode cX7_init 61 = .ok (.bipush 120, 2) := by decide +kernel
theorem dX7_init_63 : decode cX7_init 63 = .ok (.newarray .boolean, 2) := by decide +kernel
theorem dX7_init_65 : decode cX7_init 65 = .ok (.putfield 31, 3) := by decide +kernel
theorem dX7_init_68 : decode cX7_init 68 = .ok (.aload_n 0, 1) := by decide +kernel
theorem dX7_init_69 : decode cX7_init 69 = .ok (.sipush 360, 3) := by decide +kernel
theorem dX7_init_72 : decode cX7_init 72 = .ok (.newarray .int, 2) := by decide +kernel
theorem dX7_init_74 : decode cX7_init 74 = .ok (.putfield 35, 3) := by decide +kernel
theorem dX7_init_77 : decode cX7_init 77 = .ok (.aload_n 0, 1) := by decide +kernel
theorem dX7_init_78 : decode cX7_init 78 = .ok (.bipush 60, 2) := by decide +kernel
theorem dX7_init_80 : decode cX7_init 80 = .ok (.newarray .int, 2) := by decide +kernel
theorem dX7_init_82 : decode cX7_init 82 = .ok (.putfield 38, 3) := by decide +kernel
theorem dX7_init_85 : decode cX7_init 85 = .ok (.aload_n 0, 1) := by decide +kernel
theorem dX7_init_86 : decode cX7_init 86 = .ok (.sipush 1000, 3) := by decide +kernel
theorem dX7_init_89 : decode cX7_init 89 = .ok (.newarray .int, 2) := by decide +kernel
theorem dX7_init_91 : decode cX7_init 91 = .ok (.putfield 41, 3) := by decide +kernel
theorem dX7_init_94 : decode cX7_init 94 = .ok (.aload_n 0, 1) := by decide +kernel
theorem dX7_init_95 : decode cX7_init 95 = .ok (.sipush 2010, 3) := by decide +kernel
theorem dX7_init_98 : decode cX7_init 98 = .ok (.newarray .int, 2) := by decide +kernel
theorem dX7_init_100 : decode cX7_init 100 = .ok (.putfield 44, 3) := by decide +kernel
theorem dX7_init_103 : decode cX7_init 103 = .ok (.aload_n 0, 1) := by decide +kernel
theorem dX7_init_104 : decode cX7_init 104 = .ok (.sipush 2010, 3) := by decide +kernel
theorem dX7_init_107 : decode cX7_init 107 = .ok (.newarray .int, 2) := by decide +kernel
theorem dX7_init_109 : decode cX7_init 109 = .ok (.putfield 47, 3) := by decide +kernel
theorem dX7_init_112 : decode cX7_init 112 = .ok (.aload_n 0, 1) := by decide +kernel
theorem dX7_init_113 : decode cX7_init 113 = .ok (.sipush 2000, 3) := by decide +kernel
theorem dX7_init_116 : decode cX7_init 116 = .ok (.newarray .int, 2) := by decide +kernel
theorem dX7_init_118 : decode cX7_init 118 = .ok (.putfield 50, 3) := by decide +kernel
theorem dX7_init_121 : decode cX7_init 121 = .ok (.aload_n 0, 1) := by decide +kernel
theorem dX7_init_122 : decode cX7_init 122 = .ok (.sipush 1000, 3) := by decide +kernel
theorem dX7_init_125 : decode cX7_init 125 = .ok (.newarray .int, 2) := by decide +kernel
theorem dX7_init_127 : decode cX7_init 127 = .ok (.putfield 53, 3) := by decide +kernel
theorem dX7_init_130 : decode cX7_init 130 = .ok (.aload_n 0, 1) := by decide +kernel
theorem dX7_init_131 : decode cX7_init 131 = .ok (.bipush 120, 2) := by decide +kernel
theorem dX7_init_133 : decode cX7_init 133 = .ok (.newarray .boolean, 2) := by decide +kernel
theorem dX7_init_135 : decode cX7_init 135 = .ok (.putfield 56, 3) := by decide +kernel
theorem dX7_init_138 : decode cX7_init 138 = .ok (.return_, 1) := by decide +kernel
theorem dX7_thrown_0 : decode cX7_thrown 0 = .ok (.aload_n 0, 1) := by decide +kernel
theorem dX7_thrown_1 : decode cX7_thrown 1 = .ok (.getfield 59, 3) := by decide +kernel
theorem dX7_thrown_4 : decode cX7_thrown 4 = .ok (.ireturn, 1) := by decide +kernel
theorem dX7_refused_0 : decode cX7_refused 0 = .ok (.aload_n 0, 1) := by decide +kernel
theorem dX7_refused_1 : decode cX7_refused 1 = .ok (.iload_n 1, 1) := by decide +kernel
theorem dX7_refused_2 : decode cX7_refused 2 = .ok (.putfield 59, 3) := by decide +kernel
theorem dX7_refused_5 : decode cX7_refused 5 = .ok (.iload_n 1, 1) := by decide +kernel
theorem dX7_refused_6 : decode cX7_refused 6 = .ok (.ifCond .le 7, 3) := by decide +kernel
theorem dX7_refused_9 : decode cX7_refused 9 = .ok (.iconst 1, 1) := by decide +kernel
theorem dX7_refused_10 : decode cX7_refused 10 = .ok (.goto 4, 3) := by decide +kernel
theorem dX7_refused_13 : decode cX7_refused 13 = .ok (.iconst 0, 1) := by decide +kernel
theorem dX7_refused_14 : decode cX7_refused 14 = .ok (.ireturn, 1) := by decide +kernel
theorem dX7_isCharacter_0 : decode cX7_isCharacter 0 = .ok (.iload_n 0, 1) := by decide +kernel
theorem dX7_isCharacter_1 : decode cX7_isCharacter 1 = .ok (.ifCond .lt 13, 3) := by decide +kernel
theorem dX7_isCharacter_4 : decode cX7_isCharacter 4 = .ok (.iload_n 0, 1) := by decide +kernel
theorem dX7_isCharacter_5 : decode cX7_isCharacter 5 = .ok (.ldc 63, 2) := by decide +kernel
theorem dX7_isCharacter_7 : decode cX7_isCharacter 7 = .ok (.if_icmp .gt 7, 3) := by decide +kernel
theorem dX7_isCharacter_10 : decode cX7_isCharacter 10 = .ok (.iconst 1, 1) := by decide +kernel
theorem dX7_isCharacter_11 : decode cX7_isCharacter 11 = .ok (.goto 4, 3) := by decide +kernel
theorem dX7_isCharacter_14 : decode cX7_isCharacter 14 = .ok (.iconst 0, 1) := by decide +kernel
theorem dX7_isCharacter_15 : decode cX7_isCharacter 15 = .ok (.ireturn, 1) := by decide +kernel
theorem dX7_isOptional_0 : decode cX7_isOptional 0 = .ok (.iload_n 0, 1) := by decide +kernel
theorem dX7_isOptional_1 : decode cX7_isOptional 1 = .ok (.iconst (-1), 1) := by decide +kernel
theorem dX7_isOptional_2 : decode cX7_isOptional 2 = .ok (.if_icmp .eq 10, 3) := by decide +kernel
theorem dX7_isOptional_5 : decode cX7_isOptional 5 = .ok (.iload_n 0, 1) := by decide +kernel
theorem dX7_isOptional_6 : decode cX7_isOptional 6 = .ok (.invokestatic 64, 3) := by decide +kernel
theorem dX7_isOptional_9 : decode cX7_isOptional 9 = .ok (.ifCond .eq 7, 3) := by decide +kernel
theorem dX7_isOptional_12 : decode cX7_isOptional 12 = .ok (.iconst 1, 1) := by decide +kernel
theorem dX7_isOptional_13 : decode cX7_isOptional 13 = .ok (.goto 4, 3) := by decide +kernel
theorem dX7_isOptional_16 : decode cX7_isOptional 16 = .ok (.iconst 0, 1) := by decide +kernel
theorem dX7_isOptional_17 : decode cX7_isOptional 17 = .ok (.ireturn, 1) := by decide +kernel
theorem dX7_isRange_0 : decode cX7_isRange 0 = .ok (.iload_n 0, 1) := by decide +kernel
theorem dX7_isRange_1 : decode cX7_isRange 1 = .ok (.invokestatic 64, 3) := by decide +kernel
theorem dX7_isRange_4 : decode cX7_isRange 4 = .ok (.ifCond .eq 19, 3) := by decide +kernel
theorem dX7_isRange_7 : decode cX7_isRange 7 = .ok (.iload_n 1, 1) := by decide +kernel
theorem dX7_isRange_8 : decode cX7_isRange 8 = .ok (.invokestatic 64, 3) := by decide +kernel
theorem dX7_isRange_11 : decode cX7_isRange 11 = .ok (.ifCond .eq 12, 3) := by decide +kernel
theorem dX7_isRange_14 : decode cX7_isRange 14 = .ok (.iload_n 0, 1) := by decide +kernel
theorem dX7_isRange_15 : decode cX7_isRange 15 = .ok (.iload_n 1, 1) := by decide +kernel
theorem dX7_isRange_16 : decode cX7_isRange 16 = .ok (.if_icmp .gt 7, 3) := by decide +kernel
theorem dX7_isRange_19 : decode cX7_isRange 19 = .ok (.iconst 1, 1) := by decide +kernel
theorem dX7_isRange_20 : decode cX7_isRange 20 = .ok (.goto 4, 3) := by decide +kernel
theorem dX7_isRange_23 : decode cX7_isRange 23 = .ok (.iconst 0, 1) := by decide +kernel
theorem dX7_isRange_24 : decode cX7_isRange 24 = .ok (.ireturn, 1) := by decide +kernel
theorem dX7_mark_0 : decode cX7_mark 0 = .ok (.iload_n 1, 1) := by decide +kernel
theorem dX7_mark_1 : decode cX7_mark 1 = .ok (.iload_n 2, 1) := by decide +kernel
theorem dX7_mark_2 : decode cX7_mark 2 = .ok (.invokestatic 68, 3) := by decide +kernel
theorem dX7_mark_5 : decode cX7_mark 5 = .ok (.ifCond .eq 18, 3) := by decide +kernel
theorem dX7_mark_8 : decode cX7_mark 8 = .ok (.iload_n 3, 1) := by decide +kernel
theorem dX7_mark_9 : decode cX7_mark 9 = .ok (.ifCond .lt 14, 3) := by decide +kernel
theorem dX7_mark_12 : decode cX7_mark 12 = .ok (.iload_n 3, 1) := by decide +kernel
theorem dX7_mark_13 : decode cX7_mark 13 = .ok (.sipush 254, 3) := by decide +kernel
theorem dX7_mark_16 : decode cX7_mark 16 = .ok (.if_icmp .gt 7, 3) := by decide +kernel
theorem dX7_mark_19 : decode cX7_mark 19 = .ok (.iconst 1, 1) := by decide +kernel
theorem dX7_mark_20 : decode cX7_mark 20 = .ok (.goto 4, 3) := by decide +kernel
theorem dX7_mark_23 : decode cX7_mark 23 = .ok (.iconst 0, 1) := by decide +kernel
theorem dX7_mark_24 : decode cX7_mark 24 = .ok (.istore 4, 2) := by decide +kernel
theorem dX7_mark_26 : decode cX7_mark 26 = .ok (.aload_n 0, 1) := by decide +kernel
theorem dX7_mark_27 : decode cX7_mark 27 = .ok (.iload 4, 2) := by decide +kernel
theorem dX7_mark_29 : decode cX7_mark 29 = .ok (.ifCond .ne 7, 3) := by decide +kernel
theorem dX7_mark_32 : decode cX7_mark 32 = .ok (.iconst 1, 1) := by decide +kernel
theorem dX7_mark_33 : decode cX7_mark 33 = .ok (.goto 17, 3) := by decide +kernel
theorem dX7_mark_36 : decode cX7_mark 36 = .ok (.aload_n 0, 1) := by decide +kernel
theorem dX7_mark_37 : decode cX7_mark 37 = .ok (.getfield 72, 3) := by decide +kernel
theorem dX7_mark_40 : decode cX7_mark 40 = .ok (.bipush 60, 2) := by decide +kernel
theorem dX7_mark_42 : decode cX7_mark 42 = .ok (.if_icmp .ne 7, 3) := by decide +kernel
theorem dX7_mark_45 : decode cX7_mark 45 = .ok (.iconst 2, 1) := by decide +kernel
theorem dX7_mark_46 : decode cX7_mark 46 = .ok (.goto 4, 3) := by decide +kernel
theorem dX7_mark_49 : decode cX7_mark 49 = .ok (.iconst 0, 1) := by decide +kernel
theorem dX7_mark_50 : decode cX7_mark 50 = .ok (.invokevirtual 75, 3) := by decide +kernel
theorem dX7_mark_53 : decode cX7_mark 53 = .ok (.ifCond .ne 43, 3) := by decide +kernel
theorem dX7_mark_56 : decode cX7_mark 56 = .ok (.aload_n 0, 1) := by decide +kernel
theorem dX7_mark_57 : decode cX7_mark 57 = .ok (.getfield 7, 3) := by decide +kernel
theorem dX7_mark_60 : decode cX7_mark 60 = .ok (.aload_n 0, 1) := by decide +kernel
theorem dX7_mark_61 : decode cX7_mark 61 = .ok (.getfield 72, 3) := by decide +kernel
theorem dX7_mark_64 : decode cX7_mark 64 = .ok (.iload_n 1, 1) := by decide +kernel
theorem dX7_mark_65 : decode cX7_mark 65 = .ok (.iastore, 1) := by decide +kernel
theorem dX7_mark_66 : decode cX7_mark 66 = .ok (.aload_n 0, 1) := by decide +kernel
theorem dX7_mark_67 : decode cX7_mark 67 = .ok (.getfield 13, 3) := by decide +kernel
theorem dX7_mark_70 : decode cX7_mark 70 = .ok (.aload_n 0, 1) := by decide +kernel
theorem dX7_mark_71 : decode cX7_mark 71 = .ok (.getfield 72, 3) := by decide +kernel
theorem dX7_mark_74 : decode cX7_mark 74 = .ok (.iload_n 2, 1) := by decide +kernel
theorem dX7_mark_75 : decode cX7_mark 75 = .ok (.iastore, 1) := by decide +kernel
theorem dX7_mark_76 : decode cX7_mark 76 = .ok (.aload_n 0, 1) := by decide +kernel
theorem dX7_mark_77 : decode cX7_mark 77 = .ok (.getfield 16, 3) := by decide +kernel
theorem dX7_mark_80 : decode cX7_mark 80 = .ok (.aload_n 0, 1) := by decide +kernel
theorem dX7_mark_81 : decode cX7_mark 81 = .ok (.getfield 72, 3) := by decide +kernel
theorem dX7_mark_84 : decode cX7_mark 84 = .ok (.iload_n 3, 1) := by decide +kernel
theorem dX7_mark_85 : decode cX7_mark 85 = .ok (.iastore, 1) := by decide +kernel
theorem dX7_mark_86 : decode cX7_mark 86 = .ok (.aload_n 0, 1) := by decide +kernel
theorem dX7_mark_87 : decode cX7_mark 87 = .ok (.dup, 1) := by decide +kernel
theorem dX7_mark_88 : decode cX7_mark 88 = .ok (.getfield 72, 3) := by decide +kernel
theorem dX7_mark_91 : decode cX7_mark 91 = .ok (.iconst 1, 1) := by decide +kernel
theorem dX7_mark_92 : decode cX7_mark 92 = .ok (.iadd, 1) := by decide +kernel
theorem dX7_mark_93 : decode cX7_mark 93 = .ok (.putfield 72, 3) := by decide +kernel
theorem dX7_mark_96 : decode cX7_mark 96 = .ok (.return_, 1) := by decide +kernel
theorem dX7_property_0 : decode cX7_property 0 = .ok (.iload_n 1, 1) := by decide +kernel
theorem dX7_property_1 : decode cX7_property 1 = .ok (.iload_n 2, 1) := by decide +kernel
theorem dX7_property_2 : decode cX7_property 2 = .ok (.invokestatic 68, 3) := by decide +kernel
theorem dX7_property_5 : decode cX7_property 5 = .ok (.ifCond .eq 17, 3) := by decide +kernel
theorem dX7_property_8 : decode cX7_property 8 = .ok (.iload_n 3, 1) := by decide +kernel
theorem dX7_property_9 : decode cX7_property 9 = .ok (.ifCond .lt 13, 3) := by decide +kernel
theorem dX7_property_12 : decode cX7_property 12 = .ok (.iload_n 3, 1) := by decide +kernel
theorem dX7_property_13 : decode cX7_property 13 = .ok (.bipush 14, 2) := by decide +kernel
theorem dX7_property_15 : decode cX7_property 15 = .ok (.if_icmp .gt 7, 3) := by decide +kernel
theorem dX7_property_18 : decode cX7_property 18 = .ok (.iconst 1, 1) := by decide +kernel
theorem dX7_property_19 : decode cX7_property 19 = .ok (.goto 4, 3) := by decide +kernel
theorem dX7_property_22 : decode cX7_property 22 = .ok (.iconst 0, 1) := by decide +kernel
theorem dX7_property_23 : decode cX7_property 23 = .ok (.istore 4, 2) := by decide +kernel
theorem dX7_property_25 : decode cX7_property 25 = .ok (.aload_n 0, 1) := by decide +kernel
theorem dX7_property_26 : decode cX7_property 26 = .ok (.iload 4, 2) := by decide +kernel
theorem dX7_property_28 : decode cX7_property 28 = .ok (.ifCond .ne 7, 3) := by decide +kernel
theorem dX7_property_31 : decode cX7_property 31 = .ok (.iconst 1, 1) := by decide +kernel
theorem dX7_property_32 : decode cX7_property 32 = .ok (.goto 17, 3) := by decide +kernel
theorem dX7_property_35 : decode cX7_property 35 = .ok (.aload_n 0, 1) := by decide +kernel
theorem dX7_property_36 : decode cX7_property 36 = .ok (.getfield 78, 3) := by decide +kernel
theorem dX7_property_39 : decode cX7_property 39 = .ok (.bipush 60, 2) := by decide +kernel
theorem dX7_property_41 : decode cX7_property 41 = .ok (.if_icmp .ne 7, 3) := by decide +kernel
theorem dX7_property_44 : decode cX7_property 44 = .ok (.iconst 2, 1) := by decide +kernel
theorem dX7_property_45 : decode cX7_property 45 = .ok (.goto 4, 3) := by decide +kernel
theorem dX7_property_48 : decode cX7_property 48 = .ok (.iconst 0, 1) := by decide +kernel
theorem dX7_property_49 : decode cX7_property 49 = .ok (.invokevirtual 75, 3) := by decide +kernel
theorem dX7_property_52 : decode cX7_property 52 = .ok (.ifCond .ne 43, 3) := by decide +kernel
theorem dX7_property_55 : decode cX7_property 55 = .ok (.aload_n 0, 1) := by decide +kernel
theorem dX7_property_56 : decode cX7_property 56 = .ok (.getfield 19, 3) := by decide +kernel
theorem dX7_property_59 : decode cX7_property 59 = .ok (.aload_n 0, 1) := by decide +kernel
theorem dX7_property_60 : decode cX7_property 60 = .ok (.getfield 78, 3) := by decide +kernel
theorem dX7_property_63 : decode cX7_property 63 = .ok (.iload_n 1, 1) := by decide +kernel
theorem dX7_property_64 : decode cX7_property 64 = .ok (.iastore, 1) := by decide +kernel
theorem dX7_property_65 : decode cX7_property 65 = .ok (.aload_n 0, 1) := by decide +kernel
theorem dX7_property_66 : decode cX7_property 66 = .ok (.getfield 22, 3) := by decide +kernel
theorem dX7_property_69 : decode cX7_property 69 = .ok (.aload_n 0, 1) := by decide +kernel
theorem dX7_property_70 : decode cX7_property 70 = .ok (.getfield 78, 3) := by decide +kernel
theorem dX7_property_73 : decode cX7_property 73 = .ok (.iload_n 2, 1) := by decide +kernel
theorem dX7_property_74 : decode cX7_property 74 = .ok (.iastore, 1) := by decide +kernel
theorem dX7_property_75 : decode cX7_property 75 = .ok (.aload_n 0, 1) := by decide +kernel
theorem dX7_property_76 : decode cX7_property 76 = .ok (.getfield 25, 3) := by decide +kernel
theorem dX7_property_79 : decode cX7_property 79 = .ok (.aload_n 0, 1) := by decide +kernel
theorem dX7_property_80 : decode cX7_property 80 = .ok (.getfield 78, 3) := by decide +kernel
theorem dX7_property_83 : decode cX7_property 83 = .ok (.iload_n 3, 1) := by decide +kernel
theorem dX7_property_84 : decode cX7_property 84 = .ok (.iastore, 1) := by decide +kernel
theorem dX7_property_85 : decode cX7_property 85 = .ok (.aload_n 0, 1) := by decide +kernel
theorem dX7_property_86 : decode cX7_property 86 = .ok (.dup, 1) := by decide +kernel
theorem dX7_property_87 : decode cX7_property 87 = .ok (.getfield 78, 3) := by decide +kernel
theorem dX7_property_90 : decode cX7_property 90 = .ok (.iconst 1, 1) := by decide +kernel
theorem dX7_property_91 : decode cX7_property 91 = .ok (.iadd, 1) := by decide +kernel
theorem dX7_property_92 : decode cX7_property 92 = .ok (.putfield 78, 3) := by decide +kernel
theorem dX7_property_95 : decode cX7_property 95 = .ok (.return_, 1) := by decide +kernel
theorem dX7_classOf_0 : decode cX7_classOf 0 = .ok (.iconst 0, 1) := by decide +kernel
theorem dX7_classOf_1 : decode cX7_classOf 1 = .ok (.istore_n 2, 1) := by decide +kernel
theorem dX7_classOf_2 : decode cX7_classOf 2 = .ok (.iconst 0, 1) := by decide +kernel
theorem dX7_classOf_3 : decode cX7_classOf 3 = .ok (.istore_n 3, 1) := by decide +kernel
theorem dX7_classOf_4 : decode cX7_classOf 4 = .ok (.iload_n 3, 1) := by decide +kernel
theorem dX7_classOf_5 : decode cX7_classOf 5 = .ok (.aload_n 0, 1) := by decide +kernel
theorem dX7_classOf_6 : decode cX7_classOf 6 = .ok (.getfield 72, 3) := by decide +kernel
theorem dX7_classOf_9 : decode cX7_classOf 9 = .ok (.if_icmp .ge 40, 3) := by decide +kernel
theorem dX7_classOf_12 : decode cX7_classOf 12 = .ok (.iload_n 1, 1) := by decide +kernel
theorem dX7_classOf_13 : decode cX7_classOf 13 = .ok (.aload_n 0, 1) := by decide +kernel
theorem dX7_classOf_14 : decode cX7_classOf 14 = .ok (.getfield 7, 3) := by decide +kernel
theorem dX7_classOf_17 : decode cX7_classOf 17 = .ok (.iload_n 3, 1) := by decide +kernel
theorem dX7_classOf_18 : decode cX7_classOf 18 = .ok (.iaload, 1) := by decide +kernel
theorem dX7_classOf_19 : decode cX7_classOf 19 = .ok (.if_icmp .lt 22, 3) := by decide +kernel
theorem dX7_classOf_22 : decode cX7_classOf 22 = .ok (.iload_n 1, 1) := by decide +kernel
theorem dX7_classOf_23 : decode cX7_classOf 23 = .ok (.aload_n 0, 1) := by decide +kernel
theorem dX7_classOf_24 : decode cX7_classOf 24 = .ok (.getfield 13, 3) := by decide +kernel
theorem dX7_classOf_27 : decode cX7_classOf 27 = .ok (.iload_n 3, 1) := by decide +kernel
theorem dX7_classOf_28 : decode cX7_classOf 28 = .ok (.iaload, 1) := by decide +kernel
theorem dX7_classOf_29 : decode cX7_classOf 29 = .ok (.if_icmp .gt 12, 3) := by decide +kernel
theorem dX7_classOf_32 : decode cX7_classOf 32 = .ok (.aload_n 0, 1) := by decide +kernel
theorem dX7_classOf_33 : decode cX7_classOf 33 = .ok (.getfield 16, 3) := by decide +kernel
theorem dX7_classOf_36 : decode cX7_classOf 36 = .ok (.iload_n 3, 1) := by decide +kernel
theorem dX7_classOf_37 : decode cX7_classOf 37 = .ok (.iaload, 1) := by decide +kernel
theorem dX7_classOf_38 : decode cX7_classOf 38 = .ok (.goto 4, 3) := by decide +kernel
theorem dX7_classOf_41 : decode cX7_classOf 41 = .ok (.iload_n 2, 1) := by decide +kernel
theorem dX7_classOf_42 : decode cX7_classOf 42 = .ok (.istore_n 2, 1) := by decide +kernel
theorem dX7_classOf_43 : decode cX7_classOf 43 = .ok (.iinc 3 1, 3) := by decide +kernel
theorem dX7_classOf_46 : decode cX7_classOf 46 = .ok (.goto (-42), 3) := by decide +kernel
theorem dX7_classOf_49 : decode cX7_classOf 49 = .ok (.iload_n 2, 1) := by decide +kernel
theorem dX7_classOf_50 : decode cX7_classOf 50 = .ok (.ireturn, 1) := by decide +kernel
theorem dX7_kind_0 : decode cX7_kind 0 = .ok (.iconst 0, 1) := by decide +kernel
theorem dX7_kind_1 : decode cX7_kind 1 = .ok (.istore_n 2, 1) := by decide +kernel
theorem dX7_kind_2 : decode cX7_kind 2 = .ok (.iconst 0, 1) := by decide +kernel
theorem dX7_kind_3 : decode cX7_kind 3 = .ok (.istore_n 3, 1) := by decide +kernel
theorem dX7_kind_4 : decode cX7_kind 4 = .ok (.iload_n 3, 1) := by decide +kernel
theorem dX7_kind_5 : decode cX7_kind 5 = .ok (.aload_n 0, 1) := by decide +kernel
theorem dX7_kind_6 : decode cX7_kind 6 = .ok (.getfield 78, 3) := by decide +kernel
theorem dX7_kind_9 : decode cX7_kind 9 = .ok (.if_icmp .ge 40, 3) := by decide +kernel
theorem dX7_kind_12 : decode cX7_kind 12 = .ok (.iload_n 1, 1) := by decide +kernel
theorem dX7_kind_13 : decode cX7_kind 13 = .ok (.aload_n 0, 1) := by decide +kernel
theorem dX7_kind_14 : decode cX7_kind 14 = .ok (.getfield 19, 3) := by decide +kernel
theorem dX7_kind_17 : decode cX7_kind 17 = .ok (.iload_n 3, 1) := by decide +kernel
theorem dX7_kind_18 : decode cX7_kind 18 = .ok (.iaload, 1) := by decide +kernel
theorem dX7_kind_19 : decode cX7_kind 19 = .ok (.if_icmp .lt 22, 3) := by decide +kernel
theorem dX7_kind_22 : decode cX7_kind 22 = .ok (.iload_n 1, 1) := by decide +kernel
theorem dX7_kind_23 : decode cX7_kind 23 = .ok (.aload_n 0, 1) := by decide +kernel
theorem dX7_kind_24 : decode cX7_kind 24 = .ok (.getfield 22, 3) := by decide +kernel
theorem dX7_kind_27 : decode cX7_kind 27 = .ok (.iload_n 3, 1) := by decide +kernel
theorem dX7_kind_28 : decode cX7_kind 28 = .ok (.iaload, 1) := by decide +kernel
theorem dX7_kind_29 : decode cX7_kind 29 = .ok (.if_icmp .gt 12, 3) := by decide +kernel
theorem dX7_kind_32 : decode cX7_kind 32 = .ok (.aload_n 0, 1) := by decide +kernel
theorem dX7_kind_33 : decode cX7_kind 33 = .ok (.getfield 25, 3) := by decide +kernel
theorem dX7_kind_36 : decode cX7_kind 36 = .ok (.iload_n 3, 1) := by decide +kernel
theorem dX7_kind_37 : decode cX7_kind 37 = .ok (.iaload, 1) := by decide +kernel
theorem dX7_kind_38 : decode cX7_kind 38 = .ok (.goto 4, 3) := by decide +kernel
theorem dX7_kind_41 : decode cX7_kind 41 = .ok (.iload_n 2, 1) := by decide +kernel
theorem dX7_kind_42 : decode cX7_kind 42 = .ok (.istore_n 2, 1) := by decide +kernel
theorem dX7_kind_43 : decode cX7_kind 43 = .ok (.iinc 3 1, 3) := by decide +kernel
theorem dX7_kind_46 : decode cX7_kind 46 = .ok (.goto (-42), 3) := by decide +kernel
theorem dX7_kind_49 : decode cX7_kind 49 = .ok (.iload_n 2, 1) := by decide +kernel
theorem dX7_kind_50 : decode cX7_kind 50 = .ok (.ireturn, 1) := by decide +kernel
theorem dX7_isSyllable_0 : decode cX7_isSyllable 0 = .ok (.iload_n 0, 1) := by decide +kernel
theorem dX7_isSyllable_1 : decode cX7_isSyllable 1 = .ok (.ldc 81, 2) := by decide +kernel
theorem dX7_isSyllable_3 : decode cX7_isSyllable 3 = .ok (.if_icmp .lt 13, 3) := by decide +kernel
theorem dX7_isSyllable_6 : decode cX7_isSyllable 6 = .ok (.iload_n 0, 1) := by decide +kernel
theorem dX7_isSyllable_7 : decode cX7_isSyllable 7 = .ok (.ldc 82, 2) := by decide +kernel
theorem dX7_isSyllable_9 : decode cX7_isSyllable 9 = .ok (.if_icmp .gt 7, 3) := by decide +kernel
theorem dX7_isSyllable_12 : decode cX7_isSyllable 12 = .ok (.iconst 1, 1) := by decide +kernel
theorem dX7_isSyllable_13 : decode cX7_isSyllable 13 = .ok (.goto 4, 3) := by decide +kernel
theorem dX7_isSyllable_16 : decode cX7_isSyllable 16 = .ok (.iconst 0, 1) := by decide +kernel
theorem dX7_isSyllable_17 : decode cX7_isSyllable 17 = .ok (.ireturn, 1) := by decide +kernel
theorem dX7_rowOf_0 : decode cX7_rowOf 0 = .ok (.iconst (-1), 1) := by decide +kernel
theorem dX7_rowOf_1 : decode cX7_rowOf 1 = .ok (.istore_n 2, 1) := by decide +kernel
theorem dX7_rowOf_2 : decode cX7_rowOf 2 = .ok (.iconst 0, 1) := by decide +kernel
theorem dX7_rowOf_3 : decode cX7_rowOf 3 = .ok (.istore_n 3, 1) := by decide +kernel
theorem dX7_rowOf_4 : decode cX7_rowOf 4 = .ok (.iload_n 3, 1) := by decide +kernel
theorem dX7_rowOf_5 : decode cX7_rowOf 5 = .ok (.aload_n 0, 1) := by decide +kernel
theorem dX7_rowOf_6 : decode cX7_rowOf 6 = .ok (.getfield 83, 3) := by decide +kernel
theorem dX7_rowOf_9 : decode cX7_rowOf 9 = .ok (.if_icmp .ge 25, 3) := by decide +kernel
theorem dX7_rowOf_12 : decode cX7_rowOf 12 = .ok (.aload_n 0, 1) := by decide +kernel
theorem dX7_rowOf_13 : decode cX7_rowOf 13 = .ok (.getfield 28, 3) := by decide +kernel
theorem dX7_rowOf_16 : decode cX7_rowOf 16 = .ok (.iload_n 3, 1) := by decide +kernel
theorem dX7_rowOf_17 : decode cX7_rowOf 17 = .ok (.iaload, 1) := by decide +kernel
theorem dX7_rowOf_18 : decode cX7_rowOf 18 = .ok (.iload_n 1, 1) := by decide +kernel
theorem dX7_rowOf_19 : decode cX7_rowOf 19 = .ok (.if_icmp .ne 7, 3) := by decide +kernel
theorem dX7_rowOf_22 : decode cX7_rowOf 22 = .ok (.iload_n 3, 1) := by decide +kernel
theorem dX7_rowOf_23 : decode cX7_rowOf 23 = .ok (.goto 4, 3) := by decide +kernel
theorem dX7_rowOf_26 : decode cX7_rowOf 26 = .ok (.iload_n 2, 1) := by decide +kernel
theorem dX7_rowOf_27 : decode cX7_rowOf 27 = .ok (.istore_n 2, 1) := by decide +kernel
theorem dX7_rowOf_28 : decode cX7_rowOf 28 = .ok (.iinc 3 1, 3) := by decide +kernel
theorem dX7_rowOf_31 : decode cX7_rowOf 31 = .ok (.goto (-27), 3) := by decide +kernel
theorem dX7_rowOf_34 : decode cX7_rowOf 34 = .ok (.iload_n 2, 1) := by decide +kernel
theorem dX7_rowOf_35 : decode cX7_rowOf 35 = .ok (.ireturn, 1) := by decide +kernel
theorem dX7_partOf_0 : decode cX7_partOf 0 = .ok (.iload_n 1, 1) := by decide +kernel
theorem dX7_partOf_1 : decode cX7_partOf 1 = .ok (.invokestatic 86, 3) := by decide +kernel
theorem dX7_partOf_4 : decode cX7_partOf 4 = .ok (.ifCond .eq 78, 3) := by decide +kernel
theorem dX7_partOf_7 : decode cX7_partOf 7 = .ok (.iload_n 1, 1) := by decide +kernel
theorem dX7_partOf_8 : decode cX7_partOf 8 = .ok (.ldc 81, 2) := by decide +kernel
theorem dX7_partOf_10 : decode cX7_partOf 10 = .ok (.isub, 1) := by decide +kernel
theorem dX7_partOf_11 : decode cX7_partOf 11 = .ok (.istore 4, 2) := by decide +kernel
theorem dX7_partOf_13 : decode cX7_partOf 13 = .ok (.iload 4, 2) := by decide +kernel
theorem dX7_partOf_15 : decode cX7_partOf 15 = .ok (.bipush 28, 2) := by decide +kernel
theorem dX7_partOf_17 : decode cX7_partOf 17 = .ok (.irem, 1) := by decide +kernel
theorem dX7_partOf_18 : decode cX7_partOf 18 = .ok (.istore 5, 2) := by decide +kernel
theorem dX7_partOf_20 : decode cX7_partOf 20 = .ok (.iload_n 2, 1) := by decide +kernel
theorem dX7_partOf_21 : decode cX7_partOf 21 = .ok (.iconst 1, 1) := by decide +kernel
theorem dX7_partOf_22 : decode cX7_partOf 22 = .ok (.if_icmp .le 5, 3) := by decide +kernel
theorem dX7_partOf_25 : decode cX7_partOf 25 = .ok (.iconst (-1), 1) := by decide +kernel
theorem dX7_partOf_26 : decode cX7_partOf 26 = .ok (.ireturn, 1) := by decide +kernel
theorem dX7_partOf_27 : decode cX7_partOf 27 = .ok (.iload 5, 2) := by decide +kernel
theorem dX7_partOf_29 : decode cX7_partOf 29 = .ok (.ifCond .le 23, 3) := by decide +kernel
theorem dX7_partOf_32 : decode cX7_partOf 32 = .ok (.iload_n 2, 1) := by decide +kernel
theorem dX7_partOf_33 : decode cX7_partOf 33 = .ok (.ifCond .ne 10, 3) := by decide +kernel
theorem dX7_partOf_36 : decode cX7_partOf 36 = .ok (.iload_n 1, 1) := by decide +kernel
theorem dX7_partOf_37 : decode cX7_partOf 37 = .ok (.iload 5, 2) := by decide +kernel
theorem dX7_partOf_39 : decode cX7_partOf 39 = .ok (.isub, 1) := by decide +kernel
theorem dX7_partOf_40 : decode cX7_partOf 40 = .ok (.goto 41, 3) := by decide +kernel
theorem dX7_partOf_43 : decode cX7_partOf 43 = .ok (.sipush 4519, 3) := by decide +kernel
theorem dX7_partOf_46 : decode cX7_partOf 46 = .ok (.iload 5, 2) := by decide +kernel
theorem dX7_partOf_48 : decode cX7_partOf 48 = .ok (.iadd, 1) := by decide +kernel
theorem dX7_partOf_49 : decode cX7_partOf 49 = .ok (.goto 32, 3) := by decide +kernel
theorem dX7_partOf_52 : decode cX7_partOf 52 = .ok (.iload_n 2, 1) := by decide +kernel
theorem dX7_partOf_53 : decode cX7_partOf 53 = .ok (.ifCond .ne 16, 3) := by decide +kernel
theorem dX7_partOf_56 : decode cX7_partOf 56 = .ok (.sipush 4352, 3) := by decide +kernel
theorem dX7_partOf_59 : decode cX7_partOf 59 = .ok (.iload 4, 2) := by decide +kernel
theorem dX7_partOf_61 : decode cX7_partOf 61 = .ok (.sipush 588, 3) := by decide +kernel
theorem dX7_partOf_64 : decode cX7_partOf 64 = .ok (.idiv, 1) := by decide +kernel
theorem dX7_partOf_65 : decode cX7_partOf 65 = .ok (.iadd, 1) := by decide +kernel
theorem dX7_partOf_66 : decode cX7_partOf 66 = .ok (.goto 15, 3) := by decide +kernel
theorem dX7_partOf_69 : decode cX7_partOf 69 = .ok (.sipush 4449, 3) := by decide +kernel
theorem dX7_partOf_72 : decode cX7_partOf 72 = .ok (.iload 4, 2) := by decide +kernel
theorem dX7_partOf_74 : decode cX7_partOf 74 = .ok (.bipush 28, 2) := by decide +kernel
theorem dX7_partOf_76 : decode cX7_partOf 76 = .ok (.idiv, 1) := by decide +kernel
theorem dX7_partOf_77 : decode cX7_partOf 77 = .ok (.bipush 21, 2) := by decide +kernel
theorem dX7_partOf_79 : decode cX7_partOf 79 = .ok (.irem, 1) := by decide +kernel
theorem dX7_partOf_80 : decode cX7_partOf 80 = .ok (.iadd, 1) := by decide +kernel
theorem dX7_partOf_81 : decode cX7_partOf 81 = .ok (.ireturn, 1) := by decide +kernel
theorem dX7_partOf_82 : decode cX7_partOf 82 = .ok (.aload_n 0, 1) := by decide +kernel
theorem dX7_partOf_83 : decode cX7_partOf 83 = .ok (.iload_n 1, 1) := by decide +kernel
theorem dX7_partOf_84 : decode cX7_partOf 84 = .ok (.invokevirtual 89, 3) := by decide +kernel
theorem dX7_partOf_87 : decode cX7_partOf 87 = .ok (.istore 4, 2) := by decide +kernel
theorem dX7_partOf_89 : decode cX7_partOf 89 = .ok (.iload 4, 2) := by decide +kernel
theorem dX7_partOf_91 : decode cX7_partOf 91 = .ok (.ifCond .lt 22, 3) := by decide +kernel
theorem dX7_partOf_94 : decode cX7_partOf 94 = .ok (.iload_n 2, 1) := by decide +kernel
theorem dX7_partOf_95 : decode cX7_partOf 95 = .ok (.iconst 2, 1) := by decide +kernel
theorem dX7_partOf_96 : decode cX7_partOf 96 = .ok (.if_icmp .gt 17, 3) := by decide +kernel
theorem dX7_partOf_99 : decode cX7_partOf 99 = .ok (.aload_n 0, 1) := by decide +kernel
theorem dX7_partOf_100 : decode cX7_partOf 100 = .ok (.getfield 31, 3) := by decide +kernel
theorem dX7_partOf_103 : decode cX7_partOf 103 = .ok (.iload 4, 2) := by decide +kernel
theorem dX7_partOf_105 : decode cX7_partOf 105 = .ok (.baload, 1) := by decide +kernel
theorem dX7_partOf_106 : decode cX7_partOf 106 = .ok (.ifCond .eq 11, 3) := by decide +kernel
theorem dX7_partOf_109 : decode cX7_partOf 109 = .ok (.iload_n 3, 1) := by decide +kernel
theorem dX7_partOf_110 : decode cX7_partOf 110 = .ok (.ifCond .ne 7, 3) := by decide +kernel
theorem dX7_partOf_113 : decode cX7_partOf 113 = .ok (.iconst (-1), 1) := by decide +kernel
theorem dX7_partOf_114 : decode cX7_partOf 114 = .ok (.goto 14, 3) := by decide +kernel
theorem dX7_partOf_117 : decode cX7_partOf 117 = .ok (.aload_n 0, 1) := by decide +kernel
theorem dX7_partOf_118 : decode cX7_partOf 118 = .ok (.getfield 35, 3) := by decide +kernel
theorem dX7_partOf_121 : decode cX7_partOf 121 = .ok (.iconst 3, 1) := by decide +kernel
theorem dX7_partOf_122 : decode cX7_partOf 122 = .ok (.iload 4, 2) := by decide +kernel
theorem dX7_partOf_124 : decode cX7_partOf 124 = .ok (.imul, 1) := by decide +kernel
theorem dX7_partOf_125 : decode cX7_partOf 125 = .ok (.iload_n 2, 1) := by decide +kernel
theorem dX7_partOf_126 : decode cX7_partOf 126 = .ok (.iadd, 1) := by decide +kernel
theorem dX7_partOf_127 : decode cX7_partOf 127 = .ok (.iaload, 1) := by decide +kernel
theorem dX7_partOf_128 : decode cX7_partOf 128 = .ok (.ireturn, 1) := by decide +kernel
theorem dX7_wholeOf_0 : decode cX7_wholeOf 0 = .ok (.iload_n 1, 1) := by decide +kernel
theorem dX7_wholeOf_1 : decode cX7_wholeOf 1 = .ok (.sipush 4352, 3) := by decide +kernel
theorem dX7_wholeOf_4 : decode cX7_wholeOf 4 = .ok (.if_icmp .lt 28, 3) := by decide +kernel
theorem dX7_wholeOf_7 : decode cX7_wholeOf 7 = .ok (.iload_n 1, 1) := by decide +kernel
theorem dX7_wholeOf_8 : decode cX7_wholeOf 8 = .ok (.sipush 4370, 3) := by decide +kernel
theorem dX7_wholeOf_11 : decode cX7_wholeOf 11 = .ok (.if_icmp .gt 21, 3) := by decide +kernel
theorem dX7_wholeOf_14 : decode cX7_wholeOf 14 = .ok (.iload_n 2, 1) := by decide +kernel
theorem dX7_wholeOf_15 : decode cX7_wholeOf 15 = .ok (.sipush 4449, 3) := by decide +kernel
theorem dX7_wholeOf_18 : decode cX7_wholeOf 18 = .ok (.if_icmp .lt 14, 3) := by decide +kernel
theorem dX7_wholeOf_21 : decode cX7_wholeOf 21 = .ok (.iload_n 2, 1) := by decide +kernel
theorem dX7_wholeOf_22 : decode cX7_wholeOf 22 = .ok (.sipush 4469, 3) := by decide +kernel
theorem dX7_wholeOf_25 : decode cX7_wholeOf 25 = .ok (.if_icmp .gt 7, 3) := by decide +kernel
theorem dX7_wholeOf_28 : decode cX7_wholeOf 28 = .ok (.iconst 1, 1) := by decide +kernel
theorem dX7_wholeOf_29 : decode cX7_wholeOf 29 = .ok (.goto 4, 3) := by decide +kernel
theorem dX7_wholeOf_32 : decode cX7_wholeOf 32 = .ok (.iconst 0, 1) := by decide +kernel
theorem dX7_wholeOf_33 : decode cX7_wholeOf 33 = .ok (.istore_n 3, 1) := by decide +kernel
theorem dX7_wholeOf_34 : decode cX7_wholeOf 34 = .ok (.iload_n 3, 1) := by decide +kernel
theorem dX7_wholeOf_35 : decode cX7_wholeOf 35 = .ok (.ifCond .eq 24, 3) := by decide +kernel
theorem dX7_wholeOf_38 : decode cX7_wholeOf 38 = .ok (.ldc 81, 2) := by decide +kernel
theorem dX7_wholeOf_40 : decode cX7_wholeOf 40 = .ok (.iload_n 1, 1) := by decide +kernel
theorem dX7_wholeOf_41 : decode cX7_wholeOf 41 = .ok (.sipush 4352, 3) := by decide +kernel
theorem dX7_wholeOf_44 : decode cX7_wholeOf 44 = .ok (.isub, 1) := by decide +kernel
theorem dX7_wholeOf_45 : decode cX7_wholeOf 45 = .ok (.bipush 21, 2) := by decide +kernel
theorem dX7_wholeOf_47 : decode cX7_wholeOf 47 = .ok (.imul, 1) := by decide +kernel
theorem dX7_wholeOf_48 : decode cX7_wholeOf 48 = .ok (.iload_n 2, 1) := by decide +kernel
theorem dX7_wholeOf_49 : decode cX7_wholeOf 49 = .ok (.iadd, 1) := by decide +kernel
theorem dX7_wholeOf_50 : decode cX7_wholeOf 50 = .ok (.sipush 4449, 3) := by decide +kernel
theorem dX7_wholeOf_53 : decode cX7_wholeOf 53 = .ok (.isub, 1) := by decide +kernel
theorem dX7_wholeOf_54 : decode cX7_wholeOf 54 = .ok (.bipush 28, 2) := by decide +kernel
theorem dX7_wholeOf_56 : decode cX7_wholeOf 56 = .ok (.imul, 1) := by decide +kernel
theorem dX7_wholeOf_57 : decode cX7_wholeOf 57 = .ok (.iadd, 1) := by decide +kernel
theorem dX7_wholeOf_58 : decode cX7_wholeOf 58 = .ok (.ireturn, 1) := by decide +kernel
theorem dX7_wholeOf_59 : decode cX7_wholeOf 59 = .ok (.iload_n 1, 1) := by decide +kernel
theorem dX7_wholeOf_60 : decode cX7_wholeOf 60 = .ok (.invokestatic 86, 3) := by decide +kernel
theorem dX7_wholeOf_63 : decode cX7_wholeOf 63 = .ok (.ifCond .eq 35, 3) := by decide +kernel
theorem dX7_wholeOf_66 : decode cX7_wholeOf 66 = .ok (.iload_n 1, 1) := by decide +kernel
theorem dX7_wholeOf_67 : decode cX7_wholeOf 67 = .ok (.ldc 81, 2) := by decide +kernel
theorem dX7_wholeOf_69 : decode cX7_wholeOf 69 = .ok (.isub, 1) := by decide +kernel
theorem dX7_wholeOf_70 : decode cX7_wholeOf 70 = .ok (.bipush 28, 2) := by decide +kernel
theorem dX7_wholeOf_72 : decode cX7_wholeOf 72 = .ok (.irem, 1) := by decide +kernel
theorem dX7_wholeOf_73 : decode cX7_wholeOf 73 = .ok (.ifCond .ne 25, 3) := by decide +kernel
theorem dX7_wholeOf_76 : decode cX7_wholeOf 76 = .ok (.iload_n 2, 1) := by decide +kernel
theorem dX7_wholeOf_77 : decode cX7_wholeOf 77 = .ok (.sipush 4520, 3) := by decide +kernel
theorem dX7_wholeOf_80 : decode cX7_wholeOf 80 = .ok (.if_icmp .lt 18, 3) := by decide +kernel
theorem dX7_wholeOf_83 : decode cX7_wholeOf 83 = .ok (.iload_n 2, 1) := by decide +kernel
theorem dX7_wholeOf_84 : decode cX7_wholeOf 84 = .ok (.sipush 4546, 3) := by decide +kernel
theorem dX7_wholeOf_87 : decode cX7_wholeOf 87 = .ok (.if_icmp .gt 11, 3) := by decide +kernel
theorem dX7_wholeOf_90 : decode cX7_wholeOf 90 = .ok (.iload_n 1, 1) := by decide +kernel
theorem dX7_wholeOf_91 : decode cX7_wholeOf 91 = .ok (.iload_n 2, 1) := by decide +kernel
theorem dX7_wholeOf_92 : decode cX7_wholeOf 92 = .ok (.iadd, 1) := by decide +kernel
theorem dX7_wholeOf_93 : decode cX7_wholeOf 93 = .ok (.sipush 4519, 3) := by decide +kernel
theorem dX7_wholeOf_96 : decode cX7_wholeOf 96 = .ok (.isub, 1) := by decide +kernel
theorem dX7_wholeOf_97 : decode cX7_wholeOf 97 = .ok (.ireturn, 1) := by decide +kernel
theorem dX7_wholeOf_98 : decode cX7_wholeOf 98 = .ok (.iconst (-1), 1) := by decide +kernel
theorem dX7_wholeOf_99 : decode cX7_wholeOf 99 = .ok (.istore 4, 2) := by decide +kernel
theorem dX7_wholeOf_101 : decode cX7_wholeOf 101 = .ok (.iconst 0, 1) := by decide +kernel
theorem dX7_wholeOf_102 : decode cX7_wholeOf 102 = .ok (.istore 5, 2) := by decide +kernel
theorem dX7_wholeOf_104 : decode cX7_wholeOf 104 = .ok (.iload 5, 2) := by decide +kernel
theorem dX7_wholeOf_106 : decode cX7_wholeOf 106 = .ok (.aload_n 0, 1) := by decide +kernel
theorem dX7_wholeOf_107 : decode cX7_wholeOf 107 = .ok (.getfield 83, 3) := by decide +kernel
theorem dX7_wholeOf_110 : decode cX7_wholeOf 110 = .ok (.if_icmp .ge 61, 3) := by decide +kernel
theorem dX7_wholeOf_113 : decode cX7_wholeOf 113 = .ok (.aload_n 0, 1) := by decide +kernel
theorem dX7_wholeOf_114 : decode cX7_wholeOf 114 = .ok (.getfield 31, 3) := by decide +kernel
theorem dX7_wholeOf_117 : decode cX7_wholeOf 117 = .ok (.iload 5, 2) := by decide +kernel
theorem dX7_wholeOf_119 : decode cX7_wholeOf 119 = .ok (.baload, 1) := by decide +kernel
theorem dX7_wholeOf_120 : decode cX7_wholeOf 120 = .ok (.ifCond .ne 41, 3) := by decide +kernel
theorem dX7_wholeOf_123 : decode cX7_wholeOf 123 = .ok (.aload_n 0, 1) := by decide +kernel
theorem dX7_wholeOf_124 : decode cX7_wholeOf 124 = .ok (.getfield 35, 3) := by decide +kernel
theorem dX7_wholeOf_127 : decode cX7_wholeOf 127 = .ok (.iconst 3, 1) := by decide +kernel
theorem dX7_wholeOf_128 : decode cX7_wholeOf 128 = .ok (.iload 5, 2) := by decide +kernel
theorem dX7_wholeOf_130 : decode cX7_wholeOf 130 = .ok (.imul, 1) := by decide +kernel
theorem dX7_wholeOf_131 : decode cX7_wholeOf 131 = .ok (.iaload, 1) := by decide +kernel
theorem dX7_wholeOf_132 : decode cX7_wholeOf 132 = .ok (.iload_n 1, 1) := by decide +kernel
theorem dX7_wholeOf_133 : decode cX7_wholeOf 133 = .ok (.if_icmp .ne 28, 3) := by decide +kernel
theorem dX7_wholeOf_136 : decode cX7_wholeOf 136 = .ok (.aload_n 0, 1) := by decide +kernel
theorem dX7_wholeOf_137 : decode cX7_wholeOf 137 = .ok (.getfield 35, 3) := by decide +kernel
theorem dX7_wholeOf_140 : decode cX7_wholeOf 140 = .ok (.iconst 3, 1) := by decide +kernel
theorem dX7_wholeOf_141 : decode cX7_wholeOf 141 = .ok (.iload 5, 2) := by decide +kernel
theorem dX7_wholeOf_143 : decode cX7_wholeOf 143 = .ok (.imul, 1) := by decide +kernel
theorem dX7_wholeOf_144 : decode cX7_wholeOf 144 = .ok (.iconst 1, 1) := by decide +kernel
theorem dX7_wholeOf_145 : decode cX7_wholeOf 145 = .ok (.iadd, 1) := by decide +kernel
theorem dX7_wholeOf_146 : decode cX7_wholeOf 146 = .ok (.iaload, 1) := by decide +kernel
theorem dX7_wholeOf_147 : decode cX7_wholeOf 147 = .ok (.iload_n 2, 1) := by decide +kernel
theorem dX7_wholeOf_148 : decode cX7_wholeOf 148 = .ok (.if_icmp .ne 13, 3) := by decide +kernel
theorem dX7_wholeOf_151 : decode cX7_wholeOf 151 = .ok (.aload_n 0, 1) := by decide +kernel
theorem dX7_wholeOf_152 : decode cX7_wholeOf 152 = .ok (.getfield 28, 3) := by decide +kernel
theorem dX7_wholeOf_155 : decode cX7_wholeOf 155 = .ok (.iload 5, 2) := by decide +kernel
theorem dX7_wholeOf_157 : decode cX7_wholeOf 157 = .ok (.iaload, 1) := by decide +kernel
theorem dX7_wholeOf_158 : decode cX7_wholeOf 158 = .ok (.goto 5, 3) := by decide +kernel
theorem dX7_wholeOf_161 : decode cX7_wholeOf 161 = .ok (.iload 4, 2) := by decide +kernel
theorem dX7_wholeOf_163 : decode cX7_wholeOf 163 = .ok (.istore 4, 2) := by decide +kernel
theorem dX7_wholeOf_165 : decode cX7_wholeOf 165 = .ok (.iinc 5 1, 3) := by decide +kernel
theorem dX7_wholeOf_168 : decode cX7_wholeOf 168 = .ok (.goto (-64), 3) := by decide +kernel
theorem dX7_wholeOf_171 : decode cX7_wholeOf 171 = .ok (.iload 4, 2) := by decide +kernel
theorem dX7_wholeOf_173 : decode cX7_wholeOf 173 = .ok (.ireturn, 1) := by decide +kernel
theorem dX7_await_0 : decode cX7_await 0 = .ok (.iload_n 1, 1) := by decide +kernel
theorem dX7_await_1 : decode cX7_await 1 = .ok (.ifCond .lt 23, 3) := by decide +kernel
theorem dX7_await_4 : decode cX7_await 4 = .ok (.aload_n 0, 1) := by decide +kernel
theorem dX7_await_5 : decode cX7_await 5 = .ok (.getfield 53, 3) := by decide +kernel
theorem dX7_await_8 : decode cX7_await 8 = .ok (.aload_n 0, 1) := by decide +kernel
theorem dX7_await_9 : decode cX7_await 9 = .ok (.getfield 93, 3) := by decide +kernel
theorem dX7_await_12 : decode cX7_await 12 = .ok (.iload_n 1, 1) := by decide +kernel
theorem dX7_await_13 : decode cX7_await 13 = .ok (.iastore, 1) := by decide +kernel
theorem dX7_await_14 : decode cX7_await 14 = .ok (.aload_n 0, 1) := by decide +kernel
theorem dX7_await_15 : decode cX7_await 15 = .ok (.dup, 1) := by decide +kernel
theorem dX7_await_16 : decode cX7_await 16 = .ok (.getfield 93, 3) := by decide +kernel
theorem dX7_await_19 : decode cX7_await 19 = .ok (.iconst 1, 1) := by decide +kernel
theorem dX7_await_20 : decode cX7_await 20 = .ok (.iadd, 1) := by decide +kernel
theorem dX7_await_21 : decode cX7_await 21 = .ok (.putfield 93, 3) := by decide +kernel
theorem dX7_await_24 : decode cX7_await 24 = .ok (.return_, 1) := by decide +kernel
theorem dX7_gives_0 : decode cX7_gives 0 = .ok (.iconst 0, 1) := by decide +kernel
theorem dX7_gives_1 : decode cX7_gives 1 = .ok (.istore_n 2, 1) := by decide +kernel
theorem dX7_gives_2 : decode cX7_gives 2 = .ok (.iload_n 2, 1) := by decide +kernel
theorem dX7_gives_3 : decode cX7_gives 3 = .ok (.aload_n 0, 1) := by decide +kernel
theorem dX7_gives_4 : decode cX7_gives 4 = .ok (.getfield 83, 3) := by decide +kernel
theorem dX7_gives_7 : decode cX7_gives 7 = .ok (.if_icmp .ge 16, 3) := by decide +kernel
theorem dX7_gives_10 : decode cX7_gives 10 = .ok (.aload_n 0, 1) := by decide +kernel
theorem dX7_gives_11 : decode cX7_gives 11 = .ok (.getfield 56, 3) := by decide +kernel
theorem dX7_gives_14 : decode cX7_gives 14 = .ok (.iload_n 2, 1) := by decide +kernel
theorem dX7_gives_15 : decode cX7_gives 15 = .ok (.iconst 0, 1) := by decide +kernel
theorem dX7_gives_16 : decode cX7_gives 16 = .ok (.bastore, 1) := by decide +kernel
theorem dX7_gives_17 : decode cX7_gives 17 = .ok (.iinc 2 1, 3) := by decide +kernel
theorem dX7_gives_20 : decode cX7_gives 20 = .ok (.goto (-18), 3) := by decide +kernel
theorem dX7_gives_23 : decode cX7_gives 23 = .ok (.iconst 0, 1) := by decide +kernel
theorem dX7_gives_24 : decode cX7_gives 24 = .ok (.istore_n 2, 1) := by decide +kernel
theorem dX7_gives_25 : decode cX7_gives 25 = .ok (.aload_n 0, 1) := by decide +kernel
theorem dX7_gives_26 : decode cX7_gives 26 = .ok (.getfield 93, 3) := by decide +kernel
theorem dX7_gives_29 : decode cX7_gives 29 = .ok (.ifCond .le 133, 3) := by decide +kernel
theorem dX7_gives_32 : decode cX7_gives 32 = .ok (.aload_n 0, 1) := by decide +kernel
theorem dX7_gives_33 : decode cX7_gives 33 = .ok (.dup, 1) := by decide +kernel
theorem dX7_gives_34 : decode cX7_gives 34 = .ok (.getfield 93, 3) := by decide +kernel
theorem dX7_gives_37 : decode cX7_gives 37 = .ok (.iconst 1, 1) := by decide +kernel
theorem dX7_gives_38 : decode cX7_gives 38 = .ok (.isub, 1) := by decide +kernel
theorem dX7_gives_39 : decode cX7_gives 39 = .ok (.putfield 93, 3) := by decide +kernel
theorem dX7_gives_42 : decode cX7_gives 42 = .ok (.aload_n 0, 1) := by decide +kernel
theorem dX7_gives_43 : decode cX7_gives 43 = .ok (.getfield 53, 3) := by decide +kernel
theorem dX7_gives_46 : decode cX7_gives 46 = .ok (.aload_n 0, 1) := by decide +kernel
theorem dX7_gives_47 : decode cX7_gives 47 = .ok (.getfield 93, 3) := by decide +kernel
theorem dX7_gives_50 : decode cX7_gives 50 = .ok (.iaload, 1) := by decide +kernel
theorem dX7_gives_51 : decode cX7_gives 51 = .ok (.istore_n 3, 1) := by decide +kernel
theorem dX7_gives_52 : decode cX7_gives 52 = .ok (.iload_n 2, 1) := by decide +kernel
theorem dX7_gives_53 : decode cX7_gives 53 = .ok (.ifCond .ne 8, 3) := by decide +kernel
theorem dX7_gives_56 : decode cX7_gives 56 = .ok (.iload_n 3, 1) := by decide +kernel
theorem dX7_gives_57 : decode cX7_gives 57 = .ok (.iload_n 1, 1) := by decide +kernel
theorem dX7_gives_58 : decode cX7_gives 58 = .ok (.if_icmp .ne 7, 3) := by decide +kernel
theorem dX7_gives_61 : decode cX7_gives 61 = .ok (.iconst 1, 1) := by decide +kernel
theorem dX7_gives_62 : decode cX7_gives 62 = .ok (.goto 4, 3) := by decide +kernel
theorem dX7_gives_65 : decode cX7_gives 65 = .ok (.iconst 0, 1) := by decide +kernel
theorem dX7_gives_66 : decode cX7_gives 66 = .ok (.istore_n 2, 1) := by decide +kernel
theorem dX7_gives_67 : decode cX7_gives 67 = .ok (.iload_n 3, 1) := by decide +kernel
theorem dX7_gives_68 : decode cX7_gives 68 = .ok (.invokestatic 86, 3) := by decide +kernel
theorem dX7_gives_71 : decode cX7_gives 71 = .ok (.ifCond .eq 7, 3) := by decide +kernel
theorem dX7_gives_74 : decode cX7_gives 74 = .ok (.iconst (-1), 1) := by decide +kernel
theorem dX7_gives_75 : decode cX7_gives 75 = .ok (.goto 8, 3) := by decide +kernel
theorem dX7_gives_78 : decode cX7_gives 78 = .ok (.aload_n 0, 1) := by decide +kernel
theorem dX7_gives_79 : decode cX7_gives 79 = .ok (.iload_n 3, 1) := by decide +kernel
theorem dX7_gives_80 : decode cX7_gives 80 = .ok (.invokevirtual 89, 3) := by decide +kernel
theorem dX7_gives_83 : decode cX7_gives 83 = .ok (.istore 4, 2) := by decide +kernel
theorem dX7_gives_85 : decode cX7_gives 85 = .ok (.iload_n 3, 1) := by decide +kernel
theorem dX7_gives_86 : decode cX7_gives 86 = .ok (.invokestatic 86, 3) := by decide +kernel
theorem dX7_gives_89 : decode cX7_gives 89 = .ok (.ifCond .ne 18, 3) := by decide +kernel
theorem dX7_gives_92 : decode cX7_gives 92 = .ok (.iload 4, 2) := by decide +kernel
theorem dX7_gives_94 : decode cX7_gives 94 = .ok (.ifCond .lt 17, 3) := by decide +kernel
theorem dX7_gives_97 : decode cX7_gives 97 = .ok (.aload_n 0, 1) := by decide +kernel
theorem dX7_gives_98 : decode cX7_gives 98 = .ok (.getfield 56, 3) := by decide +kernel
theorem dX7_gives_101 : decode cX7_gives 101 = .ok (.iload 4, 2) := by decide +kernel
theorem dX7_gives_103 : decode cX7_gives 103 = .ok (.baload, 1) := by decide +kernel
theorem dX7_gives_104 : decode cX7_gives 104 = .ok (.ifCond .ne 7, 3) := by decide +kernel
theorem dX7_gives_107 : decode cX7_gives 107 = .ok (.iconst 1, 1) := by decide +kernel
theorem dX7_gives_108 : decode cX7_gives 108 = .ok (.goto 4, 3) := by decide +kernel
theorem dX7_gives_111 : decode cX7_gives 111 = .ok (.iconst 0, 1) := by decide +kernel
theorem dX7_gives_112 : decode cX7_gives 112 = .ok (.istore 5, 2) := by decide +kernel
theorem dX7_gives_114 : decode cX7_gives 114 = .ok (.iload 4, 2) := by decide +kernel
theorem dX7_gives_116 : decode cX7_gives 116 = .ok (.ifCond .lt 11, 3) := by decide +kernel
theorem dX7_gives_119 : decode cX7_gives 119 = .ok (.aload_n 0, 1) := by decide +kernel
theorem dX7_gives_120 : decode cX7_gives 120 = .ok (.getfield 56, 3) := by decide +kernel
theorem dX7_gives_123 : decode cX7_gives 123 = .ok (.iload 4, 2) := by decide +kernel
theorem dX7_gives_125 : decode cX7_gives 125 = .ok (.iconst 1, 1) := by decide +kernel
theorem dX7_gives_126 : decode cX7_gives 126 = .ok (.bastore, 1) := by decide +kernel
theorem dX7_gives_127 : decode cX7_gives 127 = .ok (.iconst 0, 1) := by decide +kernel
theorem dX7_gives_128 : decode cX7_gives 128 = .ok (.istore 6, 2) := by decide +kernel
theorem dX7_gives_130 : decode cX7_gives 130 = .ok (.iload 6, 2) := by decide +kernel
theorem dX7_gives_132 : decode cX7_gives 132 = .ok (.iconst 3, 1) := by decide +kernel
theorem dX7_gives_133 : decode cX7_gives 133 = .ok (.if_icmp .ge 26, 3) := by decide +kernel
theorem dX7_gives_136 : decode cX7_gives 136 = .ok (.iload 5, 2) := by decide +kernel
theorem dX7_gives_138 : decode cX7_gives 138 = .ok (.ifCond .eq 21, 3) := by decide +kernel
theorem dX7_gives_141 : decode cX7_gives 141 = .ok (.aload_n 0, 1) := by decide +kernel
theorem dX7_gives_142 : decode cX7_gives 142 = .ok (.aload_n 0, 1) := by decide +kernel
theorem dX7_gives_143 : decode cX7_gives 143 = .ok (.iload_n 3, 1) := by decide +kernel
theorem dX7_gives_144 : decode cX7_gives 144 = .ok (.iload 6, 2) := by decide +kernel
theorem dX7_gives_146 : decode cX7_gives 146 = .ok (.iconst 1, 1) := by decide +kernel
theorem dX7_gives_147 : decode cX7_gives 147 = .ok (.invokevirtual 96, 3) := by decide +kernel
theorem dX7_gives_150 : decode cX7_gives 150 = .ok (.invokevirtual 100, 3) := by decide +kernel
theorem dX7_gives_153 : decode cX7_gives 153 = .ok (.iinc 6 1, 3) := by decide +kernel
theorem dX7_gives_156 : decode cX7_gives 156 = .ok (.goto (-26), 3) := by decide +kernel
theorem dX7_gives_159 : decode cX7_gives 159 = .ok (.goto (-134), 3) := by decide +kernel
theorem dX7_gives_162 : decode cX7_gives 162 = .ok (.iload_n 2, 1) := by decide +kernel
theorem dX7_gives_163 : decode cX7_gives 163 = .ok (.ireturn, 1) := by decide +kernel
theorem dX7_givesOne_0 : decode cX7_givesOne 0 = .ok (.aload_n 0, 1) := by decide +kernel
theorem dX7_givesOne_1 : decode cX7_givesOne 1 = .ok (.iconst 0, 1) := by decide +kernel
theorem dX7_givesOne_2 : decode cX7_givesOne 2 = .ok (.putfield 93, 3) := by decide +kernel
theorem dX7_givesOne_5 : decode cX7_givesOne 5 = .ok (.aload_n 0, 1) := by decide +kernel
theorem dX7_givesOne_6 : decode cX7_givesOne 6 = .ok (.iload_n 2, 1) := by decide +kernel
theorem dX7_givesOne_7 : decode cX7_givesOne 7 = .ok (.invokevirtual 100, 3) := by decide +kernel
theorem dX7_givesOne_10 : decode cX7_givesOne 10 = .ok (.aload_n 0, 1) := by decide +kernel
theorem dX7_givesOne_11 : decode cX7_givesOne 11 = .ok (.iload_n 3, 1) := by decide +kernel
theorem dX7_givesOne_12 : decode cX7_givesOne 12 = .ok (.invokevirtual 100, 3) := by decide +kernel
theorem dX7_givesOne_15 : decode cX7_givesOne 15 = .ok (.aload_n 0, 1) := by decide +kernel
theorem dX7_givesOne_16 : decode cX7_givesOne 16 = .ok (.iload 4, 2) := by decide +kernel
theorem dX7_givesOne_18 : decode cX7_givesOne 18 = .ok (.invokevirtual 100, 3) := by decide +kernel
theorem dX7_givesOne_21 : decode cX7_givesOne 21 = .ok (.aload_n 0, 1) := by decide +kernel
theorem dX7_givesOne_22 : decode cX7_givesOne 22 = .ok (.iload_n 1, 1) := by decide +kernel
theorem dX7_givesOne_23 : decode cX7_givesOne 23 = .ok (.invokevirtual 104, 3) := by decide +kernel
theorem dX7_givesOne_26 : decode cX7_givesOne 26 = .ok (.ireturn, 1) := by decide +kernel
theorem dX7_addRow_0 : decode cX7_addRow 0 = .ok (.aload_n 0, 1) := by decide +kernel
theorem dX7_addRow_1 : decode cX7_addRow 1 = .ok (.getfield 28, 3) := by decide +kernel
theorem dX7_addRow_4 : decode cX7_addRow 4 = .ok (.aload_n 0, 1) := by decide +kernel
theorem dX7_addRow_5 : decode cX7_addRow 5 = .ok (.getfield 83, 3) := by decide +kernel
theorem dX7_addRow_8 : decode cX7_addRow 8 = .ok (.iload_n 1, 1) := by decide +kernel
theorem dX7_addRow_9 : decode cX7_addRow 9 = .ok (.iastore, 1) := by decide +kernel
theorem dX7_addRow_10 : decode cX7_addRow 10 = .ok (.aload_n 0, 1) := by decide +kernel
theorem dX7_addRow_11 : decode cX7_addRow 11 = .ok (.getfield 31, 3) := by decide +kernel
theorem dX7_addRow_14 : decode cX7_addRow 14 = .ok (.aload_n 0, 1) := by decide +kernel
theorem dX7_addRow_15 : decode cX7_addRow 15 = .ok (.getfield 83, 3) := by decide +kernel
theorem dX7_addRow_18 : decode cX7_addRow 18 = .ok (.iload_n 2, 1) := by decide +kernel
theorem dX7_addRow_19 : decode cX7_addRow 19 = .ok (.bastore, 1) := by decide +kernel
theorem dX7_addRow_20 : decode cX7_addRow 20 = .ok (.aload_n 0, 1) := by decide +kernel
theorem dX7_addRow_21 : decode cX7_addRow 21 = .ok (.getfield 35, 3) := by decide +kernel
theorem dX7_addRow_24 : decode cX7_addRow 24 = .ok (.iconst 3, 1) := by decide +kernel
theorem dX7_addRow_25 : decode cX7_addRow 25 = .ok (.aload_n 0, 1) := by decide +kernel
theorem dX7_addRow_26 : decode cX7_addRow 26 = .ok (.getfield 83, 3) := by decide +kernel
theorem dX7_addRow_29 : decode cX7_addRow 29 = .ok (.imul, 1) := by decide +kernel
theorem dX7_addRow_30 : decode cX7_addRow 30 = .ok (.iload_n 3, 1) := by decide +kernel
theorem dX7_addRow_31 : decode cX7_addRow 31 = .ok (.iastore, 1) := by decide +kernel
theorem dX7_addRow_32 : decode cX7_addRow 32 = .ok (.aload_n 0, 1) := by decide +kernel
theorem dX7_addRow_33 : decode cX7_addRow 33 = .ok (.getfield 35, 3) := by decide +kernel
theorem dX7_addRow_36 : decode cX7_addRow 36 = .ok (.iconst 3, 1) := by decide +kernel
theorem dX7_addRow_37 : decode cX7_addRow 37 = .ok (.aload_n 0, 1) := by decide +kernel
theorem dX7_addRow_38 : decode cX7_addRow 38 = .ok (.getfield 83, 3) := by decide +kernel
theorem dX7_addRow_41 : decode cX7_addRow 41 = .ok (.imul, 1) := by decide +kernel
theorem dX7_addRow_42 : decode cX7_addRow 42 = .ok (.iconst 1, 1) := by decide +kernel
theorem dX7_addRow_43 : decode cX7_addRow 43 = .ok (.iadd, 1) := by decide +kernel
theorem dX7_addRow_44 : decode cX7_addRow 44 = .ok (.iload 4, 2) := by decide +kernel
theorem dX7_addRow_46 : decode cX7_addRow 46 = .ok (.iastore, 1) := by decide +kernel
theorem dX7_addRow_47 : decode cX7_addRow 47 = .ok (.aload_n 0, 1) := by decide +kernel
theorem dX7_addRow_48 : decode cX7_addRow 48 = .ok (.getfield 35, 3) := by decide +kernel
theorem dX7_addRow_51 : decode cX7_addRow 51 = .ok (.iconst 3, 1) := by decide +kernel
theorem dX7_addRow_52 : decode cX7_addRow 52 = .ok (.aload_n 0, 1) := by decide +kernel
theorem dX7_addRow_53 : decode cX7_addRow 53 = .ok (.getfield 83, 3) := by decide +kernel
theorem dX7_addRow_56 : decode cX7_addRow 56 = .ok (.imul, 1) := by decide +kernel
theorem dX7_addRow_57 : decode cX7_addRow 57 = .ok (.iconst 2, 1) := by decide +kernel
theorem dX7_addRow_58 : decode cX7_addRow 58 = .ok (.iadd, 1) := by decide +kernel
theorem dX7_addRow_59 : decode cX7_addRow 59 = .ok (.iload 5, 2) := by decide +kernel
theorem dX7_addRow_61 : decode cX7_addRow 61 = .ok (.iastore, 1) := by decide +kernel
theorem dX7_addRow_62 : decode cX7_addRow 62 = .ok (.aload_n 0, 1) := by decide +kernel
theorem dX7_addRow_63 : decode cX7_addRow 63 = .ok (.dup, 1) := by decide +kernel
theorem dX7_addRow_64 : decode cX7_addRow 64 = .ok (.getfield 83, 3) := by decide +kernel
theorem dX7_addRow_67 : decode cX7_addRow 67 = .ok (.iconst 1, 1) := by decide +kernel
theorem dX7_addRow_68 : decode cX7_addRow 68 = .ok (.iadd, 1) := by decide +kernel
theorem dX7_addRow_69 : decode cX7_addRow 69 = .ok (.putfield 83, 3) := by decide +kernel
theorem dX7_addRow_72 : decode cX7_addRow 72 = .ok (.return_, 1) := by decide +kernel
theorem dX7_canHaveRow_0 : decode cX7_canHaveRow 0 = .ok (.iload_n 1, 1) := by decide +kernel
theorem dX7_canHaveRow_1 : decode cX7_canHaveRow 1 = .ok (.invokestatic 64, 3) := by decide +kernel
theorem dX7_canHaveRow_4 : decode cX7_canHaveRow 4 = .ok (.ifCond .eq 22, 3) := by decide +kernel
theorem dX7_canHaveRow_7 : decode cX7_canHaveRow 7 = .ok (.iload_n 1, 1) := by decide +kernel
theorem dX7_canHaveRow_8 : decode cX7_canHaveRow 8 = .ok (.invokestatic 86, 3) := by decide +kernel
theorem dX7_canHaveRow_11 : decode cX7_canHaveRow 11 = .ok (.ifCond .ne 15, 3) := by decide +kernel
theorem dX7_canHaveRow_14 : decode cX7_canHaveRow 14 = .ok (.aload_n 0, 1) := by decide +kernel
theorem dX7_canHaveRow_15 : decode cX7_canHaveRow 15 = .ok (.iload_n 1, 1) := by decide +kernel
theorem dX7_canHaveRow_16 : decode cX7_canHaveRow 16 = .ok (.invokevirtual 89, 3) := by decide +kernel
theorem dX7_canHaveRow_19 : decode cX7_canHaveRow 19 = .ok (.ifCond .ge 7, 3) := by decide +kernel
theorem dX7_canHaveRow_22 : decode cX7_canHaveRow 22 = .ok (.iconst 1, 1) := by decide +kernel
theorem dX7_canHaveRow_23 : decode cX7_canHaveRow 23 = .ok (.goto 4, 3) := by decide +kernel
theorem dX7_canHaveRow_26 : decode cX7_canHaveRow 26 = .ok (.iconst 0, 1) := by decide +kernel
theorem dX7_canHaveRow_27 : decode cX7_canHaveRow 27 = .ok (.ireturn, 1) := by decide +kernel
theorem dX7_part_0 : decode cX7_part 0 = .ok (.aload_n 0, 1) := by decide +kernel
theorem dX7_part_1 : decode cX7_part 1 = .ok (.iload_n 1, 1) := by decide +kernel
theorem dX7_part_2 : decode cX7_part 2 = .ok (.invokevirtual 107, 3) := by decide +kernel
theorem dX7_part_5 : decode cX7_part 5 = .ok (.ifCond .eq 21, 3) := by decide +kernel
theorem dX7_part_8 : decode cX7_part 8 = .ok (.iload_n 2, 1) := by decide +kernel
theorem dX7_part_9 : decode cX7_part 9 = .ok (.invokestatic 64, 3) := by decide +kernel
theorem dX7_part_12 : decode cX7_part 12 = .ok (.ifCond .eq 14, 3) := by decide +kernel
theorem dX7_part_15 : decode cX7_part 15 = .ok (.iload_n 3, 1) := by decide +kernel
theorem dX7_part_16 : decode cX7_part 16 = .ok (.invokestatic 110, 3) := by decide +kernel
theorem dX7_part_19 : decode cX7_part 19 = .ok (.ifCond .eq 7, 3) := by decide +kernel
theorem dX7_part_22 : decode cX7_part 22 = .ok (.iconst 1, 1) := by decide +kernel
theorem dX7_part_23 : decode cX7_part 23 = .ok (.goto 4, 3) := by decide +kernel
theorem dX7_part_26 : decode cX7_part 26 = .ok (.iconst 0, 1) := by decide +kernel
theorem dX7_part_27 : decode cX7_part 27 = .ok (.istore 4, 2) := by decide +kernel
theorem dX7_part_29 : decode cX7_part 29 = .ok (.iload 4, 2) := by decide +kernel
theorem dX7_part_31 : decode cX7_part 31 = .ok (.ifCond .eq 20, 3) := by decide +kernel
theorem dX7_part_34 : decode cX7_part 34 = .ok (.iload_n 3, 1) := by decide +kernel
theorem dX7_part_35 : decode cX7_part 35 = .ok (.ifCond .lt 12, 3) := by decide +kernel
theorem dX7_part_38 : decode cX7_part 38 = .ok (.aload_n 0, 1) := by decide +kernel
theorem dX7_part_39 : decode cX7_part 39 = .ok (.iload_n 2, 1) := by decide +kernel
theorem dX7_part_40 : decode cX7_part 40 = .ok (.iload_n 3, 1) := by decide +kernel
theorem dX7_part_41 : decode cX7_part 41 = .ok (.invokevirtual 113, 3) := by decide +kernel
theorem dX7_part_44 : decode cX7_part 44 = .ok (.ifCond .ge 7, 3) := by decide +kernel
theorem dX7_part_47 : decode cX7_part 47 = .ok (.iconst 1, 1) := by decide +kernel
theorem dX7_part_48 : decode cX7_part 48 = .ok (.goto 4, 3) := by decide +kernel
theorem dX7_part_51 : decode cX7_part 51 = .ok (.iconst 0, 1) := by decide +kernel
theorem dX7_part_52 : decode cX7_part 52 = .ok (.istore 4, 2) := by decide +kernel
theorem dX7_part_54 : decode cX7_part 54 = .ok (.iload 4, 2) := by decide +kernel
theorem dX7_part_56 : decode cX7_part 56 = .ok (.ifCond .eq 18, 3) := by decide +kernel
theorem dX7_part_59 : decode cX7_part 59 = .ok (.aload_n 0, 1) := by decide +kernel
theorem dX7_part_60 : decode cX7_part 60 = .ok (.iload_n 1, 1) := by decide +kernel
theorem dX7_part_61 : decode cX7_part 61 = .ok (.iload_n 2, 1) := by decide +kernel
theorem dX7_part_62 : decode cX7_part 62 = .ok (.iload_n 3, 1) := by decide +kernel
theorem dX7_part_63 : decode cX7_part 63 = .ok (.iconst (-1), 1) := by decide +kernel
theorem dX7_part_64 : decode cX7_part 64 = .ok (.invokevirtual 117, 3) := by decide +kernel
theorem dX7_part_67 : decode cX7_part 67 = .ok (.ifCond .ne 7, 3) := by decide +kernel
theorem dX7_part_70 : decode cX7_part 70 = .ok (.iconst 1, 1) := by decide +kernel
theorem dX7_part_71 : decode cX7_part 71 = .ok (.goto 4, 3) := by decide +kernel
theorem dX7_part_74 : decode cX7_part 74 = .ok (.iconst 0, 1) := by decide +kernel
theorem dX7_part_75 : decode cX7_part 75 = .ok (.istore 4, 2) := by decide +kernel
theorem dX7_part_77 : decode cX7_part 77 = .ok (.aload_n 0, 1) := by decide +kernel
theorem dX7_part_78 : decode cX7_part 78 = .ok (.iload 4, 2) := by decide +kernel
theorem dX7_part_80 : decode cX7_part 80 = .ok (.ifCond .ne 7, 3) := by decide +kernel
theorem dX7_part_83 : decode cX7_part 83 = .ok (.iconst 1, 1) := by decide +kernel
theorem dX7_part_84 : decode cX7_part 84 = .ok (.goto 17, 3) := by decide +kernel
theorem dX7_part_87 : decode cX7_part 87 = .ok (.aload_n 0, 1) := by decide +kernel
theorem dX7_part_88 : decode cX7_part 88 = .ok (.getfield 83, 3) := by decide +kernel
theorem dX7_part_91 : decode cX7_part 91 = .ok (.bipush 120, 2) := by decide +kernel
theorem dX7_part_93 : decode cX7_part 93 = .ok (.if_icmp .ne 7, 3) := by decide +kernel
theorem dX7_part_96 : decode cX7_part 96 = .ok (.iconst 2, 1) := by decide +kernel
theorem dX7_part_97 : decode cX7_part 97 = .ok (.goto 4, 3) := by decide +kernel
theorem dX7_part_100 : decode cX7_part 100 = .ok (.iconst 0, 1) := by decide +kernel
theorem dX7_part_101 : decode cX7_part 101 = .ok (.invokevirtual 75, 3) := by decide +kernel
theorem dX7_part_104 : decode cX7_part 104 = .ok (.ifCond .ne 12, 3) := by decide +kernel
theorem dX7_part_107 : decode cX7_part 107 = .ok (.aload_n 0, 1) := by decide +kernel
theorem dX7_part_108 : decode cX7_part 108 = .ok (.iload_n 1, 1) := by decide +kernel
theorem dX7_part_109 : decode cX7_part 109 = .ok (.iconst 0, 1) := by decide +kernel
theorem dX7_part_110 : decode cX7_part 110 = .ok (.iload_n 2, 1) := by decide +kernel
theorem dX7_part_111 : decode cX7_part 111 = .ok (.iload_n 3, 1) := by decide +kernel
theorem dX7_part_112 : decode cX7_part 112 = .ok (.iconst (-1), 1) := by decide +kernel
theorem dX7_part_113 : decode cX7_part 113 = .ok (.invokevirtual 121, 3) := by decide +kernel
theorem dX7_part_116 : decode cX7_part 116 = .ok (.return_, 1) := by decide +kernel
theorem dX7_loose_0 : decode cX7_loose 0 = .ok (.aload_n 0, 1) := by decide +kernel
theorem dX7_loose_1 : decode cX7_loose 1 = .ok (.iload_n 1, 1) := by decide +kernel
theorem dX7_loose_2 : decode cX7_loose 2 = .ok (.invokevirtual 107, 3) := by decide +kernel
theorem dX7_loose_5 : decode cX7_loose 5 = .ok (.ifCond .eq 38, 3) := by decide +kernel
theorem dX7_loose_8 : decode cX7_loose 8 = .ok (.iload_n 2, 1) := by decide +kernel
theorem dX7_loose_9 : decode cX7_loose 9 = .ok (.invokestatic 64, 3) := by decide +kernel
theorem dX7_loose_12 : decode cX7_loose 12 = .ok (.ifCond .eq 31, 3) := by decide +kernel
theorem dX7_loose_15 : decode cX7_loose 15 = .ok (.iload_n 3, 1) := by decide +kernel
theorem dX7_loose_16 : decode cX7_loose 16 = .ok (.invokestatic 110, 3) := by decide +kernel
theorem dX7_loose_19 : decode cX7_loose 19 = .ok (.ifCond .eq 24, 3) := by decide +kernel
theorem dX7_loose_22 : decode cX7_loose 22 = .ok (.iload 4, 2) := by decide +kernel
theorem dX7_loose_24 : decode cX7_loose 24 = .ok (.invokestatic 110, 3) := by decide +kernel
theorem dX7_loose_27 : decode cX7_loose 27 = .ok (.ifCond .eq 16, 3) := by decide +kernel
theorem dX7_loose_30 : decode cX7_loose 30 = .ok (.iload_n 3, 1) := by decide +kernel
theorem dX7_loose_31 : decode cX7_loose 31 = .ok (.ifCond .ge 8, 3) := by decide +kernel
theorem dX7_loose_34 : decode cX7_loose 34 = .ok (.iload 4, 2) := by decide +kernel
theorem dX7_loose_36 : decode cX7_loose 36 = .ok (.ifCond .ge 7, 3) := by decide +kernel
theorem dX7_loose_39 : decode cX7_loose 39 = .ok (.iconst 1, 1) := by decide +kernel
theorem dX7_loose_40 : decode cX7_loose 40 = .ok (.goto 4, 3) := by decide +kernel
theorem dX7_loose_43 : decode cX7_loose 43 = .ok (.iconst 0, 1) := by decide +kernel
theorem dX7_loose_44 : decode cX7_loose 44 = .ok (.istore 5, 2) := by decide +kernel
theorem dX7_loose_46 : decode cX7_loose 46 = .ok (.iload 5, 2) := by decide +kernel
theorem dX7_loose_48 : decode cX7_loose 48 = .ok (.ifCond .eq 19, 3) := by decide +kernel
theorem dX7_loose_51 : decode cX7_loose 51 = .ok (.aload_n 0, 1) := by decide +kernel
theorem dX7_loose_52 : decode cX7_loose 52 = .ok (.iload_n 1, 1) := by decide +kernel
theorem dX7_loose_53 : decode cX7_loose 53 = .ok (.iload_n 2, 1) := by decide +kernel
theorem dX7_loose_54 : decode cX7_loose 54 = .ok (.iload_n 3, 1) := by decide +kernel
theorem dX7_loose_55 : decode cX7_loose 55 = .ok (.iload 4, 2) := by decide +kernel
theorem dX7_loose_57 : decode cX7_loose 57 = .ok (.invokevirtual 117, 3) := by decide +kernel
theorem dX7_loose_60 : decode cX7_loose 60 = .ok (.ifCond .ne 7, 3) := by decide +kernel
theorem dX7_loose_63 : decode cX7_loose 63 = .ok (.iconst 1, 1) := by decide +kernel
theorem dX7_loose_64 : decode cX7_loose 64 = .ok (.goto 4, 3) := by decide +kernel
theorem dX7_loose_67 : decode cX7_loose 67 = .ok (.iconst 0, 1) := by decide +kernel
theorem dX7_loose_68 : decode cX7_loose 68 = .ok (.istore 5, 2) := by decide +kernel
theorem dX7_loose_70 : decode cX7_loose 70 = .ok (.aload_n 0, 1) := by decide +kernel
theorem dX7_loose_71 : decode cX7_loose 71 = .ok (.iload 5, 2) := by decide +kernel
theorem dX7_loose_73 : decode cX7_loose 73 = .ok (.ifCond .ne 7, 3) := by decide +kernel
theorem dX7_loose_76 : decode cX7_loose 76 = .ok (.iconst 1, 1) := by decide +kernel
theorem dX7_loose_77 : decode cX7_loose 77 = .ok (.goto 17, 3) := by decide +kernel
theorem dX7_loose_80 : decode cX7_loose 80 = .ok (.aload_n 0, 1) := by decide +kernel
theorem dX7_loose_81 : decode cX7_loose 81 = .ok (.getfield 83, 3) := by decide +kernel
theorem dX7_loose_84 : decode cX7_loose 84 = .ok (.bipush 120, 2) := by decide +kernel
theorem dX7_loose_86 : decode cX7_loose 86 = .ok (.if_icmp .ne 7, 3) := by decide +kernel
theorem dX7_loose_89 : decode cX7_loose 89 = .ok (.iconst 2, 1) := by decide +kernel
theorem dX7_loose_90 : decode cX7_loose 90 = .ok (.goto 4, 3) := by decide +kernel
theorem dX7_loose_93 : decode cX7_loose 93 = .ok (.iconst 0, 1) := by decide +kernel
theorem dX7_loose_94 : decode cX7_loose 94 = .ok (.invokevirtual 75, 3) := by decide +kernel
theorem dX7_loose_97 : decode cX7_loose 97 = .ok (.ifCond .ne 13, 3) := by decide +kernel
theorem dX7_loose_100 : decode cX7_loose 100 = .ok (.aload_n 0, 1) := by decide +kernel
theorem dX7_loose_101 : decode cX7_loose 101 = .ok (.iload_n 1, 1) := by decide +kernel
theorem dX7_loose_102 : decode cX7_loose 102 = .ok (.iconst 1, 1) := by decide +kernel
theorem dX7_loose_103 : decode cX7_loose 103 = .ok (.iload_n 2, 1) := by decide +kernel
theorem dX7_loose_104 : decode cX7_loose 104 = .ok (.iload_n 3, 1) := by decide +kernel
theorem dX7_loose_105 : decode cX7_loose 105 = .ok (.iload 4, 2) := by decide +kernel
theorem dX7_loose_107 : decode cX7_loose 107 = .ok (.invokevirtual 121, 3) := by decide +kernel
theorem dX7_loose_110 : decode cX7_loose 110 = .ok (.return_, 1) := by decide +kernel
theorem dX7_outAt_0 : decode cX7_outAt 0 = .ok (.iconst (-1), 1) := by decide +kernel
theorem dX7_outAt_1 : decode cX7_outAt 1 = .ok (.istore_n 2, 1) := by decide +kernel
theorem dX7_outAt_2 : decode cX7_outAt 2 = .ok (.iconst 0, 1) := by decide +kernel
theorem dX7_outAt_3 : decode cX7_outAt 3 = .ok (.istore_n 3, 1) := by decide +kernel
theorem dX7_outAt_4 : decode cX7_outAt 4 = .ok (.iload_n 3, 1) := by decide +kernel
theorem dX7_outAt_5 : decode cX7_outAt 5 = .ok (.aload_n 0, 1) := by decide +kernel
theorem dX7_outAt_6 : decode cX7_outAt 6 = .ok (.getfield 125, 3) := by decide +kernel
theorem dX7_outAt_9 : decode cX7_outAt 9 = .ok (.if_icmp .ge 25, 3) := by decide +kernel
theorem dX7_outAt_12 : decode cX7_outAt 12 = .ok (.aload_n 0, 1) := by decide +kernel
theorem dX7_outAt_13 : decode cX7_outAt 13 = .ok (.getfield 38, 3) := by decide +kernel
theorem dX7_outAt_16 : decode cX7_outAt 16 = .ok (.iload_n 3, 1) := by decide +kernel
theorem dX7_outAt_17 : decode cX7_outAt 17 = .ok (.iaload, 1) := by decide +kernel
theorem dX7_outAt_18 : decode cX7_outAt 18 = .ok (.iload_n 1, 1) := by decide +kernel
theorem dX7_outAt_19 : decode cX7_outAt 19 = .ok (.if_icmp .ne 7, 3) := by decide +kernel
theorem dX7_outAt_22 : decode cX7_outAt 22 = .ok (.iload_n 3, 1) := by decide +kernel
theorem dX7_outAt_23 : decode cX7_outAt 23 = .ok (.goto 4, 3) := by decide +kernel
theorem dX7_outAt_26 : decode cX7_outAt 26 = .ok (.iload_n 2, 1) := by decide +kernel
theorem dX7_outAt_27 : decode cX7_outAt 27 = .ok (.istore_n 2, 1) := by decide +kernel
theorem dX7_outAt_28 : decode cX7_outAt 28 = .ok (.iinc 3 1, 3) := by decide +kernel
theorem dX7_outAt_31 : decode cX7_outAt 31 = .ok (.goto (-27), 3) := by decide +kernel
theorem dX7_outAt_34 : decode cX7_outAt 34 = .ok (.iload_n 2, 1) := by decide +kernel
theorem dX7_outAt_35 : decode cX7_outAt 35 = .ok (.ireturn, 1) := by decide +kernel
theorem dX7_exclude_0 : decode cX7_exclude 0 = .ok (.aload_n 0, 1) := by decide +kernel
theorem dX7_exclude_1 : decode cX7_exclude 1 = .ok (.iload_n 1, 1) := by decide +kernel
theorem dX7_exclude_2 : decode cX7_exclude 2 = .ok (.invokevirtual 128, 3) := by decide +kernel
theorem dX7_exclude_5 : decode cX7_exclude 5 = .ok (.istore_n 3, 1) := by decide +kernel
theorem dX7_exclude_6 : decode cX7_exclude 6 = .ok (.aload_n 0, 1) := by decide +kernel
theorem dX7_exclude_7 : decode cX7_exclude 7 = .ok (.iload_n 1, 1) := by decide +kernel
theorem dX7_exclude_8 : decode cX7_exclude 8 = .ok (.invokestatic 64, 3) := by decide +kernel
theorem dX7_exclude_11 : decode cX7_exclude 11 = .ok (.ifCond .ne 7, 3) := by decide +kernel
theorem dX7_exclude_14 : decode cX7_exclude 14 = .ok (.iconst 1, 1) := by decide +kernel
theorem dX7_exclude_15 : decode cX7_exclude 15 = .ok (.goto 25, 3) := by decide +kernel
theorem dX7_exclude_18 : decode cX7_exclude 18 = .ok (.iload_n 2, 1) := by decide +kernel
theorem dX7_exclude_19 : decode cX7_exclude 19 = .ok (.ifCond .eq 20, 3) := by decide +kernel
theorem dX7_exclude_22 : decode cX7_exclude 22 = .ok (.iload_n 3, 1) := by decide +kernel
theorem dX7_exclude_23 : decode cX7_exclude 23 = .ok (.ifCond .ge 16, 3) := by decide +kernel
theorem dX7_exclude_26 : decode cX7_exclude 26 = .ok (.aload_n 0, 1) := by decide +kernel
theorem dX7_exclude_27 : decode cX7_exclude 27 = .ok (.getfield 125, 3) := by decide +kernel
theorem dX7_exclude_30 : decode cX7_exclude 30 = .ok (.bipush 60, 2) := by decide +kernel
theorem dX7_exclude_32 : decode cX7_exclude 32 = .ok (.if_icmp .ne 7, 3) := by decide +kernel
theorem dX7_exclude_35 : decode cX7_exclude 35 = .ok (.iconst 2, 1) := by decide +kernel
theorem dX7_exclude_36 : decode cX7_exclude 36 = .ok (.goto 4, 3) := by decide +kernel
theorem dX7_exclude_39 : decode cX7_exclude 39 = .ok (.iconst 0, 1) := by decide +kernel
theorem dX7_exclude_40 : decode cX7_exclude 40 = .ok (.invokevirtual 75, 3) := by decide +kernel
theorem dX7_exclude_43 : decode cX7_exclude 43 = .ok (.ifCond .eq 4, 3) := by decide +kernel
theorem dX7_exclude_46 : decode cX7_exclude 46 = .ok (.return_, 1) := by decide +kernel
theorem dX7_exclude_47 : decode cX7_exclude 47 = .ok (.iload_n 2, 1) := by decide +kernel
theorem dX7_exclude_48 : decode cX7_exclude 48 = .ok (.ifCond .eq 27, 3) := by decide +kernel
theorem dX7_exclude_51 : decode cX7_exclude 51 = .ok (.iload_n 3, 1) := by decide +kernel
theorem dX7_exclude_52 : decode cX7_exclude 52 = .ok (.ifCond .ge 23, 3) := by decide +kernel
theorem dX7_exclude_55 : decode cX7_exclude 55 = .ok (.aload_n 0, 1) := by decide +kernel
theorem dX7_exclude_56 : decode cX7_exclude 56 = .ok (.getfield 38, 3) := by decide +kernel
theorem dX7_exclude_59 : decode cX7_exclude 59 = .ok (.aload_n 0, 1) := by decide +kernel
theorem dX7_exclude_60 : decode cX7_exclude 60 = .ok (.getfield 125, 3) := by decide +kernel
theorem dX7_exclude_63 : decode cX7_exclude 63 = .ok (.iload_n 1, 1) := by decide +kernel
theorem dX7_exclude_64 : decode cX7_exclude 64 = .ok (.iastore, 1) := by decide +kernel
theorem dX7_exclude_65 : decode cX7_exclude 65 = .ok (.aload_n 0, 1) := by decide +kernel
theorem dX7_exclude_66 : decode cX7_exclude 66 = .ok (.dup, 1) := by decide +kernel
theorem dX7_exclude_67 : decode cX7_exclude 67 = .ok (.getfield 125, 3) := by decide +kernel
theorem dX7_exclude_70 : decode cX7_exclude 70 = .ok (.iconst 1, 1) := by decide +kernel
theorem dX7_exclude_71 : decode cX7_exclude 71 = .ok (.iadd, 1) := by decide +kernel
theorem dX7_exclude_72 : decode cX7_exclude 72 = .ok (.putfield 125, 3) := by decide +kernel
theorem dX7_exclude_75 : decode cX7_exclude 75 = .ok (.iload_n 2, 1) := by decide +kernel
theorem dX7_exclude_76 : decode cX7_exclude 76 = .ok (.ifCond .ne 32, 3) := by decide +kernel
theorem dX7_exclude_79 : decode cX7_exclude 79 = .ok (.iload_n 3, 1) := by decide +kernel
theorem dX7_exclude_80 : decode cX7_exclude 80 = .ok (.ifCond .lt 28, 3) := by decide +kernel
theorem dX7_exclude_83 : decode cX7_exclude 83 = .ok (.aload_n 0, 1) := by decide +kernel
theorem dX7_exclude_84 : decode cX7_exclude 84 = .ok (.dup, 1) := by decide +kernel
theorem dX7_exclude_85 : decode cX7_exclude 85 = .ok (.getfield 125, 3) := by decide +kernel
theorem dX7_exclude_88 : decode cX7_exclude 88 = .ok (.iconst 1, 1) := by decide +kernel
theorem dX7_exclude_89 : decode cX7_exclude 89 = .ok (.isub, 1) := by decide +kernel
theorem dX7_exclude_90 : decode cX7_exclude 90 = .ok (.putfield 125, 3) := by decide +kernel
theorem dX7_exclude_93 : decode cX7_exclude 93 = .ok (.aload_n 0, 1) := by decide +kernel
theorem dX7_exclude_94 : decode cX7_exclude 94 = .ok (.getfield 38, 3) := by decide +kernel
theorem dX7_exclude_97 : decode cX7_exclude 97 = .ok (.iload_n 3, 1) := by decide +kernel
theorem dX7_exclude_98 : decode cX7_exclude 98 = .ok (.aload_n 0, 1) := by decide +kernel
theorem dX7_exclude_99 : decode cX7_exclude 99 = .ok (.getfield 38, 3) := by decide +kernel
theorem dX7_exclude_102 : decode cX7_exclude 102 = .ok (.aload_n 0, 1) := by decide +kernel
theorem dX7_exclude_103 : decode cX7_exclude 103 = .ok (.getfield 125, 3) := by decide +kernel
theorem dX7_exclude_106 : decode cX7_exclude 106 = .ok (.iaload, 1) := by decide +kernel
theorem dX7_exclude_107 : decode cX7_exclude 107 = .ok (.iastore, 1) := by decide +kernel
theorem dX7_exclude_108 : decode cX7_exclude 108 = .ok (.return_, 1) := by decide +kernel
theorem dX7_fifth_0 : decode cX7_fifth 0 = .ok (.iload_n 0, 1) := by decide +kernel
theorem dX7_fifth_1 : decode cX7_fifth 1 = .ok (.ifCond .ne 7, 3) := by decide +kernel
theorem dX7_fifth_4 : decode cX7_fifth 4 = .ok (.iload_n 1, 1) := by decide +kernel
theorem dX7_fifth_5 : decode cX7_fifth 5 = .ok (.goto 33, 3) := by decide +kernel
theorem dX7_fifth_8 : decode cX7_fifth 8 = .ok (.iload_n 0, 1) := by decide +kernel
theorem dX7_fifth_9 : decode cX7_fifth 9 = .ok (.iconst 1, 1) := by decide +kernel
theorem dX7_fifth_10 : decode cX7_fifth 10 = .ok (.if_icmp .ne 7, 3) := by decide +kernel
theorem dX7_fifth_13 : decode cX7_fifth 13 = .ok (.iload_n 2, 1) := by decide +kernel
theorem dX7_fifth_14 : decode cX7_fifth 14 = .ok (.goto 24, 3) := by decide +kernel
theorem dX7_fifth_17 : decode cX7_fifth 17 = .ok (.iload_n 0, 1) := by decide +kernel
theorem dX7_fifth_18 : decode cX7_fifth 18 = .ok (.iconst 2, 1) := by decide +kernel
theorem dX7_fifth_19 : decode cX7_fifth 19 = .ok (.if_icmp .ne 7, 3) := by decide +kernel
theorem dX7_fifth_22 : decode cX7_fifth 22 = .ok (.iload_n 3, 1) := by decide +kernel
theorem dX7_fifth_23 : decode cX7_fifth 23 = .ok (.goto 15, 3) := by decide +kernel
theorem dX7_fifth_26 : decode cX7_fifth 26 = .ok (.iload_n 0, 1) := by decide +kernel
theorem dX7_fifth_27 : decode cX7_fifth 27 = .ok (.iconst 3, 1) := by decide +kernel
theorem dX7_fifth_28 : decode cX7_fifth 28 = .ok (.if_icmp .ne 8, 3) := by decide +kernel
theorem dX7_fifth_31 : decode cX7_fifth 31 = .ok (.iload 4, 2) := by decide +kernel
theorem dX7_fifth_33 : decode cX7_fifth 33 = .ok (.goto 5, 3) := by decide +kernel
theorem dX7_fifth_36 : decode cX7_fifth 36 = .ok (.iload 5, 2) := by decide +kernel
theorem dX7_fifth_38 : decode cX7_fifth 38 = .ok (.ireturn, 1) := by decide +kernel
theorem dX7_add_0 : decode cX7_add 0 = .ok (.iconst 0, 1) := by decide +kernel
theorem dX7_add_1 : decode cX7_add 1 = .ok (.istore 6, 2) := by decide +kernel
theorem dX7_add_3 : decode cX7_add 3 = .ok (.iload 6, 2) := by decide +kernel
theorem dX7_add_5 : decode cX7_add 5 = .ok (.iconst 5, 1) := by decide +kernel
theorem dX7_add_6 : decode cX7_add 6 = .ok (.if_icmp .ge 25, 3) := by decide +kernel
theorem dX7_add_9 : decode cX7_add 9 = .ok (.iload 6, 2) := by decide +kernel
theorem dX7_add_11 : decode cX7_add 11 = .ok (.iload_n 1, 1) := by decide +kernel
theorem dX7_add_12 : decode cX7_add 12 = .ok (.iload_n 2, 1) := by decide +kernel
theorem dX7_add_13 : decode cX7_add 13 = .ok (.iload_n 3, 1) := by decide +kernel
theorem dX7_add_14 : decode cX7_add 14 = .ok (.iload 4, 2) := by decide +kernel
theorem dX7_add_16 : decode cX7_add 16 = .ok (.iload 5, 2) := by decide +kernel
theorem dX7_add_18 : decode cX7_add 18 = .ok (.invokestatic 131, 3) := by decide +kernel
theorem dX7_add_21 : decode cX7_add 21 = .ok (.iconst (-1), 1) := by decide +kernel
theorem dX7_add_22 : decode cX7_add 22 = .ok (.if_icmp .eq 9, 3) := by decide +kernel
theorem dX7_add_25 : decode cX7_add 25 = .ok (.iinc 6 1, 3) := by decide +kernel
theorem dX7_add_28 : decode cX7_add 28 = .ok (.goto (-25), 3) := by decide +kernel
theorem dX7_add_31 : decode cX7_add 31 = .ok (.iconst 1, 1) := by decide +kernel
theorem dX7_add_32 : decode cX7_add 32 = .ok (.istore 7, 2) := by decide +kernel
theorem dX7_add_34 : decode cX7_add 34 = .ok (.iconst 0, 1) := by decide +kernel
theorem dX7_add_35 : decode cX7_add 35 = .ok (.istore 8, 2) := by decide +kernel
theorem dX7_add_37 : decode cX7_add 37 = .ok (.iload 8, 2) := by decide +kernel
theorem dX7_add_39 : decode cX7_add 39 = .ok (.iload 6, 2) := by decide +kernel
theorem dX7_add_41 : decode cX7_add 41 = .ok (.if_icmp .ge 39, 3) := by decide +kernel
theorem dX7_add_44 : decode cX7_add 44 = .ok (.iload 7, 2) := by decide +kernel
theorem dX7_add_46 : decode cX7_add 46 = .ok (.ifCond .eq 25, 3) := by decide +kernel
theorem dX7_add_49 : decode cX7_add 49 = .ok (.iload 8, 2) := by decide +kernel
theorem dX7_add_51 : decode cX7_add 51 = .ok (.iload_n 1, 1) := by decide +kernel
theorem dX7_add_52 : decode cX7_add 52 = .ok (.iload_n 2, 1) := by decide +kernel
theorem dX7_add_53 : decode cX7_add 53 = .ok (.iload_n 3, 1) := by decide +kernel
theorem dX7_add_54 : decode cX7_add 54 = .ok (.iload 4, 2) := by decide +kernel
theorem dX7_add_56 : decode cX7_add 56 = .ok (.iload 5, 2) := by decide +kernel
theorem dX7_add_58 : decode cX7_add 58 = .ok (.invokestatic 131, 3) := by decide +kernel
theorem dX7_add_61 : decode cX7_add 61 = .ok (.invokestatic 64, 3) := by decide +kernel
theorem dX7_add_64 : decode cX7_add 64 = .ok (.ifCond .eq 7, 3) := by decide +kernel
theorem dX7_add_67 : decode cX7_add 67 = .ok (.iconst 1, 1) := by decide +kernel
theorem dX7_add_68 : decode cX7_add 68 = .ok (.goto 4, 3) := by decide +kernel
theorem dX7_add_71 : decode cX7_add 71 = .ok (.iconst 0, 1) := by decide +kernel
theorem dX7_add_72 : decode cX7_add 72 = .ok (.istore 7, 2) := by decide +kernel
theorem dX7_add_74 : decode cX7_add 74 = .ok (.iinc 8 1, 3) := by decide +kernel
theorem dX7_add_77 : decode cX7_add 77 = .ok (.goto (-40), 3) := by decide +kernel
theorem dX7_add_80 : decode cX7_add 80 = .ok (.aload_n 0, 1) := by decide +kernel
theorem dX7_add_81 : decode cX7_add 81 = .ok (.iload 7, 2) := by decide +kernel
theorem dX7_add_83 : decode cX7_add 83 = .ok (.ifCond .ne 7, 3) := by decide +kernel
theorem dX7_add_86 : decode cX7_add 86 = .ok (.iconst 1, 1) := by decide +kernel
theorem dX7_add_87 : decode cX7_add 87 = .ok (.goto 21, 3) := by decide +kernel
theorem dX7_add_90 : decode cX7_add 90 = .ok (.aload_n 0, 1) := by decide +kernel
theorem dX7_add_91 : decode cX7_add 91 = .ok (.getfield 135, 3) := by decide +kernel
theorem dX7_add_94 : decode cX7_add 94 = .ok (.iload 6, 2) := by decide +kernel
theorem dX7_add_96 : decode cX7_add 96 = .ok (.iadd, 1) := by decide +kernel
theorem dX7_add_97 : decode cX7_add 97 = .ok (.sipush 1000, 3) := by decide +kernel
theorem dX7_add_100 : decode cX7_add 100 = .ok (.if_icmp .le 7, 3) := by decide +kernel
theorem dX7_add_103 : decode cX7_add 103 = .ok (.iconst 2, 1) := by decide +kernel
theorem dX7_add_104 : decode cX7_add 104 = .ok (.goto 4, 3) := by decide +kernel
theorem dX7_add_107 : decode cX7_add 107 = .ok (.iconst 0, 1) := by decide +kernel
theorem dX7_add_108 : decode cX7_add 108 = .ok (.invokevirtual 75, 3) := by decide +kernel
theorem dX7_add_111 : decode cX7_add 111 = .ok (.ifCond .eq 5, 3) := by decide +kernel
theorem dX7_add_114 : decode cX7_add 114 = .ok (.iconst 0, 1) := by decide +kernel
theorem dX7_add_115 : decode cX7_add 115 = .ok (.ireturn, 1) := by decide +kernel
theorem dX7_add_116 : decode cX7_add 116 = .ok (.iconst 0, 1) := by decide +kernel
theorem dX7_add_117 : decode cX7_add 117 = .ok (.istore 8, 2) := by decide +kernel
theorem dX7_add_119 : decode cX7_add 119 = .ok (.iload 8, 2) := by decide +kernel
theorem dX7_add_121 : decode cX7_add 121 = .ok (.iload 6, 2) := by decide +kernel
theorem dX7_add_123 : decode cX7_add 123 = .ok (.if_icmp .ge 40, 3) := by decide +kernel
theorem dX7_add_126 : decode cX7_add 126 = .ok (.aload_n 0, 1) := by decide +kernel
theorem dX7_add_127 : decode cX7_add 127 = .ok (.getfield 41, 3) := by decide +kernel
theorem dX7_add_130 : decode cX7_add 130 = .ok (.aload_n 0, 1) := by decide +kernel
theorem dX7_add_131 : decode cX7_add 131 = .ok (.getfield 135, 3) := by decide +kernel
theorem dX7_add_134 : decode cX7_add 134 = .ok (.iload 8, 2) := by decide +kernel
theorem dX7_add_136 : decode cX7_add 136 = .ok (.iload_n 1, 1) := by decide +kernel
theorem dX7_add_137 : decode cX7_add 137 = .ok (.iload_n 2, 1) := by decide +kernel
theorem dX7_add_138 : decode cX7_add 138 = .ok (.iload_n 3, 1) := by decide +kernel
theorem dX7_add_139 : decode cX7_add 139 = .ok (.iload 4, 2) := by decide +kernel
theorem dX7_add_141 : decode cX7_add 141 = .ok (.iload 5, 2) := by decide +kernel
theorem dX7_add_143 : decode cX7_add 143 = .ok (.invokestatic 131, 3) := by decide +kernel
theorem dX7_add_146 : decode cX7_add 146 = .ok (.iastore, 1) := by decide +kernel
theorem dX7_add_147 : decode cX7_add 147 = .ok (.aload_n 0, 1) := by decide +kernel
theorem dX7_add_148 : decode cX7_add 148 = .ok (.dup, 1) := by decide +kernel
theorem dX7_add_149 : decode cX7_add 149 = .ok (.getfield 135, 3) := by decide +kernel
theorem dX7_add_152 : decode cX7_add 152 = .ok (.iconst 1, 1) := by decide +kernel
theorem dX7_add_153 : decode cX7_add 153 = .ok (.iadd, 1) := by decide +kernel
theorem dX7_add_154 : decode cX7_add 154 = .ok (.putfield 135, 3) := by decide +kernel
theorem dX7_add_157 : decode cX7_add 157 = .ok (.iinc 8 1, 3) := by decide +kernel
theorem dX7_add_160 : decode cX7_add 160 = .ok (.goto (-41), 3) := by decide +kernel
theorem dX7_add_163 : decode cX7_add 163 = .ok (.aload_n 0, 1) := by decide +kernel
theorem dX7_add_164 : decode cX7_add 164 = .ok (.getfield 135, 3) := by decide +kernel
theorem dX7_add_167 : decode cX7_add 167 = .ok (.ireturn, 1) := by decide +kernel
theorem dX7_clear_0 : decode cX7_clear 0 = .ok (.aload_n 0, 1) := by decide +kernel
theorem dX7_clear_1 : decode cX7_clear 1 = .ok (.iconst 0, 1) := by decide +kernel
theorem dX7_clear_2 : decode cX7_clear 2 = .ok (.putfield 59, 3) := by decide +kernel
theorem dX7_clear_5 : decode cX7_clear 5 = .ok (.aload_n 0, 1) := by decide +kernel
theorem dX7_clear_6 : decode cX7_clear 6 = .ok (.getfield 135, 3) := by decide +kernel
theorem dX7_clear_9 : decode cX7_clear 9 = .ok (.istore_n 1, 1) := by decide +kernel
theorem dX7_clear_10 : decode cX7_clear 10 = .ok (.aload_n 0, 1) := by decide +kernel
theorem dX7_clear_11 : decode cX7_clear 11 = .ok (.iconst 0, 1) := by decide +kernel
theorem dX7_clear_12 : decode cX7_clear 12 = .ok (.putfield 135, 3) := by decide +kernel
theorem dX7_clear_15 : decode cX7_clear 15 = .ok (.iload_n 1, 1) := by decide +kernel
theorem dX7_clear_16 : decode cX7_clear 16 = .ok (.ireturn, 1) := by decide +kernel
theorem dX7_takeApart_0 : decode cX7_takeApart 0 = .ok (.aload_n 0, 1) := by decide +kernel
theorem dX7_takeApart_1 : decode cX7_takeApart 1 = .ok (.getfield 44, 3) := by decide +kernel
theorem dX7_takeApart_4 : decode cX7_takeApart 4 = .ok (.iload_n 1, 1) := by decide +kernel
theorem dX7_takeApart_5 : decode cX7_takeApart 5 = .ok (.iaload, 1) := by decide +kernel
theorem dX7_takeApart_6 : decode cX7_takeApart 6 = .ok (.istore_n 3, 1) := by decide +kernel
theorem dX7_takeApart_7 : decode cX7_takeApart 7 = .ok (.iconst 0, 1) := by decide +kernel
theorem dX7_takeApart_8 : decode cX7_takeApart 8 = .ok (.istore 4, 2) := by decide +kernel
theorem dX7_takeApart_10 : decode cX7_takeApart 10 = .ok (.aload_n 0, 1) := by decide +kernel
theorem dX7_takeApart_11 : decode cX7_takeApart 11 = .ok (.iload_n 3, 1) := by decide +kernel
theorem dX7_takeApart_12 : decode cX7_takeApart 12 = .ok (.iload 4, 2) := by decide +kernel
theorem dX7_takeApart_14 : decode cX7_takeApart 14 = .ok (.iload_n 2, 1) := by decide +kernel
theorem dX7_takeApart_15 : decode cX7_takeApart 15 = .ok (.invokevirtual 96, 3) := by decide +kernel
theorem dX7_takeApart_18 : decode cX7_takeApart 18 = .ok (.ifCond .lt 9, 3) := by decide +kernel
theorem dX7_takeApart_21 : decode cX7_takeApart 21 = .ok (.iinc 4 1, 3) := by decide +kernel
theorem dX7_takeApart_24 : decode cX7_takeApart 24 = .ok (.goto (-14), 3) := by decide +kernel
theorem dX7_takeApart_27 : decode cX7_takeApart 27 = .ok (.iload 4, 2) := by decide +kernel
theorem dX7_takeApart_29 : decode cX7_takeApart 29 = .ok (.ifCond .ne 5, 3) := by decide +kernel
theorem dX7_takeApart_32 : decode cX7_takeApart 32 = .ok (.iconst 0, 1) := by decide +kernel
theorem dX7_takeApart_33 : decode cX7_takeApart 33 = .ok (.ireturn, 1) := by decide +kernel
theorem dX7_takeApart_34 : decode cX7_takeApart 34 = .ok (.aload_n 0, 1) := by decide +kernel
theorem dX7_takeApart_35 : decode cX7_takeApart 35 = .ok (.getfield 138, 3) := by decide +kernel
theorem dX7_takeApart_38 : decode cX7_takeApart 38 = .ok (.iconst 1, 1) := by decide +kernel
theorem dX7_takeApart_39 : decode cX7_takeApart 39 = .ok (.isub, 1) := by decide +kernel
theorem dX7_takeApart_40 : decode cX7_takeApart 40 = .ok (.istore 5, 2) := by decide +kernel
theorem dX7_takeApart_42 : decode cX7_takeApart 42 = .ok (.iload 5, 2) := by decide +kernel
theorem dX7_takeApart_44 : decode cX7_takeApart 44 = .ok (.iload_n 1, 1) := by decide +kernel
theorem dX7_takeApart_45 : decode cX7_takeApart 45 = .ok (.if_icmp .le 28, 3) := by decide +kernel
theorem dX7_takeApart_48 : decode cX7_takeApart 48 = .ok (.aload_n 0, 1) := by decide +kernel
theorem dX7_takeApart_49 : decode cX7_takeApart 49 = .ok (.getfield 44, 3) := by decide +kernel
theorem dX7_takeApart_52 : decode cX7_takeApart 52 = .ok (.iload 5, 2) := by decide +kernel
theorem dX7_takeApart_54 : decode cX7_takeApart 54 = .ok (.iload 4, 2) := by decide +kernel
theorem dX7_takeApart_56 : decode cX7_takeApart 56 = .ok (.iadd, 1) := by decide +kernel
theorem dX7_takeApart_57 : decode cX7_takeApart 57 = .ok (.iconst 1, 1) := by decide +kernel
theorem dX7_takeApart_58 : decode cX7_takeApart 58 = .ok (.isub, 1) := by decide +kernel
theorem dX7_takeApart_59 : decode cX7_takeApart 59 = .ok (.aload_n 0, 1) := by decide +kernel
theorem dX7_takeApart_60 : decode cX7_takeApart 60 = .ok (.getfield 44, 3) := by decide +kernel
theorem dX7_takeApart_63 : decode cX7_takeApart 63 = .ok (.iload 5, 2) := by decide +kernel
theorem dX7_takeApart_65 : decode cX7_takeApart 65 = .ok (.iaload, 1) := by decide +kernel
theorem dX7_takeApart_66 : decode cX7_takeApart 66 = .ok (.iastore, 1) := by decide +kernel
theorem dX7_takeApart_67 : decode cX7_takeApart 67 = .ok (.iinc 5 (-1), 3) := by decide +kernel
theorem dX7_takeApart_70 : decode cX7_takeApart 70 = .ok (.goto (-28), 3) := by decide +kernel
theorem dX7_takeApart_73 : decode cX7_takeApart 73 = .ok (.iconst 0, 1) := by decide +kernel
theorem dX7_takeApart_74 : decode cX7_takeApart 74 = .ok (.istore 5, 2) := by decide +kernel
theorem dX7_takeApart_76 : decode cX7_takeApart 76 = .ok (.iload 5, 2) := by decide +kernel
theorem dX7_takeApart_78 : decode cX7_takeApart 78 = .ok (.iload 4, 2) := by decide +kernel
theorem dX7_takeApart_80 : decode cX7_takeApart 80 = .ok (.if_icmp .ge 26, 3) := by decide +kernel
theorem dX7_takeApart_83 : decode cX7_takeApart 83 = .ok (.aload_n 0, 1) := by decide +kernel
theorem dX7_takeApart_84 : decode cX7_takeApart 84 = .ok (.getfield 44, 3) := by decide +kernel
theorem dX7_takeApart_87 : decode cX7_takeApart 87 = .ok (.iload_n 1, 1) := by decide +kernel
theorem dX7_takeApart_88 : decode cX7_takeApart 88 = .ok (.iload 5, 2) := by decide +kernel
theorem dX7_takeApart_90 : decode cX7_takeApart 90 = .ok (.iadd, 1) := by decide +kernel
theorem dX7_takeApart_91 : decode cX7_takeApart 91 = .ok (.aload_n 0, 1) := by decide +kernel
theorem dX7_takeApart_92 : decode cX7_takeApart 92 = .ok (.iload_n 3, 1) := by decide +kernel
theorem dX7_takeApart_93 : decode cX7_takeApart 93 = .ok (.iload 5, 2) := by decide +kernel
theorem dX7_takeApart_95 : decode cX7_takeApart 95 = .ok (.iload_n 2, 1) := by decide +kernel
theorem dX7_takeApart_96 : decode cX7_takeApart 96 = .ok (.invokevirtual 96, 3) := by decide +kernel
theorem dX7_takeApart_99 : decode cX7_takeApart 99 = .ok (.iastore, 1) := by decide +kernel
theorem dX7_takeApart_100 : decode cX7_takeApart 100 = .ok (.iinc 5 1, 3) := by decide +kernel
theorem dX7_takeApart_103 : decode cX7_takeApart 103 = .ok (.goto (-27), 3) := by decide +kernel
theorem dX7_takeApart_106 : decode cX7_takeApart 106 = .ok (.aload_n 0, 1) := by decide +kernel
theorem dX7_takeApart_107 : decode cX7_takeApart 107 = .ok (.aload_n 0, 1) := by decide +kernel
theorem dX7_takeApart_108 : decode cX7_takeApart 108 = .ok (.getfield 138, 3) := by decide +kernel
theorem dX7_takeApart_111 : decode cX7_takeApart 111 = .ok (.iload 4, 2) := by decide +kernel
theorem dX7_takeApart_113 : decode cX7_takeApart 113 = .ok (.iadd, 1) := by decide +kernel
theorem dX7_takeApart_114 : decode cX7_takeApart 114 = .ok (.iconst 1, 1) := by decide +kernel
theorem dX7_takeApart_115 : decode cX7_takeApart 115 = .ok (.isub, 1) := by decide +kernel
theorem dX7_takeApart_116 : decode cX7_takeApart 116 = .ok (.putfield 138, 3) := by decide +kernel
theorem dX7_takeApart_119 : decode cX7_takeApart 119 = .ok (.iconst 1, 1) := by decide +kernel
theorem dX7_takeApart_120 : decode cX7_takeApart 120 = .ok (.ireturn, 1) := by decide +kernel
theorem dX7_takeAll_0 : decode cX7_takeAll 0 = .ok (.aload_n 0, 1) := by decide +kernel
theorem dX7_takeAll_1 : decode cX7_takeAll 1 = .ok (.aload_n 0, 1) := by decide +kernel
theorem dX7_takeAll_2 : decode cX7_takeAll 2 = .ok (.getfield 135, 3) := by decide +kernel
theorem dX7_takeAll_5 : decode cX7_takeAll 5 = .ok (.putfield 138, 3) := by decide +kernel
theorem dX7_takeAll_8 : decode cX7_takeAll 8 = .ok (.iconst 0, 1) := by decide +kernel
theorem dX7_takeAll_9 : decode cX7_takeAll 9 = .ok (.istore_n 2, 1) := by decide +kernel
theorem dX7_takeAll_10 : decode cX7_takeAll 10 = .ok (.iload_n 2, 1) := by decide +kernel
theorem dX7_takeAll_11 : decode cX7_takeAll 11 = .ok (.aload_n 0, 1) := by decide +kernel
theorem dX7_takeAll_12 : decode cX7_takeAll 12 = .ok (.getfield 135, 3) := by decide +kernel
theorem dX7_takeAll_15 : decode cX7_takeAll 15 = .ok (.if_icmp .ge 21, 3) := by decide +kernel
theorem dX7_takeAll_18 : decode cX7_takeAll 18 = .ok (.aload_n 0, 1) := by decide +kernel
theorem dX7_takeAll_19 : decode cX7_takeAll 19 = .ok (.getfield 44, 3) := by decide +kernel
theorem dX7_takeAll_22 : decode cX7_takeAll 22 = .ok (.iload_n 2, 1) := by decide +kernel
theorem dX7_takeAll_23 : decode cX7_takeAll 23 = .ok (.aload_n 0, 1) := by decide +kernel
theorem dX7_takeAll_24 : decode cX7_takeAll 24 = .ok (.getfield 41, 3) := by decide +kernel
theorem dX7_takeAll_27 : decode cX7_takeAll 27 = .ok (.iload_n 2, 1) := by decide +kernel
theorem dX7_takeAll_28 : decode cX7_takeAll 28 = .ok (.iaload, 1) := by decide +kernel
theorem dX7_takeAll_29 : decode cX7_takeAll 29 = .ok (.iastore, 1) := by decide +kernel
theorem dX7_takeAll_30 : decode cX7_takeAll 30 = .ok (.iinc 2 1, 3) := by decide +kernel
theorem dX7_takeAll_33 : decode cX7_takeAll 33 = .ok (.goto (-23), 3) := by decide +kernel
theorem dX7_takeAll_36 : decode cX7_takeAll 36 = .ok (.iconst 0, 1) := by decide +kernel
theorem dX7_takeAll_37 : decode cX7_takeAll 37 = .ok (.istore_n 2, 1) := by decide +kernel
theorem dX7_takeAll_38 : decode cX7_takeAll 38 = .ok (.iload_n 2, 1) := by decide +kernel
theorem dX7_takeAll_39 : decode cX7_takeAll 39 = .ok (.aload_n 0, 1) := by decide +kernel
theorem dX7_takeAll_40 : decode cX7_takeAll 40 = .ok (.getfield 138, 3) := by decide +kernel
theorem dX7_takeAll_43 : decode cX7_takeAll 43 = .ok (.if_icmp .ge 37, 3) := by decide +kernel
theorem dX7_takeAll_46 : decode cX7_takeAll 46 = .ok (.aload_n 0, 1) := by decide +kernel
theorem dX7_takeAll_47 : decode cX7_takeAll 47 = .ok (.iload_n 2, 1) := by decide +kernel
theorem dX7_takeAll_48 : decode cX7_takeAll 48 = .ok (.iload_n 1, 1) := by decide +kernel
theorem dX7_takeAll_49 : decode cX7_takeAll 49 = .ok (.invokevirtual 141, 3) := by decide +kernel
theorem dX7_takeAll_52 : decode cX7_takeAll 52 = .ok (.istore_n 3, 1) := by decide +kernel
theorem dX7_takeAll_53 : decode cX7_takeAll 53 = .ok (.aload_n 0, 1) := by decide +kernel
theorem dX7_takeAll_54 : decode cX7_takeAll 54 = .ok (.getfield 138, 3) := by decide +kernel
theorem dX7_takeAll_57 : decode cX7_takeAll 57 = .ok (.sipush 2000, 3) := by decide +kernel
theorem dX7_takeAll_60 : decode cX7_takeAll 60 = .ok (.if_icmp .le 5, 3) := by decide +kernel
theorem dX7_takeAll_63 : decode cX7_takeAll 63 = .ok (.iconst 0, 1) := by decide +kernel
theorem dX7_takeAll_64 : decode cX7_takeAll 64 = .ok (.ireturn, 1) := by decide +kernel
theorem dX7_takeAll_65 : decode cX7_takeAll 65 = .ok (.iload_n 3, 1) := by decide +kernel
theorem dX7_takeAll_66 : decode cX7_takeAll 66 = .ok (.ifCond .eq 7, 3) := by decide +kernel
theorem dX7_takeAll_69 : decode cX7_takeAll 69 = .ok (.iload_n 2, 1) := by decide +kernel
theorem dX7_takeAll_70 : decode cX7_takeAll 70 = .ok (.goto 6, 3) := by decide +kernel
theorem dX7_takeAll_73 : decode cX7_takeAll 73 = .ok (.iload_n 2, 1) := by decide +kernel
theorem dX7_takeAll_74 : decode cX7_takeAll 74 = .ok (.iconst 1, 1) := by decide +kernel
theorem dX7_takeAll_75 : decode cX7_takeAll 75 = .ok (.iadd, 1) := by decide +kernel
theorem dX7_takeAll_76 : decode cX7_takeAll 76 = .ok (.istore_n 2, 1) := by decide +kernel
theorem dX7_takeAll_77 : decode cX7_takeAll 77 = .ok (.goto (-39), 3) := by decide +kernel
theorem dX7_takeAll_80 : decode cX7_takeAll 80 = .ok (.iconst 1, 1) := by decide +kernel
theorem dX7_takeAll_81 : decode cX7_takeAll 81 = .ok (.ireturn, 1) := by decide +kernel
theorem dX7_order_0 : decode cX7_order 0 = .ok (.iconst 0, 1) := by decide +kernel
theorem dX7_order_1 : decode cX7_order 1 = .ok (.istore_n 1, 1) := by decide +kernel
theorem dX7_order_2 : decode cX7_order 2 = .ok (.iload_n 1, 1) := by decide +kernel
theorem dX7_order_3 : decode cX7_order 3 = .ok (.aload_n 0, 1) := by decide +kernel
theorem dX7_order_4 : decode cX7_order 4 = .ok (.getfield 138, 3) := by decide +kernel
theorem dX7_order_7 : decode cX7_order 7 = .ok (.if_icmp .ge 25, 3) := by decide +kernel
theorem dX7_order_10 : decode cX7_order 10 = .ok (.aload_n 0, 1) := by decide +kernel
theorem dX7_order_11 : decode cX7_order 11 = .ok (.getfield 47, 3) := by decide +kernel
theorem dX7_order_14 : decode cX7_order 14 = .ok (.iload_n 1, 1) := by decide +kernel
theorem dX7_order_15 : decode cX7_order 15 = .ok (.aload_n 0, 1) := by decide +kernel
theorem dX7_order_16 : decode cX7_order 16 = .ok (.aload_n 0, 1) := by decide +kernel
theorem dX7_order_17 : decode cX7_order 17 = .ok (.getfield 44, 3) := by decide +kernel
theorem dX7_order_20 : decode cX7_order 20 = .ok (.iload_n 1, 1) := by decide +kernel
theorem dX7_order_21 : decode cX7_order 21 = .ok (.iaload, 1) := by decide +kernel
theorem dX7_order_22 : decode cX7_order 22 = .ok (.invokevirtual 145, 3) := by decide +kernel
theorem dX7_order_25 : decode cX7_order 25 = .ok (.iastore, 1) := by decide +kernel
theorem dX7_order_26 : decode cX7_order 26 = .ok (.iinc 1 1, 3) := by decide +kernel
theorem dX7_order_29 : decode cX7_order 29 = .ok (.goto (-27), 3) := by decide +kernel
theorem dX7_order_32 : decode cX7_order 32 = .ok (.iconst 1, 1) := by decide +kernel
theorem dX7_order_33 : decode cX7_order 33 = .ok (.istore_n 1, 1) := by decide +kernel
theorem dX7_order_34 : decode cX7_order 34 = .ok (.iload_n 1, 1) := by decide +kernel
theorem dX7_order_35 : decode cX7_order 35 = .ok (.aload_n 0, 1) := by decide +kernel
theorem dX7_order_36 : decode cX7_order 36 = .ok (.getfield 138, 3) := by decide +kernel
theorem dX7_order_39 : decode cX7_order 39 = .ok (.if_icmp .ge 127, 3) := by decide +kernel
theorem dX7_order_42 : decode cX7_order 42 = .ok (.aload_n 0, 1) := by decide +kernel
theorem dX7_order_43 : decode cX7_order 43 = .ok (.getfield 47, 3) := by decide +kernel
theorem dX7_order_46 : decode cX7_order 46 = .ok (.iload_n 1, 1) := by decide +kernel
theorem dX7_order_47 : decode cX7_order 47 = .ok (.iaload, 1) := by decide +kernel
theorem dX7_order_48 : decode cX7_order 48 = .ok (.ifCond .le 24, 3) := by decide +kernel
theorem dX7_order_51 : decode cX7_order 51 = .ok (.aload_n 0, 1) := by decide +kernel
theorem dX7_order_52 : decode cX7_order 52 = .ok (.getfield 47, 3) := by decide +kernel
theorem dX7_order_55 : decode cX7_order 55 = .ok (.iload_n 1, 1) := by decide +kernel
theorem dX7_order_56 : decode cX7_order 56 = .ok (.iaload, 1) := by decide +kernel
theorem dX7_order_57 : decode cX7_order 57 = .ok (.aload_n 0, 1) := by decide +kernel
theorem dX7_order_58 : decode cX7_order 58 = .ok (.getfield 47, 3) := by decide +kernel
theorem dX7_order_61 : decode cX7_order 61 = .ok (.iload_n 1, 1) := by decide +kernel
theorem dX7_order_62 : decode cX7_order 62 = .ok (.iconst 1, 1) := by decide +kernel
theorem dX7_order_63 : decode cX7_order 63 = .ok (.isub, 1) := by decide +kernel
theorem dX7_order_64 : decode cX7_order 64 = .ok (.iaload, 1) := by decide +kernel
theorem dX7_order_65 : decode cX7_order 65 = .ok (.if_icmp .ge 7, 3) := by decide +kernel
theorem dX7_order_68 : decode cX7_order 68 = .ok (.iconst 1, 1) := by decide +kernel
theorem dX7_order_69 : decode cX7_order 69 = .ok (.goto 4, 3) := by decide +kernel
theorem dX7_order_72 : decode cX7_order 72 = .ok (.iconst 0, 1) := by decide +kernel
theorem dX7_order_73 : decode cX7_order 73 = .ok (.istore_n 2, 1) := by decide +kernel
theorem dX7_order_74 : decode cX7_order 74 = .ok (.iload_n 2, 1) := by decide +kernel
theorem dX7_order_75 : decode cX7_order 75 = .ok (.ifCond .eq 65, 3) := by decide +kernel
theorem dX7_order_78 : decode cX7_order 78 = .ok (.aload_n 0, 1) := by decide +kernel
theorem dX7_order_79 : decode cX7_order 79 = .ok (.getfield 44, 3) := by decide +kernel
theorem dX7_order_82 : decode cX7_order 82 = .ok (.iload_n 1, 1) := by decide +kernel
theorem dX7_order_83 : decode cX7_order 83 = .ok (.iaload, 1) := by decide +kernel
theorem dX7_order_84 : decode cX7_order 84 = .ok (.istore_n 3, 1) := by decide +kernel
theorem dX7_order_85 : decode cX7_order 85 = .ok (.aload_n 0, 1) := by decide +kernel
theorem dX7_order_86 : decode cX7_order 86 = .ok (.getfield 44, 3) := by decide +kernel
theorem dX7_order_89 : decode cX7_order 89 = .ok (.iload_n 1, 1) := by decide +kernel
theorem dX7_order_90 : decode cX7_order 90 = .ok (.aload_n 0, 1) := by decide +kernel
theorem dX7_order_91 : decode cX7_order 91 = .ok (.getfield 44, 3) := by decide +kernel
theorem dX7_order_94 : decode cX7_order 94 = .ok (.iload_n 1, 1) := by decide +kernel
theorem dX7_order_95 : decode cX7_order 95 = .ok (.iconst 1, 1) := by decide +kernel
theorem dX7_order_96 : decode cX7_order 96 = .ok (.isub, 1) := by decide +kernel
theorem dX7_order_97 : decode cX7_order 97 = .ok (.iaload, 1) := by decide +kernel
theorem dX7_order_98 : decode cX7_order 98 = .ok (.iastore, 1) := by decide +kernel
theorem dX7_order_99 : decode cX7_order 99 = .ok (.aload_n 0, 1) := by decide +kernel
theorem dX7_order_100 : decode cX7_order 100 = .ok (.getfield 44, 3) := by decide +kernel
theorem dX7_order_103 : decode cX7_order 103 = .ok (.iload_n 1, 1) := by decide +kernel
theorem dX7_order_104 : decode cX7_order 104 = .ok (.iconst 1, 1) := by decide +kernel
theorem dX7_order_105 : decode cX7_order 105 = .ok (.isub, 1) := by decide +kernel
theorem dX7_order_106 : decode cX7_order 106 = .ok (.iload_n 3, 1) := by decide +kernel
theorem dX7_order_107 : decode cX7_order 107 = .ok (.iastore, 1) := by decide +kernel
theorem dX7_order_108 : decode cX7_order 108 = .ok (.aload_n 0, 1) := by decide +kernel
theorem dX7_order_109 : decode cX7_order 109 = .ok (.getfield 47, 3) := by decide +kernel
theorem dX7_order_112 : decode cX7_order 112 = .ok (.iload_n 1, 1) := by decide +kernel
theorem dX7_order_113 : decode cX7_order 113 = .ok (.iaload, 1) := by decide +kernel
theorem dX7_order_114 : decode cX7_order 114 = .ok (.istore 4, 2) := by decide +kernel
theorem dX7_order_116 : decode cX7_order 116 = .ok (.aload_n 0, 1) := by decide +kernel
theorem dX7_order_117 : decode cX7_order 117 = .ok (.getfield 47, 3) := by decide +kernel
theorem dX7_order_120 : decode cX7_order 120 = .ok (.iload_n 1, 1) := by decide +kernel
theorem dX7_order_121 : decode cX7_order 121 = .ok (.aload_n 0, 1) := by decide +kernel
theorem dX7_order_122 : decode cX7_order 122 = .ok (.getfield 47, 3) := by decide +kernel
theorem dX7_order_125 : decode cX7_order 125 = .ok (.iload_n 1, 1) := by decide +kernel
theorem dX7_order_126 : decode cX7_order 126 = .ok (.iconst 1, 1) := by decide +kernel
theorem dX7_order_127 : decode cX7_order 127 = .ok (.isub, 1) := by decide +kernel
theorem dX7_order_128 : decode cX7_order 128 = .ok (.iaload, 1) := by decide +kernel
theorem dX7_order_129 : decode cX7_order 129 = .ok (.iastore, 1) := by decide +kernel
theorem dX7_order_130 : decode cX7_order 130 = .ok (.aload_n 0, 1) := by decide +kernel
theorem dX7_order_131 : decode cX7_order 131 = .ok (.getfield 47, 3) := by decide +kernel
theorem dX7_order_134 : decode cX7_order 134 = .ok (.iload_n 1, 1) := by decide +kernel
theorem dX7_order_135 : decode cX7_order 135 = .ok (.iconst 1, 1) := by decide +kernel
theorem dX7_order_136 : decode cX7_order 136 = .ok (.isub, 1) := by decide +kernel
theorem dX7_order_137 : decode cX7_order 137 = .ok (.iload 4, 2) := by decide +kernel
theorem dX7_order_139 : decode cX7_order 139 = .ok (.iastore, 1) := by decide +kernel
theorem dX7_order_140 : decode cX7_order 140 = .ok (.iload_n 2, 1) := by decide +kernel
theorem dX7_order_141 : decode cX7_order 141 = .ok (.ifCond .ne 9, 3) := by decide +kernel
theorem dX7_order_144 : decode cX7_order 144 = .ok (.iload_n 1, 1) := by decide +kernel
theorem dX7_order_145 : decode cX7_order 145 = .ok (.iconst 1, 1) := by decide +kernel
theorem dX7_order_146 : decode cX7_order 146 = .ok (.iadd, 1) := by decide +kernel
theorem dX7_order_147 : decode cX7_order 147 = .ok (.goto 15, 3) := by decide +kernel
theorem dX7_order_150 : decode cX7_order 150 = .ok (.iload_n 1, 1) := by decide +kernel
theorem dX7_order_151 : decode cX7_order 151 = .ok (.iconst 1, 1) := by decide +kernel
theorem dX7_order_152 : decode cX7_order 152 = .ok (.if_icmp .le 9, 3) := by decide +kernel
theorem dX7_order_155 : decode cX7_order 155 = .ok (.iload_n 1, 1) := by decide +kernel
theorem dX7_order_156 : decode cX7_order 156 = .ok (.iconst 1, 1) := by decide +kernel
theorem dX7_order_157 : decode cX7_order 157 = .ok (.isub, 1) := by decide +kernel
theorem dX7_order_158 : decode cX7_order 158 = .ok (.goto 4, 3) := by decide +kernel
theorem dX7_order_161 : decode cX7_order 161 = .ok (.iload_n 1, 1) := by decide +kernel
theorem dX7_order_162 : decode cX7_order 162 = .ok (.istore_n 1, 1) := by decide +kernel
theorem dX7_order_163 : decode cX7_order 163 = .ok (.goto (-129), 3) := by decide +kernel
theorem dX7_order_166 : decode cX7_order 166 = .ok (.return_, 1) := by decide +kernel
theorem dX7_compositeOf_0 : decode cX7_compositeOf 0 = .ok (.aload_n 0, 1) := by decide +kernel
theorem dX7_compositeOf_1 : decode cX7_compositeOf 1 = .ok (.iload_n 1, 1) := by decide +kernel
theorem dX7_compositeOf_2 : decode cX7_compositeOf 2 = .ok (.iload_n 2, 1) := by decide +kernel
theorem dX7_compositeOf_3 : decode cX7_compositeOf 3 = .ok (.invokevirtual 113, 3) := by decide +kernel
theorem dX7_compositeOf_6 : decode cX7_compositeOf 6 = .ok (.istore_n 3, 1) := by decide +kernel
theorem dX7_compositeOf_7 : decode cX7_compositeOf 7 = .ok (.iload_n 3, 1) := by decide +kernel
theorem dX7_compositeOf_8 : decode cX7_compositeOf 8 = .ok (.ifCond .lt 23, 3) := by decide +kernel
theorem dX7_compositeOf_11 : decode cX7_compositeOf 11 = .ok (.aload_n 0, 1) := by decide +kernel
theorem dX7_compositeOf_12 : decode cX7_compositeOf 12 = .ok (.iload_n 3, 1) := by decide +kernel
theorem dX7_compositeOf_13 : decode cX7_compositeOf 13 = .ok (.invokevirtual 145, 3) := by decide +kernel
theorem dX7_compositeOf_16 : decode cX7_compositeOf 16 = .ok (.ifCond .ne 15, 3) := by decide +kernel
theorem dX7_compositeOf_19 : decode cX7_compositeOf 19 = .ok (.aload_n 0, 1) := by decide +kernel
theorem dX7_compositeOf_20 : decode cX7_compositeOf 20 = .ok (.iload_n 3, 1) := by decide +kernel
theorem dX7_compositeOf_21 : decode cX7_compositeOf 21 = .ok (.invokevirtual 128, 3) := by decide +kernel
theorem dX7_compositeOf_24 : decode cX7_compositeOf 24 = .ok (.ifCond .ge 7, 3) := by decide +kernel
theorem dX7_compositeOf_27 : decode cX7_compositeOf 27 = .ok (.iload_n 3, 1) := by decide +kernel
theorem dX7_compositeOf_28 : decode cX7_compositeOf 28 = .ok (.goto 4, 3) := by decide +kernel
theorem dX7_compositeOf_31 : decode cX7_compositeOf 31 = .ok (.iconst (-1), 1) := by decide +kernel
theorem dX7_compositeOf_32 : decode cX7_compositeOf 32 = .ok (.ireturn, 1) := by decide +kernel
theorem dX7_putTogether_0 : decode cX7_putTogether 0 = .ok (.iconst 1, 1) := by decide +kernel
theorem dX7_putTogether_1 : decode cX7_putTogether 1 = .ok (.istore_n 1, 1) := by decide +kernel
theorem dX7_putTogether_2 : decode cX7_putTogether 2 = .ok (.iload_n 1, 1) := by decide +kernel
theorem dX7_putTogether_3 : decode cX7_putTogether 3 = .ok (.aload_n 0, 1) := by decide +kernel
theorem dX7_putTogether_4 : decode cX7_putTogether 4 = .ok (.getfield 138, 3) := by decide +kernel
theorem dX7_putTogether_7 : decode cX7_putTogether 7 = .ok (.if_icmp .ge 164, 3) := by decide +kernel
theorem dX7_putTogether_10 : decode cX7_putTogether 10 = .ok (.iload_n 1, 1) := by decide +kernel
theorem dX7_putTogether_11 : decode cX7_putTogether 11 = .ok (.iconst 1, 1) := by decide +kernel
theorem dX7_putTogether_12 : decode cX7_putTogether 12 = .ok (.isub, 1) := by decide +kernel
theorem dX7_putTogether_13 : decode cX7_putTogether 13 = .ok (.istore_n 2, 1) := by decide +kernel
theorem dX7_putTogether_14 : decode cX7_putTogether 14 = .ok (.iload_n 2, 1) := by decide +kernel
theorem dX7_putTogether_15 : decode cX7_putTogether 15 = .ok (.ifCond .lt 22, 3) := by decide +kernel
theorem dX7_putTogether_18 : decode cX7_putTogether 18 = .ok (.aload_n 0, 1) := by decide +kernel
theorem dX7_putTogether_19 : decode cX7_putTogether 19 = .ok (.aload_n 0, 1) := by decide +kernel
theorem dX7_putTogether_20 : decode cX7_putTogether 20 = .ok (.getfield 44, 3) := by decide +kernel
theorem dX7_putTogether_23 : decode cX7_putTogether 23 = .ok (.iload_n 2, 1) := by decide +kernel
theorem dX7_putTogether_24 : decode cX7_putTogether 24 = .ok (.iaload, 1) := by decide +kernel
theorem dX7_putTogether_25 : decode cX7_putTogether 25 = .ok (.invokevirtual 145, 3) := by decide +kernel
theorem dX7_putTogether_28 : decode cX7_putTogether 28 = .ok (.ifCond .le 9, 3) := by decide +kernel
theorem dX7_putTogether_31 : decode cX7_putTogether 31 = .ok (.iinc 2 (-1), 3) := by decide +kernel
theorem dX7_putTogether_34 : decode cX7_putTogether 34 = .ok (.goto (-20), 3) := by decide +kernel
theorem dX7_putTogether_37 : decode cX7_putTogether 37 = .ok (.iload_n 2, 1) := by decide +kernel
theorem dX7_putTogether_38 : decode cX7_putTogether 38 = .ok (.iload_n 1, 1) := by decide +kernel
theorem dX7_putTogether_39 : decode cX7_putTogether 39 = .ok (.iconst 1, 1) := by decide +kernel
theorem dX7_putTogether_40 : decode cX7_putTogether 40 = .ok (.isub, 1) := by decide +kernel
theorem dX7_putTogether_41 : decode cX7_putTogether 41 = .ok (.if_icmp .eq 28, 3) := by decide +kernel
theorem dX7_putTogether_44 : decode cX7_putTogether 44 = .ok (.aload_n 0, 1) := by decide +kernel
theorem dX7_putTogether_45 : decode cX7_putTogether 45 = .ok (.aload_n 0, 1) := by decide +kernel
theorem dX7_putTogether_46 : decode cX7_putTogether 46 = .ok (.getfield 44, 3) := by decide +kernel
theorem dX7_putTogether_49 : decode cX7_putTogether 49 = .ok (.iload_n 1, 1) := by decide +kernel
theorem dX7_putTogether_50 : decode cX7_putTogether 50 = .ok (.iconst 1, 1) := by decide +kernel
theorem dX7_putTogether_51 : decode cX7_putTogether 51 = .ok (.isub, 1) := by decide +kernel
theorem dX7_putTogether_52 : decode cX7_putTogether 52 = .ok (.iaload, 1) := by decide +kernel
theorem dX7_putTogether_53 : decode cX7_putTogether 53 = .ok (.invokevirtual 145, 3) := by decide +kernel
theorem dX7_putTogether_56 : decode cX7_putTogether 56 = .ok (.aload_n 0, 1) := by decide +kernel
theorem dX7_putTogether_57 : decode cX7_putTogether 57 = .ok (.aload_n 0, 1) := by decide +kernel
theorem dX7_putTogether_58 : decode cX7_putTogether 58 = .ok (.getfield 44, 3) := by decide +kernel
theorem dX7_putTogether_61 : decode cX7_putTogether 61 = .ok (.iload_n 1, 1) := by decide +kernel
theorem dX7_putTogether_62 : decode cX7_putTogether 62 = .ok (.iaload, 1) := by decide +kernel
theorem dX7_putTogether_63 : decode cX7_putTogether 63 = .ok (.invokevirtual 145, 3) := by decide +kernel
theorem dX7_putTogether_66 : decode cX7_putTogether 66 = .ok (.if_icmp .ge 7, 3) := by decide +kernel
theorem dX7_putTogether_69 : decode cX7_putTogether 69 = .ok (.iconst 1, 1) := by decide +kernel
theorem dX7_putTogether_70 : decode cX7_putTogether 70 = .ok (.goto 4, 3) := by decide +kernel
theorem dX7_putTogether_73 : decode cX7_putTogether 73 = .ok (.iconst 0, 1) := by decide +kernel
theorem dX7_putTogether_74 : decode cX7_putTogether 74 = .ok (.istore_n 3, 1) := by decide +kernel
theorem dX7_putTogether_75 : decode cX7_putTogether 75 = .ok (.iload_n 2, 1) := by decide +kernel
theorem dX7_putTogether_76 : decode cX7_putTogether 76 = .ok (.ifCond .lt 26, 3) := by decide +kernel
theorem dX7_putTogether_79 : decode cX7_putTogether 79 = .ok (.iload_n 3, 1) := by decide +kernel
theorem dX7_putTogether_80 : decode cX7_putTogether 80 = .ok (.ifCond .eq 22, 3) := by decide +kernel
theorem dX7_putTogether_83 : decode cX7_putTogether 83 = .ok (.aload_n 0, 1) := by decide +kernel
theorem dX7_putTogether_84 : decode cX7_putTogether 84 = .ok (.aload_n 0, 1) := by decide +kernel
theorem dX7_putTogether_85 : decode cX7_putTogether 85 = .ok (.getfield 44, 3) := by decide +kernel
theorem dX7_putTogether_88 : decode cX7_putTogether 88 = .ok (.iload_n 2, 1) := by decide +kernel
theorem dX7_putTogether_89 : decode cX7_putTogether 89 = .ok (.iaload, 1) := by decide +kernel
theorem dX7_putTogether_90 : decode cX7_putTogether 90 = .ok (.aload_n 0, 1) := by decide +kernel
theorem dX7_putTogether_91 : decode cX7_putTogether 91 = .ok (.getfield 44, 3) := by decide +kernel
theorem dX7_putTogether_94 : decode cX7_putTogether 94 = .ok (.iload_n 1, 1) := by decide +kernel
theorem dX7_putTogether_95 : decode cX7_putTogether 95 = .ok (.iaload, 1) := by decide +kernel
theorem dX7_putTogether_96 : decode cX7_putTogether 96 = .ok (.invokevirtual 148, 3) := by decide +kernel
theorem dX7_putTogether_99 : decode cX7_putTogether 99 = .ok (.goto 4, 3) := by decide +kernel
theorem dX7_putTogether_102 : decode cX7_putTogether 102 = .ok (.iconst (-1), 1) := by decide +kernel
theorem dX7_putTogether_103 : decode cX7_putTogether 103 = .ok (.istore 4, 2) := by decide +kernel
theorem dX7_putTogether_105 : decode cX7_putTogether 105 = .ok (.iload 4, 2) := by decide +kernel
theorem dX7_putTogether_107 : decode cX7_putTogether 107 = .ok (.ifCond .lt 58, 3) := by decide +kernel
theorem dX7_putTogether_110 : decode cX7_putTogether 110 = .ok (.aload_n 0, 1) := by decide +kernel
theorem dX7_putTogether_111 : decode cX7_putTogether 111 = .ok (.getfield 44, 3) := by decide +kernel
theorem dX7_putTogether_114 : decode cX7_putTogether 114 = .ok (.iload_n 2, 1) := by decide +kernel
theorem dX7_putTogether_115 : decode cX7_putTogether 115 = .ok (.iload 4, 2) := by decide +kernel
theorem dX7_putTogether_117 : decode cX7_putTogether 117 = .ok (.iastore, 1) := by decide +kernel
theorem dX7_putTogether_118 : decode cX7_putTogether 118 = .ok (.aload_n 0, 1) := by decide +kernel
theorem dX7_putTogether_119 : decode cX7_putTogether 119 = .ok (.dup, 1) := by decide +kernel
theorem dX7_putTogether_120 : decode cX7_putTogether 120 = .ok (.getfield 138, 3) := by decide +kernel
theorem dX7_putTogether_123 : decode cX7_putTogether 123 = .ok (.iconst 1, 1) := by decide +kernel
theorem dX7_putTogether_124 : decode cX7_putTogether 124 = .ok (.isub, 1) := by decide +kernel
theorem dX7_putTogether_125 : decode cX7_putTogether 125 = .ok (.putfield 138, 3) := by decide +kernel
theorem dX7_putTogether_128 : decode cX7_putTogether 128 = .ok (.iload_n 1, 1) := by decide +kernel
theorem dX7_putTogether_129 : decode cX7_putTogether 129 = .ok (.istore 5, 2) := by decide +kernel
theorem dX7_putTogether_131 : decode cX7_putTogether 131 = .ok (.iload 5, 2) := by decide +kernel
theorem dX7_putTogether_133 : decode cX7_putTogether 133 = .ok (.aload_n 0, 1) := by decide +kernel
theorem dX7_putTogether_134 : decode cX7_putTogether 134 = .ok (.getfield 138, 3) := by decide +kernel
theorem dX7_putTogether_137 : decode cX7_putTogether 137 = .ok (.if_icmp .ge 25, 3) := by decide +kernel
theorem dX7_putTogether_140 : decode cX7_putTogether 140 = .ok (.aload_n 0, 1) := by decide +kernel
theorem dX7_putTogether_141 : decode cX7_putTogether 141 = .ok (.getfield 44, 3) := by decide +kernel
theorem dX7_putTogether_144 : decode cX7_putTogether 144 = .ok (.iload 5, 2) := by decide +kernel
theorem dX7_putTogether_146 : decode cX7_putTogether 146 = .ok (.aload_n 0, 1) := by decide +kernel
theorem dX7_putTogether_147 : decode cX7_putTogether 147 = .ok (.getfield 44, 3) := by decide +kernel
theorem dX7_putTogether_150 : decode cX7_putTogether 150 = .ok (.iload 5, 2) := by decide +kernel
theorem dX7_putTogether_152 : decode cX7_putTogether 152 = .ok (.iconst 1, 1) := by decide +kernel
theorem dX7_putTogether_153 : decode cX7_putTogether 153 = .ok (.iadd, 1) := by decide +kernel
theorem dX7_putTogether_154 : decode cX7_putTogether 154 = .ok (.iaload, 1) := by decide +kernel
theorem dX7_putTogether_155 : decode cX7_putTogether 155 = .ok (.iastore, 1) := by decide +kernel
theorem dX7_putTogether_156 : decode cX7_putTogether 156 = .ok (.iinc 5 1, 3) := by decide +kernel
theorem dX7_putTogether_159 : decode cX7_putTogether 159 = .ok (.goto (-28), 3) := by decide +kernel
theorem dX7_putTogether_162 : decode cX7_putTogether 162 = .ok (.goto 6, 3) := by decide +kernel
theorem dX7_putTogether_165 : decode cX7_putTogether 165 = .ok (.iinc 1 1, 3) := by decide +kernel
theorem dX7_putTogether_168 : decode cX7_putTogether 168 = .ok (.goto (-166), 3) := by decide +kernel
theorem dX7_putTogether_171 : decode cX7_putTogether 171 = .ok (.return_, 1) := by decide +kernel
theorem dX7_make_0 : decode cX7_make 0 = .ok (.aload_n 0, 1) := by decide +kernel
theorem dX7_make_1 : decode cX7_make 1 = .ok (.iload_n 1, 1) := by decide +kernel
theorem dX7_make_2 : decode cX7_make 2 = .ok (.iconst 1, 1) := by decide +kernel
theorem dX7_make_3 : decode cX7_make 3 = .ok (.if_icmp .le 7, 3) := by decide +kernel
theorem dX7_make_6 : decode cX7_make 6 = .ok (.iconst 1, 1) := by decide +kernel
theorem dX7_make_7 : decode cX7_make 7 = .ok (.goto 4, 3) := by decide +kernel
theorem dX7_make_10 : decode cX7_make 10 = .ok (.iconst 0, 1) := by decide +kernel
theorem dX7_make_11 : decode cX7_make 11 = .ok (.invokevirtual 151, 3) := by decide +kernel
theorem dX7_make_14 : decode cX7_make 14 = .ok (.ifCond .ne 5, 3) := by decide +kernel
theorem dX7_make_17 : decode cX7_make 17 = .ok (.iconst 0, 1) := by decide +kernel
theorem dX7_make_18 : decode cX7_make 18 = .ok (.ireturn, 1) := by decide +kernel
theorem dX7_make_19 : decode cX7_make 19 = .ok (.aload_n 0, 1) := by decide +kernel
theorem dX7_make_20 : decode cX7_make 20 = .ok (.invokevirtual 155, 3) := by decide +kernel
theorem dX7_make_23 : decode cX7_make 23 = .ok (.iload_n 1, 1) := by decide +kernel
theorem dX7_make_24 : decode cX7_make 24 = .ok (.iconst 2, 1) := by decide +kernel
theorem dX7_make_25 : decode cX7_make 25 = .ok (.irem, 1) := by decide +kernel
theorem dX7_make_26 : decode cX7_make 26 = .ok (.iconst 1, 1) := by decide +kernel
theorem dX7_make_27 : decode cX7_make 27 = .ok (.if_icmp .ne 7, 3) := by decide +kernel
theorem dX7_make_30 : decode cX7_make 30 = .ok (.aload_n 0, 1) := by decide +kernel
theorem dX7_make_31 : decode cX7_make 31 = .ok (.invokevirtual 158, 3) := by decide +kernel
theorem dX7_make_34 : decode cX7_make 34 = .ok (.iconst 1, 1) := by decide +kernel
theorem dX7_make_35 : decode cX7_make 35 = .ok (.ireturn, 1) := by decide +kernel
theorem dX7_form_0 : decode cX7_form 0 = .ok (.iload_n 1, 1) := by decide +kernel
theorem dX7_form_1 : decode cX7_form 1 = .ok (.ifCond .lt 12, 3) := by decide +kernel
theorem dX7_form_4 : decode cX7_form 4 = .ok (.iload_n 1, 1) := by decide +kernel
theorem dX7_form_5 : decode cX7_form 5 = .ok (.iconst 3, 1) := by decide +kernel
theorem dX7_form_6 : decode cX7_form 6 = .ok (.if_icmp .gt 7, 3) := by decide +kernel
theorem dX7_form_9 : decode cX7_form 9 = .ok (.iconst 1, 1) := by decide +kernel
theorem dX7_form_10 : decode cX7_form 10 = .ok (.goto 4, 3) := by decide +kernel
theorem dX7_form_13 : decode cX7_form 13 = .ok (.iconst 0, 1) := by decide +kernel
theorem dX7_form_14 : decode cX7_form 14 = .ok (.istore_n 2, 1) := by decide +kernel
theorem dX7_form_15 : decode cX7_form 15 = .ok (.aload_n 0, 1) := by decide +kernel
theorem dX7_form_16 : decode cX7_form 16 = .ok (.iload_n 2, 1) := by decide +kernel
theorem dX7_form_17 : decode cX7_form 17 = .ok (.ifCond .ne 7, 3) := by decide +kernel
theorem dX7_form_20 : decode cX7_form 20 = .ok (.iconst 1, 1) := by decide +kernel
theorem dX7_form_21 : decode cX7_form 21 = .ok (.goto 16, 3) := by decide +kernel
theorem dX7_form_24 : decode cX7_form 24 = .ok (.aload_n 0, 1) := by decide +kernel
theorem dX7_form_25 : decode cX7_form 25 = .ok (.iload_n 1, 1) := by decide +kernel
theorem dX7_form_26 : decode cX7_form 26 = .ok (.invokevirtual 161, 3) := by decide +kernel
theorem dX7_form_29 : decode cX7_form 29 = .ok (.ifCond .eq 7, 3) := by decide +kernel
theorem dX7_form_32 : decode cX7_form 32 = .ok (.iconst 0, 1) := by decide +kernel
theorem dX7_form_33 : decode cX7_form 33 = .ok (.goto 4, 3) := by decide +kernel
theorem dX7_form_36 : decode cX7_form 36 = .ok (.iconst 2, 1) := by decide +kernel
theorem dX7_form_37 : decode cX7_form 37 = .ok (.invokevirtual 75, 3) := by decide +kernel
theorem dX7_form_40 : decode cX7_form 40 = .ok (.ifCond .eq 5, 3) := by decide +kernel
theorem dX7_form_43 : decode cX7_form 43 = .ok (.iconst 0, 1) := by decide +kernel
theorem dX7_form_44 : decode cX7_form 44 = .ok (.ireturn, 1) := by decide +kernel
theorem dX7_form_45 : decode cX7_form 45 = .ok (.aload_n 0, 1) := by decide +kernel
theorem dX7_form_46 : decode cX7_form 46 = .ok (.aload_n 0, 1) := by decide +kernel
theorem dX7_form_47 : decode cX7_form 47 = .ok (.getfield 138, 3) := by decide +kernel
theorem dX7_form_50 : decode cX7_form 50 = .ok (.putfield 164, 3) := by decide +kernel
theorem dX7_form_53 : decode cX7_form 53 = .ok (.aload_n 0, 1) := by decide +kernel
theorem dX7_form_54 : decode cX7_form 54 = .ok (.iconst 1, 1) := by decide +kernel
theorem dX7_form_55 : decode cX7_form 55 = .ok (.putfield 167, 3) := by decide +kernel
theorem dX7_form_58 : decode cX7_form 58 = .ok (.iconst 0, 1) := by decide +kernel
theorem dX7_form_59 : decode cX7_form 59 = .ok (.istore_n 3, 1) := by decide +kernel
theorem dX7_form_60 : decode cX7_form 60 = .ok (.iload_n 3, 1) := by decide +kernel
theorem dX7_form_61 : decode cX7_form 61 = .ok (.aload_n 0, 1) := by decide +kernel
theorem dX7_form_62 : decode cX7_form 62 = .ok (.getfield 138, 3) := by decide +kernel
theorem dX7_form_65 : decode cX7_form 65 = .ok (.if_icmp .ge 21, 3) := by decide +kernel
theorem dX7_form_68 : decode cX7_form 68 = .ok (.aload_n 0, 1) := by decide +kernel
theorem dX7_form_69 : decode cX7_form 69 = .ok (.getfield 50, 3) := by decide +kernel
theorem dX7_form_72 : decode cX7_form 72 = .ok (.iload_n 3, 1) := by decide +kernel
theorem dX7_form_73 : decode cX7_form 73 = .ok (.aload_n 0, 1) := by decide +kernel
theorem dX7_form_74 : decode cX7_form 74 = .ok (.getfield 44, 3) := by decide +kernel
theorem dX7_form_77 : decode cX7_form 77 = .ok (.iload_n 3, 1) := by decide +kernel
theorem dX7_form_78 : decode cX7_form 78 = .ok (.iaload, 1) := by decide +kernel
theorem dX7_form_79 : decode cX7_form 79 = .ok (.iastore, 1) := by decide +kernel
theorem dX7_form_80 : decode cX7_form 80 = .ok (.iinc 3 1, 3) := by decide +kernel
theorem dX7_form_83 : decode cX7_form 83 = .ok (.goto (-23), 3) := by decide +kernel
theorem dX7_form_86 : decode cX7_form 86 = .ok (.aload_n 0, 1) := by decide +kernel
theorem dX7_form_87 : decode cX7_form 87 = .ok (.getfield 164, 3) := by decide +kernel
theorem dX7_form_90 : decode cX7_form 90 = .ok (.ireturn, 1) := by decide +kernel
theorem dX7_at_0 : decode cX7_at 0 = .ok (.aload_n 0, 1) := by decide +kernel
theorem dX7_at_1 : decode cX7_at 1 = .ok (.iconst 0, 1) := by decide +kernel
theorem dX7_at_2 : decode cX7_at 2 = .ok (.putfield 59, 3) := by decide +kernel
theorem dX7_at_5 : decode cX7_at 5 = .ok (.iload_n 1, 1) := by decide +kernel
theorem dX7_at_6 : decode cX7_at 6 = .ok (.ifCond .lt 11, 3) := by decide +kernel
theorem dX7_at_9 : decode cX7_at 9 = .ok (.iload_n 1, 1) := by decide +kernel
theorem dX7_at_10 : decode cX7_at 10 = .ok (.aload_n 0, 1) := by decide +kernel
theorem dX7_at_11 : decode cX7_at 11 = .ok (.getfield 164, 3) := by decide +kernel
theorem dX7_at_14 : decode cX7_at 14 = .ok (.if_icmp .lt 7, 3) := by decide +kernel
theorem dX7_at_17 : decode cX7_at 17 = .ok (.iconst (-1), 1) := by decide +kernel
theorem dX7_at_18 : decode cX7_at 18 = .ok (.goto 9, 3) := by decide +kernel
theorem dX7_at_21 : decode cX7_at 21 = .ok (.aload_n 0, 1) := by decide +kernel
theorem dX7_at_22 : decode cX7_at 22 = .ok (.getfield 50, 3) := by decide +kernel
theorem dX7_at_25 : decode cX7_at 25 = .ok (.iload_n 1, 1) := by decide +kernel
theorem dX7_at_26 : decode cX7_at 26 = .ok (.iaload, 1) := by decide +kernel
theorem dX7_at_27 : decode cX7_at 27 = .ok (.ireturn, 1) := by decide +kernel
theorem dX7_keep_0 : decode cX7_keep 0 = .ok (.aload_n 0, 1) := by decide +kernel
theorem dX7_keep_1 : decode cX7_keep 1 = .ok (.aload_n 0, 1) := by decide +kernel
theorem dX7_keep_2 : decode cX7_keep 2 = .ok (.getfield 164, 3) := by decide +kernel
theorem dX7_keep_5 : decode cX7_keep 5 = .ok (.sipush 1000, 3) := by decide +kernel
theorem dX7_keep_8 : decode cX7_keep 8 = .ok (.if_icmp .le 7, 3) := by decide +kernel
theorem dX7_keep_11 : decode cX7_keep 11 = .ok (.iconst 1, 1) := by decide +kernel
theorem dX7_keep_12 : decode cX7_keep 12 = .ok (.goto 4, 3) := by decide +kernel
theorem dX7_keep_15 : decode cX7_keep 15 = .ok (.iconst 0, 1) := by decide +kernel
theorem dX7_keep_16 : decode cX7_keep 16 = .ok (.invokevirtual 75, 3) := by decide +kernel
theorem dX7_keep_19 : decode cX7_keep 19 = .ok (.ifCond .eq 5, 3) := by decide +kernel
theorem dX7_keep_22 : decode cX7_keep 22 = .ok (.iconst 0, 1) := by decide +kernel
theorem dX7_keep_23 : decode cX7_keep 23 = .ok (.ireturn, 1) := by decide +kernel
theorem dX7_keep_24 : decode cX7_keep 24 = .ok (.aload_n 0, 1) := by decide +kernel
theorem dX7_keep_25 : decode cX7_keep 25 = .ok (.getfield 167, 3) := by decide +kernel
theorem dX7_keep_28 : decode cX7_keep 28 = .ok (.ifCond .ne 8, 3) := by decide +kernel
theorem dX7_keep_31 : decode cX7_keep 31 = .ok (.aload_n 0, 1) := by decide +kernel
theorem dX7_keep_32 : decode cX7_keep 32 = .ok (.getfield 135, 3) := by decide +kernel
theorem dX7_keep_35 : decode cX7_keep 35 = .ok (.ireturn, 1) := by decide +kernel
theorem dX7_keep_36 : decode cX7_keep 36 = .ok (.aload_n 0, 1) := by decide +kernel
theorem dX7_keep_37 : decode cX7_keep 37 = .ok (.aload_n 0, 1) := by decide +kernel
theorem dX7_keep_38 : decode cX7_keep 38 = .ok (.getfield 164, 3) := by decide +kernel
theorem dX7_keep_41 : decode cX7_keep 41 = .ok (.putfield 135, 3) := by decide +kernel
theorem dX7_keep_44 : decode cX7_keep 44 = .ok (.iconst 0, 1) := by decide +kernel
theorem dX7_keep_45 : decode cX7_keep 45 = .ok (.istore_n 1, 1) := by decide +kernel
theorem dX7_keep_46 : decode cX7_keep 46 = .ok (.iload_n 1, 1) := by decide +kernel
theorem dX7_keep_47 : decode cX7_keep 47 = .ok (.aload_n 0, 1) := by decide +kernel
theorem dX7_keep_48 : decode cX7_keep 48 = .ok (.getfield 164, 3) := by decide +kernel
theorem dX7_keep_51 : decode cX7_keep 51 = .ok (.if_icmp .ge 21, 3) := by decide +kernel
theorem dX7_keep_54 : decode cX7_keep 54 = .ok (.aload_n 0, 1) := by decide +kernel
theorem dX7_keep_55 : decode cX7_keep 55 = .ok (.getfield 41, 3) := by decide +kernel
theorem dX7_keep_58 : decode cX7_keep 58 = .ok (.iload_n 1, 1) := by decide +kernel
theorem dX7_keep_59 : decode cX7_keep 59 = .ok (.aload_n 0, 1) := by decide +kernel
theorem dX7_keep_60 : decode cX7_keep 60 = .ok (.getfield 50, 3) := by decide +kernel
theorem dX7_keep_63 : decode cX7_keep 63 = .ok (.iload_n 1, 1) := by decide +kernel
theorem dX7_keep_64 : decode cX7_keep 64 = .ok (.iaload, 1) := by decide +kernel
theorem dX7_keep_65 : decode cX7_keep 65 = .ok (.iastore, 1) := by decide +kernel
theorem dX7_keep_66 : decode cX7_keep 66 = .ok (.iinc 1 1, 3) := by decide +kernel
theorem dX7_keep_69 : decode cX7_keep 69 = .ok (.goto (-23), 3) := by decide +kernel
theorem dX7_keep_72 : decode cX7_keep 72 = .ok (.aload_n 0, 1) := by decide +kernel
theorem dX7_keep_73 : decode cX7_keep 73 = .ok (.getfield 135, 3) := by decide +kernel
theorem dX7_keep_76 : decode cX7_keep 76 = .ok (.ireturn, 1) := by decide +kernel
theorem dX7_isIn_0 : decode cX7_isIn 0 = .ok (.iload_n 1, 1) := by decide +kernel
theorem dX7_isIn_1 : decode cX7_isIn 1 = .ok (.ifCond .lt 12, 3) := by decide +kernel
theorem dX7_isIn_4 : decode cX7_isIn 4 = .ok (.iload_n 1, 1) := by decide +kernel
theorem dX7_isIn_5 : decode cX7_isIn 5 = .ok (.iconst 3, 1) := by decide +kernel
theorem dX7_isIn_6 : decode cX7_isIn 6 = .ok (.if_icmp .gt 7, 3) := by decide +kernel
theorem dX7_isIn_9 : decode cX7_isIn 9 = .ok (.iconst 1, 1) := by decide +kernel
theorem dX7_isIn_10 : decode cX7_isIn 10 = .ok (.goto 4, 3) := by decide +kernel
theorem dX7_isIn_13 : decode cX7_isIn 13 = .ok (.iconst 0, 1) := by decide +kernel
theorem dX7_isIn_14 : decode cX7_isIn 14 = .ok (.istore_n 2, 1) := by decide +kernel
theorem dX7_isIn_15 : decode cX7_isIn 15 = .ok (.aload_n 0, 1) := by decide +kernel
theorem dX7_isIn_16 : decode cX7_isIn 16 = .ok (.iload_n 2, 1) := by decide +kernel
theorem dX7_isIn_17 : decode cX7_isIn 17 = .ok (.ifCond .ne 7, 3) := by decide +kernel
theorem dX7_isIn_20 : decode cX7_isIn 20 = .ok (.iconst 1, 1) := by decide +kernel
theorem dX7_isIn_21 : decode cX7_isIn 21 = .ok (.goto 16, 3) := by decide +kernel
theorem dX7_isIn_24 : decode cX7_isIn 24 = .ok (.aload_n 0, 1) := by decide +kernel
theorem dX7_isIn_25 : decode cX7_isIn 25 = .ok (.iload_n 1, 1) := by decide +kernel
theorem dX7_isIn_26 : decode cX7_isIn 26 = .ok (.invokevirtual 161, 3) := by decide +kernel
theorem dX7_isIn_29 : decode cX7_isIn 29 = .ok (.ifCond .eq 7, 3) := by decide +kernel
theorem dX7_isIn_32 : decode cX7_isIn 32 = .ok (.iconst 0, 1) := by decide +kernel
theorem dX7_isIn_33 : decode cX7_isIn 33 = .ok (.goto 4, 3) := by decide +kernel
theorem dX7_isIn_36 : decode cX7_isIn 36 = .ok (.iconst 2, 1) := by decide +kernel
theorem dX7_isIn_37 : decode cX7_isIn 37 = .ok (.invokevirtual 75, 3) := by decide +kernel
theorem dX7_isIn_40 : decode cX7_isIn 40 = .ok (.ifCond .eq 5, 3) := by decide +kernel
theorem dX7_isIn_43 : decode cX7_isIn 43 = .ok (.iconst 0, 1) := by decide +kernel
theorem dX7_isIn_44 : decode cX7_isIn 44 = .ok (.ireturn, 1) := by decide +kernel
theorem dX7_isIn_45 : decode cX7_isIn 45 = .ok (.aload_n 0, 1) := by decide +kernel
theorem dX7_isIn_46 : decode cX7_isIn 46 = .ok (.getfield 138, 3) := by decide +kernel
theorem dX7_isIn_49 : decode cX7_isIn 49 = .ok (.aload_n 0, 1) := by decide +kernel
theorem dX7_isIn_50 : decode cX7_isIn 50 = .ok (.getfield 135, 3) := by decide +kernel
theorem dX7_isIn_53 : decode cX7_isIn 53 = .ok (.if_icmp .ne 7, 3) := by decide +kernel
theorem dX7_isIn_56 : decode cX7_isIn 56 = .ok (.iconst 1, 1) := by decide +kernel
theorem dX7_isIn_57 : decode cX7_isIn 57 = .ok (.goto 4, 3) := by decide +kernel
theorem dX7_isIn_60 : decode cX7_isIn 60 = .ok (.iconst 0, 1) := by decide +kernel
theorem dX7_isIn_61 : decode cX7_isIn 61 = .ok (.istore_n 3, 1) := by decide +kernel
theorem dX7_isIn_62 : decode cX7_isIn 62 = .ok (.iconst 0, 1) := by decide +kernel
theorem dX7_isIn_63 : decode cX7_isIn 63 = .ok (.istore 4, 2) := by decide +kernel
theorem dX7_isIn_65 : decode cX7_isIn 65 = .ok (.iload 4, 2) := by decide +kernel
theorem dX7_isIn_67 : decode cX7_isIn 67 = .ok (.aload_n 0, 1) := by decide +kernel
theorem dX7_isIn_68 : decode cX7_isIn 68 = .ok (.getfield 135, 3) := by decide +kernel
theorem dX7_isIn_71 : decode cX7_isIn 71 = .ok (.if_icmp .ge 36, 3) := by decide +kernel
theorem dX7_isIn_74 : decode cX7_isIn 74 = .ok (.iload_n 3, 1) := by decide +kernel
theorem dX7_isIn_75 : decode cX7_isIn 75 = .ok (.ifCond .eq 32, 3) := by decide +kernel
theorem dX7_isIn_78 : decode cX7_isIn 78 = .ok (.aload_n 0, 1) := by decide +kernel
theorem dX7_isIn_79 : decode cX7_isIn 79 = .ok (.getfield 44, 3) := by decide +kernel
theorem dX7_isIn_82 : decode cX7_isIn 82 = .ok (.iload 4, 2) := by decide +kernel
theorem dX7_isIn_84 : decode cX7_isIn 84 = .ok (.iaload, 1) := by decide +kernel
theorem dX7_isIn_85 : decode cX7_isIn 85 = .ok (.aload_n 0, 1) := by decide +kernel
theorem dX7_isIn_86 : decode cX7_isIn 86 = .ok (.getfield 41, 3) := by decide +kernel
theorem dX7_isIn_89 : decode cX7_isIn 89 = .ok (.iload 4, 2) := by decide +kernel
theorem dX7_isIn_91 : decode cX7_isIn 91 = .ok (.iaload, 1) := by decide +kernel
theorem dX7_isIn_92 : decode cX7_isIn 92 = .ok (.if_icmp .ne 7, 3) := by decide +kernel
theorem dX7_isIn_95 : decode cX7_isIn 95 = .ok (.iconst 1, 1) := by decide +kernel
theorem dX7_isIn_96 : decode cX7_isIn 96 = .ok (.goto 4, 3) := by decide +kernel
theorem dX7_isIn_99 : decode cX7_isIn 99 = .ok (.iconst 0, 1) := by decide +kernel
theorem dX7_isIn_100 : decode cX7_isIn 100 = .ok (.istore_n 3, 1) := by decide +kernel
theorem dX7_isIn_101 : decode cX7_isIn 101 = .ok (.iinc 4 1, 3) := by decide +kernel
theorem dX7_isIn_104 : decode cX7_isIn 104 = .ok (.goto (-39), 3) := by decide +kernel
theorem dX7_isIn_107 : decode cX7_isIn 107 = .ok (.iload_n 3, 1) := by decide +kernel
theorem dX7_isIn_108 : decode cX7_isIn 108 = .ok (.ireturn, 1) := by decide +kernel
theorem dX7_kindAt_0 : decode cX7_kindAt 0 = .ok (.aload_n 0, 1) := by decide +kernel
theorem dX7_kindAt_1 : decode cX7_kindAt 1 = .ok (.aload_n 0, 1) := by decide +kernel
theorem dX7_kindAt_2 : decode cX7_kindAt 2 = .ok (.getfield 41, 3) := by decide +kernel
theorem dX7_kindAt_5 : decode cX7_kindAt 5 = .ok (.iload_n 1, 1) := by decide +kernel
theorem dX7_kindAt_6 : decode cX7_kindAt 6 = .ok (.iaload, 1) := by decide +kernel
theorem dX7_kindAt_7 : decode cX7_kindAt 7 = .ok (.invokevirtual 171, 3) := by decide +kernel
theorem dX7_kindAt_10 : decode cX7_kindAt 10 = .ok (.ireturn, 1) := by decide +kernel
theorem dX7_isPictureBefore_0 : decode cX7_isPictureBefore 0 = .ok (.iload_n 1, 1) := by decide +kernel
theorem dX7_isPictureBefore_1 : decode cX7_isPictureBefore 1 = .ok (.iconst 1, 1) := by decide +kernel
theorem dX7_isPictureBefore_2 : decode cX7_isPictureBefore 2 = .ok (.isub, 1) := by decide +kernel
theorem dX7_isPictureBefore_3 : decode cX7_isPictureBefore 3 = .ok (.istore_n 2, 1) := by decide +kernel
theorem dX7_isPictureBefore_4 : decode cX7_isPictureBefore 4 = .ok (.iload_n 2, 1) := by decide +kernel
theorem dX7_isPictureBefore_5 : decode cX7_isPictureBefore 5 = .ok (.ifCond .lt 18, 3) := by decide +kernel
theorem dX7_isPictureBefore_8 : decode cX7_isPictureBefore 8 = .ok (.aload_n 0, 1) := by decide +kernel
theorem dX7_isPictureBefore_9 : decode cX7_isPictureBefore 9 = .ok (.iload_n 2, 1) := by decide +kernel
theorem dX7_isPictureBefore_10 : decode cX7_isPictureBefore 10 = .ok (.invokevirtual 174, 3) := by decide +kernel
theorem dX7_isPictureBefore_13 : decode cX7_isPictureBefore 13 = .ok (.iconst 4, 1) := by decide +kernel
theorem dX7_isPictureBefore_14 : decode cX7_isPictureBefore 14 = .ok (.if_icmp .ne 9, 3) := by decide +kernel
theorem dX7_isPictureBefore_17 : decode cX7_isPictureBefore 17 = .ok (.iinc 2 (-1), 3) := by decide +kernel
theorem dX7_isPictureBefore_20 : decode cX7_isPictureBefore 20 = .ok (.goto (-16), 3) := by decide +kernel
theorem dX7_isPictureBefore_23 : decode cX7_isPictureBefore 23 = .ok (.iload_n 2, 1) := by decide +kernel
theorem dX7_isPictureBefore_24 : decode cX7_isPictureBefore 24 = .ok (.ifCond .lt 17, 3) := by decide +kernel
theorem dX7_isPictureBefore_27 : decode cX7_isPictureBefore 27 = .ok (.aload_n 0, 1) := by decide +kernel
theorem dX7_isPictureBefore_28 : decode cX7_isPictureBefore 28 = .ok (.iload_n 2, 1) := by decide +kernel
theorem dX7_isPictureBefore_29 : decode cX7_isPictureBefore 29 = .ok (.invokevirtual 174, 3) := by decide +kernel
theorem dX7_isPictureBefore_32 : decode cX7_isPictureBefore 32 = .ok (.bipush 14, 2) := by decide +kernel
theorem dX7_isPictureBefore_34 : decode cX7_isPictureBefore 34 = .ok (.if_icmp .ne 7, 3) := by decide +kernel
theorem dX7_isPictureBefore_37 : decode cX7_isPictureBefore 37 = .ok (.iconst 1, 1) := by decide +kernel
theorem dX7_isPictureBefore_38 : decode cX7_isPictureBefore 38 = .ok (.goto 4, 3) := by decide +kernel
theorem dX7_isPictureBefore_41 : decode cX7_isPictureBefore 41 = .ok (.iconst 0, 1) := by decide +kernel
theorem dX7_isPictureBefore_42 : decode cX7_isPictureBefore 42 = .ok (.ireturn, 1) := by decide +kernel
theorem dX7_flagsBefore_0 : decode cX7_flagsBefore 0 = .ok (.iconst 0, 1) := by decide +kernel
theorem dX7_flagsBefore_1 : decode cX7_flagsBefore 1 = .ok (.istore_n 2, 1) := by decide +kernel
theorem dX7_flagsBefore_2 : decode cX7_flagsBefore 2 = .ok (.iload_n 2, 1) := by decide +kernel
theorem dX7_flagsBefore_3 : decode cX7_flagsBefore 3 = .ok (.iload_n 1, 1) := by decide +kernel
theorem dX7_flagsBefore_4 : decode cX7_flagsBefore 4 = .ok (.if_icmp .ge 23, 3) := by decide +kernel
theorem dX7_flagsBefore_7 : decode cX7_flagsBefore 7 = .ok (.aload_n 0, 1) := by decide +kernel
theorem dX7_flagsBefore_8 : decode cX7_flagsBefore 8 = .ok (.iload_n 1, 1) := by decide +kernel
theorem dX7_flagsBefore_9 : decode cX7_flagsBefore 9 = .ok (.iconst 1, 1) := by decide +kernel
theorem dX7_flagsBefore_10 : decode cX7_flagsBefore 10 = .ok (.isub, 1) := by decide +kernel
theorem dX7_flagsBefore_11 : decode cX7_flagsBefore 11 = .ok (.iload_n 2, 1) := by decide +kernel
theorem dX7_flagsBefore_12 : decode cX7_flagsBefore 12 = .ok (.isub, 1) := by decide +kernel
theorem dX7_flagsBefore_13 : decode cX7_flagsBefore 13 = .ok (.invokevirtual 174, 3) := by decide +kernel
theorem dX7_flagsBefore_16 : decode cX7_flagsBefore 16 = .ok (.bipush 6, 2) := by decide +kernel
theorem dX7_flagsBefore_18 : decode cX7_flagsBefore 18 = .ok (.if_icmp .ne 9, 3) := by decide +kernel
theorem dX7_flagsBefore_21 : decode cX7_flagsBefore 21 = .ok (.iinc 2 1, 3) := by decide +kernel
theorem dX7_flagsBefore_24 : decode cX7_flagsBefore 24 = .ok (.goto (-22), 3) := by decide +kernel
theorem dX7_flagsBefore_27 : decode cX7_flagsBefore 27 = .ok (.iload_n 2, 1) := by decide +kernel
theorem dX7_flagsBefore_28 : decode cX7_flagsBefore 28 = .ok (.ireturn, 1) := by decide +kernel
theorem dX7_isIn3_0 : decode cX7_isIn3 0 = .ok (.iload_n 0, 1) := by decide +kernel
theorem dX7_isIn3_1 : decode cX7_isIn3 1 = .ok (.iload_n 1, 1) := by decide +kernel
theorem dX7_isIn3_2 : decode cX7_isIn3 2 = .ok (.if_icmp .eq 13, 3) := by decide +kernel
theorem dX7_isIn3_5 : decode cX7_isIn3 5 = .ok (.iload_n 0, 1) := by decide +kernel
theorem dX7_isIn3_6 : decode cX7_isIn3 6 = .ok (.iload_n 2, 1) := by decide +kernel
theorem dX7_isIn3_7 : decode cX7_isIn3 7 = .ok (.if_icmp .eq 8, 3) := by decide +kernel
theorem dX7_isIn3_10 : decode cX7_isIn3 10 = .ok (.iload_n 0, 1) := by decide +kernel
theorem dX7_isIn3_11 : decode cX7_isIn3 11 = .ok (.iload_n 3, 1) := by decide +kernel
theorem dX7_isIn3_12 : decode cX7_isIn3 12 = .ok (.if_icmp .ne 7, 3) := by decide +kernel
theorem dX7_isIn3_15 : decode cX7_isIn3 15 = .ok (.iconst 1, 1) := by decide +kernel
theorem dX7_isIn3_16 : decode cX7_isIn3 16 = .ok (.goto 4, 3) := by decide +kernel
theorem dX7_isIn3_19 : decode cX7_isIn3 19 = .ok (.iconst 0, 1) := by decide +kernel
theorem dX7_isIn3_20 : decode cX7_isIn3 20 = .ok (.ireturn, 1) := by decide +kernel
theorem dX7_ruleAt_0 : decode cX7_ruleAt 0 = .ok (.iload_n 1, 1) := by decide +kernel
theorem dX7_ruleAt_1 : decode cX7_ruleAt 1 = .ok (.ifCond .ne 5, 3) := by decide +kernel
theorem dX7_ruleAt_4 : decode cX7_ruleAt 4 = .ok (.iconst 1, 1) := by decide +kernel
theorem dX7_ruleAt_5 : decode cX7_ruleAt 5 = .ok (.ireturn, 1) := by decide +kernel
theorem dX7_ruleAt_6 : decode cX7_ruleAt 6 = .ok (.iload_n 1, 1) := by decide +kernel
theorem dX7_ruleAt_7 : decode cX7_ruleAt 7 = .ok (.aload_n 0, 1) := by decide +kernel
theorem dX7_ruleAt_8 : decode cX7_ruleAt 8 = .ok (.getfield 135, 3) := by decide +kernel
theorem dX7_ruleAt_11 : decode cX7_ruleAt 11 = .ok (.if_icmp .ne 5, 3) := by decide +kernel
theorem dX7_ruleAt_14 : decode cX7_ruleAt 14 = .ok (.iconst 2, 1) := by decide +kernel
theorem dX7_ruleAt_15 : decode cX7_ruleAt 15 = .ok (.ireturn, 1) := by decide +kernel
theorem dX7_ruleAt_16 : decode cX7_ruleAt 16 = .ok (.aload_n 0, 1) := by decide +kernel
theorem dX7_ruleAt_17 : decode cX7_ruleAt 17 = .ok (.iload_n 1, 1) := by decide +kernel
theorem dX7_ruleAt_18 : decode cX7_ruleAt 18 = .ok (.iconst 1, 1) := by decide +kernel
theorem dX7_ruleAt_19 : decode cX7_ruleAt 19 = .ok (.isub, 1) := by decide +kernel
theorem dX7_ruleAt_20 : decode cX7_ruleAt 20 = .ok (.invokevirtual 174, 3) := by decide +kernel
theorem dX7_ruleAt_23 : decode cX7_ruleAt 23 = .ok (.istore_n 2, 1) := by decide +kernel
theorem dX7_ruleAt_24 : decode cX7_ruleAt 24 = .ok (.aload_n 0, 1) := by decide +kernel
theorem dX7_ruleAt_25 : decode cX7_ruleAt 25 = .ok (.iload_n 1, 1) := by decide +kernel
theorem dX7_ruleAt_26 : decode cX7_ruleAt 26 = .ok (.invokevirtual 174, 3) := by decide +kernel
theorem dX7_ruleAt_29 : decode cX7_ruleAt 29 = .ok (.istore_n 3, 1) := by decide +kernel
theorem dX7_ruleAt_30 : decode cX7_ruleAt 30 = .ok (.iload_n 2, 1) := by decide +kernel
theorem dX7_ruleAt_31 : decode cX7_ruleAt 31 = .ok (.iconst 1, 1) := by decide +kernel
theorem dX7_ruleAt_32 : decode cX7_ruleAt 32 = .ok (.if_icmp .ne 10, 3) := by decide +kernel
theorem dX7_ruleAt_35 : decode cX7_ruleAt 35 = .ok (.iload_n 3, 1) := by decide +kernel
theorem dX7_ruleAt_36 : decode cX7_ruleAt 36 = .ok (.iconst 2, 1) := by decide +kernel
theorem dX7_ruleAt_37 : decode cX7_ruleAt 37 = .ok (.if_icmp .ne 5, 3) := by decide +kernel
theorem dX7_ruleAt_40 : decode cX7_ruleAt 40 = .ok (.iconst 3, 1) := by decide +kernel
theorem dX7_ruleAt_41 : decode cX7_ruleAt 41 = .ok (.ireturn, 1) := by decide +kernel
theorem dX7_ruleAt_42 : decode cX7_ruleAt 42 = .ok (.iload_n 2, 1) := by decide +kernel
theorem dX7_ruleAt_43 : decode cX7_ruleAt 43 = .ok (.iconst 1, 1) := by decide +kernel
theorem dX7_ruleAt_44 : decode cX7_ruleAt 44 = .ok (.iconst 2, 1) := by decide +kernel
theorem dX7_ruleAt_45 : decode cX7_ruleAt 45 = .ok (.iconst 3, 1) := by decide +kernel
theorem dX7_ruleAt_46 : decode cX7_ruleAt 46 = .ok (.invokestatic 177, 3) := by decide +kernel
theorem dX7_ruleAt_49 : decode cX7_ruleAt 49 = .ok (.ifCond .eq 5, 3) := by decide +kernel
theorem dX7_ruleAt_52 : decode cX7_ruleAt 52 = .ok (.iconst 4, 1) := by decide +kernel
theorem dX7_ruleAt_53 : decode cX7_ruleAt 53 = .ok (.ireturn, 1) := by decide +kernel
theorem dX7_ruleAt_54 : decode cX7_ruleAt 54 = .ok (.iload_n 3, 1) := by decide +kernel
theorem dX7_ruleAt_55 : decode cX7_ruleAt 55 = .ok (.iconst 1, 1) := by decide +kernel
theorem dX7_ruleAt_56 : decode cX7_ruleAt 56 = .ok (.iconst 2, 1) := by decide +kernel
theorem dX7_ruleAt_57 : decode cX7_ruleAt 57 = .ok (.iconst 3, 1) := by decide +kernel
theorem dX7_ruleAt_58 : decode cX7_ruleAt 58 = .ok (.invokestatic 177, 3) := by decide +kernel
theorem dX7_ruleAt_61 : decode cX7_ruleAt 61 = .ok (.ifCond .eq 5, 3) := by decide +kernel
theorem dX7_ruleAt_64 : decode cX7_ruleAt 64 = .ok (.iconst 5, 1) := by decide +kernel
theorem dX7_ruleAt_65 : decode cX7_ruleAt 65 = .ok (.ireturn, 1) := by decide +kernel
theorem dX7_ruleAt_66 : decode cX7_ruleAt 66 = .ok (.iload_n 2, 1) := by decide +kernel
theorem dX7_ruleAt_67 : decode cX7_ruleAt 67 = .ok (.bipush 9, 2) := by decide +kernel
theorem dX7_ruleAt_69 : decode cX7_ruleAt 69 = .ok (.if_icmp .ne 25, 3) := by decide +kernel
theorem dX7_ruleAt_72 : decode cX7_ruleAt 72 = .ok (.iload_n 3, 1) := by decide +kernel
theorem dX7_ruleAt_73 : decode cX7_ruleAt 73 = .ok (.bipush 13, 2) := by decide +kernel
theorem dX7_ruleAt_75 : decode cX7_ruleAt 75 = .ok (.if_icmp .eq 16, 3) := by decide +kernel
theorem dX7_ruleAt_78 : decode cX7_ruleAt 78 = .ok (.iload_n 3, 1) := by decide +kernel
theorem dX7_ruleAt_79 : decode cX7_ruleAt 79 = .ok (.bipush 9, 2) := by decide +kernel
theorem dX7_ruleAt_81 : decode cX7_ruleAt 81 = .ok (.bipush 10, 2) := by decide +kernel
theorem dX7_ruleAt_83 : decode cX7_ruleAt 83 = .ok (.bipush 12, 2) := by decide +kernel
theorem dX7_ruleAt_85 : decode cX7_ruleAt 85 = .ok (.invokestatic 177, 3) := by decide +kernel
theorem dX7_ruleAt_88 : decode cX7_ruleAt 88 = .ok (.ifCond .eq 6, 3) := by decide +kernel
theorem dX7_ruleAt_91 : decode cX7_ruleAt 91 = .ok (.bipush 6, 2) := by decide +kernel
theorem dX7_ruleAt_93 : decode cX7_ruleAt 93 = .ok (.ireturn, 1) := by decide +kernel
theorem dX7_ruleAt_94 : decode cX7_ruleAt 94 = .ok (.iload_n 2, 1) := by decide +kernel
theorem dX7_ruleAt_95 : decode cX7_ruleAt 95 = .ok (.bipush 12, 2) := by decide +kernel
theorem dX7_ruleAt_97 : decode cX7_ruleAt 97 = .ok (.if_icmp .eq 9, 3) := by decide +kernel
theorem dX7_ruleAt_100 : decode cX7_ruleAt 100 = .ok (.iload_n 2, 1) := by decide +kernel
theorem dX7_ruleAt_101 : decode cX7_ruleAt 101 = .ok (.bipush 10, 2) := by decide +kernel
theorem dX7_ruleAt_103 : decode cX7_ruleAt 103 = .ok (.if_icmp .ne 18, 3) := by decide +kernel
theorem dX7_ruleAt_106 : decode cX7_ruleAt 106 = .ok (.iload_n 3, 1) := by decide +kernel
theorem dX7_ruleAt_107 : decode cX7_ruleAt 107 = .ok (.bipush 10, 2) := by decide +kernel
theorem dX7_ruleAt_109 : decode cX7_ruleAt 109 = .ok (.if_icmp .eq 9, 3) := by decide +kernel
theorem dX7_ruleAt_112 : decode cX7_ruleAt 112 = .ok (.iload_n 3, 1) := by decide +kernel
theorem dX7_ruleAt_113 : decode cX7_ruleAt 113 = .ok (.bipush 11, 2) := by decide +kernel
theorem dX7_ruleAt_115 : decode cX7_ruleAt 115 = .ok (.if_icmp .ne 6, 3) := by decide +kernel
theorem dX7_ruleAt_118 : decode cX7_ruleAt 118 = .ok (.bipush 7, 2) := by decide +kernel
theorem dX7_ruleAt_120 : decode cX7_ruleAt 120 = .ok (.ireturn, 1) := by decide +kernel
theorem dX7_ruleAt_121 : decode cX7_ruleAt 121 = .ok (.iload_n 2, 1) := by decide +kernel
theorem dX7_ruleAt_122 : decode cX7_ruleAt 122 = .ok (.bipush 13, 2) := by decide +kernel
theorem dX7_ruleAt_124 : decode cX7_ruleAt 124 = .ok (.if_icmp .eq 9, 3) := by decide +kernel
theorem dX7_ruleAt_127 : decode cX7_ruleAt 127 = .ok (.iload_n 2, 1) := by decide +kernel
theorem dX7_ruleAt_128 : decode cX7_ruleAt 128 = .ok (.bipush 11, 2) := by decide +kernel
theorem dX7_ruleAt_130 : decode cX7_ruleAt 130 = .ok (.if_icmp .ne 12, 3) := by decide +kernel
theorem dX7_ruleAt_133 : decode cX7_ruleAt 133 = .ok (.iload_n 3, 1) := by decide +kernel
theorem dX7_ruleAt_134 : decode cX7_ruleAt 134 = .ok (.bipush 11, 2) := by decide +kernel
theorem dX7_ruleAt_136 : decode cX7_ruleAt 136 = .ok (.if_icmp .ne 6, 3) := by decide +kernel
theorem dX7_ruleAt_139 : decode cX7_ruleAt 139 = .ok (.bipush 8, 2) := by decide +kernel
theorem dX7_ruleAt_141 : decode cX7_ruleAt 141 = .ok (.ireturn, 1) := by decide +kernel
theorem dX7_ruleAt_142 : decode cX7_ruleAt 142 = .ok (.iload_n 3, 1) := by decide +kernel
theorem dX7_ruleAt_143 : decode cX7_ruleAt 143 = .ok (.iconst 4, 1) := by decide +kernel
theorem dX7_ruleAt_144 : decode cX7_ruleAt 144 = .ok (.if_icmp .eq 8, 3) := by decide +kernel
theorem dX7_ruleAt_147 : decode cX7_ruleAt 147 = .ok (.iload_n 3, 1) := by decide +kernel
theorem dX7_ruleAt_148 : decode cX7_ruleAt 148 = .ok (.iconst 5, 1) := by decide +kernel
theorem dX7_ruleAt_149 : decode cX7_ruleAt 149 = .ok (.if_icmp .ne 6, 3) := by decide +kernel
theorem dX7_ruleAt_152 : decode cX7_ruleAt 152 = .ok (.bipush 9, 2) := by decide +kernel
theorem dX7_ruleAt_154 : decode cX7_ruleAt 154 = .ok (.ireturn, 1) := by decide +kernel
theorem dX7_ruleAt_155 : decode cX7_ruleAt 155 = .ok (.iload_n 3, 1) := by decide +kernel
theorem dX7_ruleAt_156 : decode cX7_ruleAt 156 = .ok (.bipush 8, 2) := by decide +kernel
theorem dX7_ruleAt_158 : decode cX7_ruleAt 158 = .ok (.if_icmp .ne 6, 3) := by decide +kernel
theorem dX7_ruleAt_161 : decode cX7_ruleAt 161 = .ok (.bipush 91, 2) := by decide +kernel
theorem dX7_ruleAt_163 : decode cX7_ruleAt 163 = .ok (.ireturn, 1) := by decide +kernel
theorem dX7_ruleAt_164 : decode cX7_ruleAt 164 = .ok (.iload_n 2, 1) := by decide +kernel
theorem dX7_ruleAt_165 : decode cX7_ruleAt 165 = .ok (.bipush 7, 2) := by decide +kernel
theorem dX7_ruleAt_167 : decode cX7_ruleAt 167 = .ok (.if_icmp .ne 6, 3) := by decide +kernel
theorem dX7_ruleAt_170 : decode cX7_ruleAt 170 = .ok (.bipush 92, 2) := by decide +kernel
theorem dX7_ruleAt_172 : decode cX7_ruleAt 172 = .ok (.ireturn, 1) := by decide +kernel
theorem dX7_ruleAt_173 : decode cX7_ruleAt 173 = .ok (.iload_n 2, 1) := by decide +kernel
theorem dX7_ruleAt_174 : decode cX7_ruleAt 174 = .ok (.iconst 5, 1) := by decide +kernel
theorem dX7_ruleAt_175 : decode cX7_ruleAt 175 = .ok (.if_icmp .ne 22, 3) := by decide +kernel
theorem dX7_ruleAt_178 : decode cX7_ruleAt 178 = .ok (.iload_n 3, 1) := by decide +kernel
theorem dX7_ruleAt_179 : decode cX7_ruleAt 179 = .ok (.bipush 14, 2) := by decide +kernel
theorem dX7_ruleAt_181 : decode cX7_ruleAt 181 = .ok (.if_icmp .ne 16, 3) := by decide +kernel
theorem dX7_ruleAt_184 : decode cX7_ruleAt 184 = .ok (.aload_n 0, 1) := by decide +kernel
theorem dX7_ruleAt_185 : decode cX7_ruleAt 185 = .ok (.iload_n 1, 1) := by decide +kernel
theorem dX7_ruleAt_186 : decode cX7_ruleAt 186 = .ok (.iconst 1, 1) := by decide +kernel
theorem dX7_ruleAt_187 : decode cX7_ruleAt 187 = .ok (.isub, 1) := by decide +kernel
theorem dX7_ruleAt_188 : decode cX7_ruleAt 188 = .ok (.invokevirtual 180, 3) := by decide +kernel
theorem dX7_ruleAt_191 : decode cX7_ruleAt 191 = .ok (.ifCond .eq 6, 3) := by decide +kernel
theorem dX7_ruleAt_194 : decode cX7_ruleAt 194 = .ok (.bipush 11, 2) := by decide +kernel
theorem dX7_ruleAt_196 : decode cX7_ruleAt 196 = .ok (.ireturn, 1) := by decide +kernel
theorem dX7_ruleAt_197 : decode cX7_ruleAt 197 = .ok (.iload_n 2, 1) := by decide +kernel
theorem dX7_ruleAt_198 : decode cX7_ruleAt 198 = .ok (.bipush 6, 2) := by decide +kernel
theorem dX7_ruleAt_200 : decode cX7_ruleAt 200 = .ok (.if_icmp .ne 25, 3) := by decide +kernel
theorem dX7_ruleAt_203 : decode cX7_ruleAt 203 = .ok (.iload_n 3, 1) := by decide +kernel
theorem dX7_ruleAt_204 : decode cX7_ruleAt 204 = .ok (.bipush 6, 2) := by decide +kernel
theorem dX7_ruleAt_206 : decode cX7_ruleAt 206 = .ok (.if_icmp .ne 19, 3) := by decide +kernel
theorem dX7_ruleAt_209 : decode cX7_ruleAt 209 = .ok (.aload_n 0, 1) := by decide +kernel
theorem dX7_ruleAt_210 : decode cX7_ruleAt 210 = .ok (.iload_n 1, 1) := by decide +kernel
theorem dX7_ruleAt_211 : decode cX7_ruleAt 211 = .ok (.invokevirtual 183, 3) := by decide +kernel
theorem dX7_ruleAt_214 : decode cX7_ruleAt 214 = .ok (.iconst 2, 1) := by decide +kernel
theorem dX7_ruleAt_215 : decode cX7_ruleAt 215 = .ok (.irem, 1) := by decide +kernel
theorem dX7_ruleAt_216 : decode cX7_ruleAt 216 = .ok (.iconst 1, 1) := by decide +kernel
theorem dX7_ruleAt_217 : decode cX7_ruleAt 217 = .ok (.if_icmp .ne 8, 3) := by decide +kernel
theorem dX7_ruleAt_220 : decode cX7_ruleAt 220 = .ok (.bipush 12, 2) := by decide +kernel
theorem dX7_ruleAt_222 : decode cX7_ruleAt 222 = .ok (.goto 6, 3) := by decide +kernel
theorem dX7_ruleAt_225 : decode cX7_ruleAt 225 = .ok (.sipush 999, 3) := by decide +kernel
theorem dX7_ruleAt_228 : decode cX7_ruleAt 228 = .ok (.ireturn, 1) := by decide +kernel
theorem dX7_endsAt_0 : decode cX7_endsAt 0 = .ok (.aload_n 0, 1) := by decide +kernel
theorem dX7_endsAt_1 : decode cX7_endsAt 1 = .ok (.iload_n 1, 1) := by decide +kernel
theorem dX7_endsAt_2 : decode cX7_endsAt 2 = .ok (.invokevirtual 186, 3) := by decide +kernel
theorem dX7_endsAt_5 : decode cX7_endsAt 5 = .ok (.istore_n 2, 1) := by decide +kernel
theorem dX7_endsAt_6 : decode cX7_endsAt 6 = .ok (.iload_n 2, 1) := by decide +kernel
theorem dX7_endsAt_7 : decode cX7_endsAt 7 = .ok (.iconst 1, 1) := by decide +kernel
theorem dX7_endsAt_8 : decode cX7_endsAt 8 = .ok (.if_icmp .ne 18, 3) := by decide +kernel
theorem dX7_endsAt_11 : decode cX7_endsAt 11 = .ok (.aload_n 0, 1) := by decide +kernel
theorem dX7_endsAt_12 : decode cX7_endsAt 12 = .ok (.getfield 135, 3) := by decide +kernel
theorem dX7_endsAt_15 : decode cX7_endsAt 15 = .ok (.ifCond .le 7, 3) := by decide +kernel
theorem dX7_endsAt_18 : decode cX7_endsAt 18 = .ok (.iconst 1, 1) := by decide +kernel
theorem dX7_endsAt_19 : decode cX7_endsAt 19 = .ok (.goto 34, 3) := by decide +kernel
theorem dX7_endsAt_22 : decode cX7_endsAt 22 = .ok (.iconst 0, 1) := by decide +kernel
theorem dX7_endsAt_23 : decode cX7_endsAt 23 = .ok (.goto 30, 3) := by decide +kernel
theorem dX7_endsAt_26 : decode cX7_endsAt 26 = .ok (.iload_n 2, 1) := by decide +kernel
theorem dX7_endsAt_27 : decode cX7_endsAt 27 = .ok (.iconst 2, 1) := by decide +kernel
theorem dX7_endsAt_28 : decode cX7_endsAt 28 = .ok (.if_icmp .eq 20, 3) := by decide +kernel
theorem dX7_endsAt_31 : decode cX7_endsAt 31 = .ok (.iload_n 2, 1) := by decide +kernel
theorem dX7_endsAt_32 : decode cX7_endsAt 32 = .ok (.iconst 4, 1) := by decide +kernel
theorem dX7_endsAt_33 : decode cX7_endsAt 33 = .ok (.if_icmp .eq 15, 3) := by decide +kernel
theorem dX7_endsAt_36 : decode cX7_endsAt 36 = .ok (.iload_n 2, 1) := by decide +kernel
theorem dX7_endsAt_37 : decode cX7_endsAt 37 = .ok (.iconst 5, 1) := by decide +kernel
theorem dX7_endsAt_38 : decode cX7_endsAt 38 = .ok (.if_icmp .eq 10, 3) := by decide +kernel
theorem dX7_endsAt_41 : decode cX7_endsAt 41 = .ok (.iload_n 2, 1) := by decide +kernel
theorem dX7_endsAt_42 : decode cX7_endsAt 42 = .ok (.sipush 999, 3) := by decide +kernel
theorem dX7_endsAt_45 : decode cX7_endsAt 45 = .ok (.if_icmp .ne 7, 3) := by decide +kernel
theorem dX7_endsAt_48 : decode cX7_endsAt 48 = .ok (.iconst 1, 1) := by decide +kernel
theorem dX7_endsAt_49 : decode cX7_endsAt 49 = .ok (.goto 4, 3) := by decide +kernel
theorem dX7_endsAt_52 : decode cX7_endsAt 52 = .ok (.iconst 0, 1) := by decide +kernel
theorem dX7_endsAt_53 : decode cX7_endsAt 53 = .ok (.ireturn, 1) := by decide +kernel
theorem dX7_ends_0 : decode cX7_ends 0 = .ok (.aload_n 0, 1) := by decide +kernel
theorem dX7_ends_1 : decode cX7_ends 1 = .ok (.iload_n 1, 1) := by decide +kernel
theorem dX7_ends_2 : decode cX7_ends 2 = .ok (.ifCond .lt 11, 3) := by decide +kernel
theorem dX7_ends_5 : decode cX7_ends 5 = .ok (.iload_n 1, 1) := by decide +kernel
theorem dX7_ends_6 : decode cX7_ends 6 = .ok (.aload_n 0, 1) := by decide +kernel
theorem dX7_ends_7 : decode cX7_ends 7 = .ok (.getfield 135, 3) := by decide +kernel
theorem dX7_ends_10 : decode cX7_ends 10 = .ok (.if_icmp .le 7, 3) := by decide +kernel
theorem dX7_ends_13 : decode cX7_ends 13 = .ok (.iconst 1, 1) := by decide +kernel
theorem dX7_ends_14 : decode cX7_ends 14 = .ok (.goto 4, 3) := by decide +kernel
theorem dX7_ends_17 : decode cX7_ends 17 = .ok (.iconst 0, 1) := by decide +kernel
theorem dX7_ends_18 : decode cX7_ends 18 = .ok (.invokevirtual 75, 3) := by decide +kernel
theorem dX7_ends_21 : decode cX7_ends 21 = .ok (.ifCond .ne 15, 3) := by decide +kernel
theorem dX7_ends_24 : decode cX7_ends 24 = .ok (.aload_n 0, 1) := by decide +kernel
theorem dX7_ends_25 : decode cX7_ends 25 = .ok (.iload_n 1, 1) := by decide +kernel
theorem dX7_ends_26 : decode cX7_ends 26 = .ok (.invokevirtual 189, 3) := by decide +kernel
theorem dX7_ends_29 : decode cX7_ends 29 = .ok (.ifCond .eq 7, 3) := by decide +kernel
theorem dX7_ends_32 : decode cX7_ends 32 = .ok (.iconst 1, 1) := by decide +kernel
theorem dX7_ends_33 : decode cX7_ends 33 = .ok (.goto 4, 3) := by decide +kernel
theorem dX7_ends_36 : decode cX7_ends 36 = .ok (.iconst 0, 1) := by decide +kernel
theorem dX7_ends_37 : decode cX7_ends 37 = .ok (.ireturn, 1) := by decide +kernel
theorem dX7_rule_0 : decode cX7_rule 0 = .ok (.aload_n 0, 1) := by decide +kernel
theorem dX7_rule_1 : decode cX7_rule 1 = .ok (.iload_n 1, 1) := by decide +kernel
theorem dX7_rule_2 : decode cX7_rule 2 = .ok (.ifCond .lt 11, 3) := by decide +kernel
theorem dX7_rule_5 : decode cX7_rule 5 = .ok (.iload_n 1, 1) := by decide +kernel
theorem dX7_rule_6 : decode cX7_rule 6 = .ok (.aload_n 0, 1) := by decide +kernel
theorem dX7_rule_7 : decode cX7_rule 7 = .ok (.getfield 135, 3) := by decide +kernel
theorem dX7_rule_10 : decode cX7_rule 10 = .ok (.if_icmp .le 7, 3) := by decide +kernel
theorem dX7_rule_13 : decode cX7_rule 13 = .ok (.iconst 1, 1) := by decide +kernel
theorem dX7_rule_14 : decode cX7_rule 14 = .ok (.goto 4, 3) := by decide +kernel
theorem dX7_rule_17 : decode cX7_rule 17 = .ok (.iconst 0, 1) := by decide +kernel
theorem dX7_rule_18 : decode cX7_rule 18 = .ok (.invokevirtual 75, 3) := by decide +kernel
theorem dX7_rule_21 : decode cX7_rule 21 = .ok (.ifCond .eq 7, 3) := by decide +kernel
theorem dX7_rule_24 : decode cX7_rule 24 = .ok (.iconst 0, 1) := by decide +kernel
theorem dX7_rule_25 : decode cX7_rule 25 = .ok (.goto 8, 3) := by decide +kernel
theorem dX7_rule_28 : decode cX7_rule 28 = .ok (.aload_n 0, 1) := by decide +kernel
theorem dX7_rule_29 : decode cX7_rule 29 = .ok (.iload_n 1, 1) := by decide +kernel
theorem dX7_rule_30 : decode cX7_rule 30 = .ok (.invokevirtual 186, 3) := by decide +kernel
theorem dX7_rule_33 : decode cX7_rule 33 = .ok (.ireturn, 1) := by decide +kernel
theorem dX7_readers_0 : decode cX7_readers 0 = .ok (.aload_n 0, 1) := by decide +kernel
theorem dX7_readers_1 : decode cX7_readers 1 = .ok (.iconst 0, 1) := by decide +kernel
theorem dX7_readers_2 : decode cX7_readers 2 = .ok (.putfield 59, 3) := by decide +kernel
theorem dX7_readers_5 : decode cX7_readers 5 = .ok (.iconst 0, 1) := by decide +kernel
theorem dX7_readers_6 : decode cX7_readers 6 = .ok (.istore_n 1, 1) := by decide +kernel
theorem dX7_readers_7 : decode cX7_readers 7 = .ok (.iconst 1, 1) := by decide +kernel
theorem dX7_readers_8 : decode cX7_readers 8 = .ok (.istore_n 2, 1) := by decide +kernel
theorem dX7_readers_9 : decode cX7_readers 9 = .ok (.iload_n 2, 1) := by decide +kernel
theorem dX7_readers_10 : decode cX7_readers 10 = .ok (.aload_n 0, 1) := by decide +kernel
theorem dX7_readers_11 : decode cX7_readers 11 = .ok (.getfield 135, 3) := by decide +kernel
theorem dX7_readers_14 : decode cX7_readers 14 = .ok (.if_icmp .gt 25, 3) := by decide +kernel
theorem dX7_readers_17 : decode cX7_readers 17 = .ok (.aload_n 0, 1) := by decide +kernel
theorem dX7_readers_18 : decode cX7_readers 18 = .ok (.iload_n 2, 1) := by decide +kernel
theorem dX7_readers_19 : decode cX7_readers 19 = .ok (.invokevirtual 189, 3) := by decide +kernel
theorem dX7_readers_22 : decode cX7_readers 22 = .ok (.ifCond .eq 9, 3) := by decide +kernel
theorem dX7_readers_25 : decode cX7_readers 25 = .ok (.iload_n 1, 1) := by decide +kernel
theorem dX7_readers_26 : decode cX7_readers 26 = .ok (.iconst 1, 1) := by decide +kernel
theorem dX7_readers_27 : decode cX7_readers 27 = .ok (.iadd, 1) := by decide +kernel
theorem dX7_readers_28 : decode cX7_readers 28 = .ok (.goto 4, 3) := by decide +kernel
theorem dX7_readers_31 : decode cX7_readers 31 = .ok (.iload_n 1, 1) := by decide +kernel
theorem dX7_readers_32 : decode cX7_readers 32 = .ok (.istore_n 1, 1) := by decide +kernel
theorem dX7_readers_33 : decode cX7_readers 33 = .ok (.iinc 2 1, 3) := by decide +kernel
theorem dX7_readers_36 : decode cX7_readers 36 = .ok (.goto (-27), 3) := by decide +kernel
theorem dX7_readers_39 : decode cX7_readers 39 = .ok (.iload_n 1, 1) := by decide +kernel
theorem dX7_readers_40 : decode cX7_readers 40 = .ok (.ireturn, 1) := by decide +kernel

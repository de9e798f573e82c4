theorem dX0_init_0 : decode cX0_init 0 = .ok (.aload_n 0, 1) := by decide +kernel
theorem dX0_init_1 : decode cX0_init 1 = .ok (.invokespecial 3, 3) := by decide +kernel
theorem dX0_init_4 : decode cX0_init 4 = .ok (.aload_n 0, 1) := by decide +kernel
theorem dX0_init_5 : decode cX0_init 5 = .ok (.sipush 2000, 3) := by decide +kernel
theorem dX0_init_8 : decode cX0_init 8 = .ok (.newarray .int, 2) := by decide +kernel
theorem dX0_init_10 : decode cX0_init 10 = .ok (.putfield 9, 3) := by decide +kernel
theorem dX0_init_13 : decode cX0_init 13 = .ok (.aload_n 0, 1) := by decide +kernel
theorem dX0_init_14 : decode cX0_init 14 = .ok (.sipush 2000, 3) := by decide +kernel
theorem dX0_init_17 : decode cX0_init 17 = .ok (.newarray .int, 2) := by decide +kernel
theorem dX0_init_19 : decode cX0_init 19 = .ok (.putfield 15, 3) := by decide +kernel
theorem dX0_init_22 : decode cX0_init 22 = .ok (.aload_n 0, 1) := by decide +kernel
theorem dX0_init_23 : decode cX0_init 23 = .ok (.iconst 3, 1) := by decide +kernel
theorem dX0_init_24 : decode cX0_init 24 = .ok (.newarray .int, 2) := by decide +kernel
theorem dX0_init_26 : decode cX0_init 26 = .ok (.putfield 18, 3) := by decide +kernel
theorem dX0_init_29 : decode cX0_init 29 = .ok (.aload_n 0, 1) := by decide +kernel
theorem dX0_init_30 : decode cX0_init 30 = .ok (.iconst 0, 1) := by decide +kernel
theorem dX0_init_31 : decode cX0_init 31 = .ok (.putfield 21, 3) := by decide +kernel
theorem dX0_init_34 : decode cX0_init 34 = .ok (.return_, 1) := by decide +kernel
theorem dX0_takeApart_0 : decode cX0_takeApart 0 = .ok (.iconst 0, 1) := by decide +kernel
theorem dX0_takeApart_1 : decode cX0_takeApart 1 = .ok (.istore 5, 2) := by decide +kernel
theorem dX0_takeApart_3 : decode cX0_takeApart 3 = .ok (.sipush 2000, 3) := by decide +kernel
theorem dX0_takeApart_6 : decode cX0_takeApart 6 = .ok (.iload_n 2, 1) := by decide +kernel
theorem dX0_takeApart_7 : decode cX0_takeApart 7 = .ok (.isub, 1) := by decide +kernel
theorem dX0_takeApart_8 : decode cX0_takeApart 8 = .ok (.istore 6, 2) := by decide +kernel
theorem dX0_takeApart_10 : decode cX0_takeApart 10 = .ok (.aload_n 1, 1) := by decide +kernel
theorem dX0_takeApart_11 : decode cX0_takeApart 11 = .ok (.iconst 0, 1) := by decide +kernel
theorem dX0_takeApart_12 : decode cX0_takeApart 12 = .ok (.aload_n 0, 1) := by decide +kernel
theorem dX0_takeApart_13 : decode cX0_takeApart 13 = .ok (.getfield 9, 3) := by decide +kernel
theorem dX0_takeApart_16 : decode cX0_takeApart 16 = .ok (.iload 6, 2) := by decide +kernel
theorem dX0_takeApart_18 : decode cX0_takeApart 18 = .ok (.iload_n 2, 1) := by decide +kernel
theorem dX0_takeApart_19 : decode cX0_takeApart 19 = .ok (.invokestatic 25, 3) := by decide +kernel
theorem dX0_takeApart_22 : decode cX0_takeApart 22 = .ok (.iconst 0, 1) := by decide +kernel
theorem dX0_takeApart_23 : decode cX0_takeApart 23 = .ok (.istore 7, 2) := by decide +kernel
theorem dX0_takeApart_25 : decode cX0_takeApart 25 = .ok (.iload 7, 2) := by decide +kernel
theorem dX0_takeApart_27 : decode cX0_takeApart 27 = .ok (.ldc 31, 2) := by decide +kernel
theorem dX0_takeApart_29 : decode cX0_takeApart 29 = .ok (.if_icmp .ge 97, 3) := by decide +kernel
theorem dX0_takeApart_32 : decode cX0_takeApart 32 = .ok (.iload 6, 2) := by decide +kernel
theorem dX0_takeApart_34 : decode cX0_takeApart 34 = .ok (.sipush 2000, 3) := by decide +kernel
theorem dX0_takeApart_37 : decode cX0_takeApart 37 = .ok (.if_icmp .ge 89, 3) := by decide +kernel
theorem dX0_takeApart_40 : decode cX0_takeApart 40 = .ok (.aload_n 0, 1) := by decide +kernel
theorem dX0_takeApart_41 : decode cX0_takeApart 41 = .ok (.getfield 9, 3) := by decide +kernel
theorem dX0_takeApart_44 : decode cX0_takeApart 44 = .ok (.iload 6, 2) := by decide +kernel
theorem dX0_takeApart_46 : decode cX0_takeApart 46 = .ok (.iaload, 1) := by decide +kernel
theorem dX0_takeApart_47 : decode cX0_takeApart 47 = .ok (.istore 8, 2) := by decide +kernel
theorem dX0_takeApart_49 : decode cX0_takeApart 49 = .ok (.aload_n 3, 1) := by decide +kernel
theorem dX0_takeApart_50 : decode cX0_takeApart 50 = .ok (.iload 8, 2) := by decide +kernel
theorem dX0_takeApart_52 : decode cX0_takeApart 52 = .ok (.iload 4, 2) := by decide +kernel
theorem dX0_takeApart_54 : decode cX0_takeApart 54 = .ok (.aload_n 0, 1) := by decide +kernel
theorem dX0_takeApart_55 : decode cX0_takeApart 55 = .ok (.getfield 18, 3) := by decide +kernel
theorem dX0_takeApart_58 : decode cX0_takeApart 58 = .ok (.invokevirtual 32, 3) := by decide +kernel
theorem dX0_takeApart_61 : decode cX0_takeApart 61 = .ok (.istore 9, 2) := by decide +kernel
theorem dX0_takeApart_63 : decode cX0_takeApart 63 = .ok (.iload 9, 2) := by decide +kernel
theorem dX0_takeApart_65 : decode cX0_takeApart 65 = .ok (.ifCond .ne 21, 3) := by decide +kernel
theorem dX0_takeApart_68 : decode cX0_takeApart 68 = .ok (.aload_n 0, 1) := by decide +kernel
theorem dX0_takeApart_69 : decode cX0_takeApart 69 = .ok (.getfield 9, 3) := by decide +kernel
theorem dX0_takeApart_72 : decode cX0_takeApart 72 = .ok (.iload 5, 2) := by decide +kernel
theorem dX0_takeApart_74 : decode cX0_takeApart 74 = .ok (.iload 8, 2) := by decide +kernel
theorem dX0_takeApart_76 : decode cX0_takeApart 76 = .ok (.iastore, 1) := by decide +kernel
theorem dX0_takeApart_77 : decode cX0_takeApart 77 = .ok (.iinc 5 1, 3) := by decide +kernel
theorem dX0_takeApart_80 : decode cX0_takeApart 80 = .ok (.iinc 6 1, 3) := by decide +kernel
theorem dX0_takeApart_83 : decode cX0_takeApart 83 = .ok (.goto 37, 3) := by decide +kernel
theorem dX0_takeApart_86 : decode cX0_takeApart 86 = .ok (.iload 6, 2) := by decide +kernel
theorem dX0_takeApart_88 : decode cX0_takeApart 88 = .ok (.iconst 1, 1) := by decide +kernel
theorem dX0_takeApart_89 : decode cX0_takeApart 89 = .ok (.iadd, 1) := by decide +kernel
theorem dX0_takeApart_90 : decode cX0_takeApart 90 = .ok (.iload 9, 2) := by decide +kernel
theorem dX0_takeApart_92 : decode cX0_takeApart 92 = .ok (.isub, 1) := by decide +kernel
theorem dX0_takeApart_93 : decode cX0_takeApart 93 = .ok (.istore 6, 2) := by decide +kernel
theorem dX0_takeApart_95 : decode cX0_takeApart 95 = .ok (.iload 6, 2) := by decide +kernel
theorem dX0_takeApart_97 : decode cX0_takeApart 97 = .ok (.iload 5, 2) := by decide +kernel
theorem dX0_takeApart_99 : decode cX0_takeApart 99 = .ok (.if_icmp .ge 5, 3) := by decide +kernel
theorem dX0_takeApart_102 : decode cX0_takeApart 102 = .ok (.iconst 0, 1) := by decide +kernel
theorem dX0_takeApart_103 : decode cX0_takeApart 103 = .ok (.ireturn, 1) := by decide +kernel
theorem dX0_takeApart_104 : decode cX0_takeApart 104 = .ok (.aload_n 0, 1) := by decide +kernel
theorem dX0_takeApart_105 : decode cX0_takeApart 105 = .ok (.getfield 18, 3) := by decide +kernel
theorem dX0_takeApart_108 : decode cX0_takeApart 108 = .ok (.iconst 0, 1) := by decide +kernel
theorem dX0_takeApart_109 : decode cX0_takeApart 109 = .ok (.aload_n 0, 1) := by decide +kernel
theorem dX0_takeApart_110 : decode cX0_takeApart 110 = .ok (.getfield 9, 3) := by decide +kernel
theorem dX0_takeApart_113 : decode cX0_takeApart 113 = .ok (.iload 6, 2) := by decide +kernel
theorem dX0_takeApart_115 : decode cX0_takeApart 115 = .ok (.iload 9, 2) := by decide +kernel
theorem dX0_takeApart_117 : decode cX0_takeApart 117 = .ok (.invokestatic 25, 3) := by decide +kernel
theorem dX0_takeApart_120 : decode cX0_takeApart 120 = .ok (.iinc 7 1, 3) := by decide +kernel
theorem dX0_takeApart_123 : decode cX0_takeApart 123 = .ok (.goto (-98), 3) := by decide +kernel
theorem dX0_takeApart_126 : decode cX0_takeApart 126 = .ok (.aload_n 0, 1) := by decide +kernel
theorem dX0_takeApart_127 : decode cX0_takeApart 127 = .ok (.iload 5, 2) := by decide +kernel
theorem dX0_takeApart_129 : decode cX0_takeApart 129 = .ok (.putfield 21, 3) := by decide +kernel
theorem dX0_takeApart_132 : decode cX0_takeApart 132 = .ok (.iload 6, 2) := by decide +kernel
theorem dX0_takeApart_134 : decode cX0_takeApart 134 = .ok (.sipush 2000, 3) := by decide +kernel
theorem dX0_takeApart_137 : decode cX0_takeApart 137 = .ok (.if_icmp .ne 7, 3) := by decide +kernel
theorem dX0_takeApart_140 : decode cX0_takeApart 140 = .ok (.iconst 1, 1) := by decide +kernel
theorem dX0_takeApart_141 : decode cX0_takeApart 141 = .ok (.goto 4, 3) := by decide +kernel
theorem dX0_takeApart_144 : decode cX0_takeApart 144 = .ok (.iconst 0, 1) := by decide +kernel
theorem dX0_takeApart_145 : decode cX0_takeApart 145 = .ok (.ireturn, 1) := by decide +kernel
theorem dX0_readClasses_0 : decode cX0_readClasses 0 = .ok (.iconst 0, 1) := by decide +kernel
theorem dX0_readClasses_1 : decode cX0_readClasses 1 = .ok (.istore_n 2, 1) := by decide +kernel
theorem dX0_readClasses_2 : decode cX0_readClasses 2 = .ok (.iload_n 2, 1) := by decide +kernel
theorem dX0_readClasses_3 : decode cX0_readClasses 3 = .ok (.aload_n 0, 1) := by decide +kernel
theorem dX0_readClasses_4 : decode cX0_readClasses 4 = .ok (.getfield 21, 3) := by decide +kernel
theorem dX0_readClasses_7 : decode cX0_readClasses 7 = .ok (.if_icmp .ge 25, 3) := by decide +kernel
theorem dX0_readClasses_10 : decode cX0_readClasses 10 = .ok (.aload_n 0, 1) := by decide +kernel
theorem dX0_readClasses_11 : decode cX0_readClasses 11 = .ok (.getfield 15, 3) := by decide +kernel
theorem dX0_readClasses_14 : decode cX0_readClasses 14 = .ok (.iload_n 2, 1) := by decide +kernel
theorem dX0_readClasses_15 : decode cX0_readClasses 15 = .ok (.aload_n 1, 1) := by decide +kernel
theorem dX0_readClasses_16 : decode cX0_readClasses 16 = .ok (.aload_n 0, 1) := by decide +kernel
theorem dX0_readClasses_17 : decode cX0_readClasses 17 = .ok (.getfield 9, 3) := by decide +kernel
theorem dX0_readClasses_20 : decode cX0_readClasses 20 = .ok (.iload_n 2, 1) := by decide +kernel
theorem dX0_readClasses_21 : decode cX0_readClasses 21 = .ok (.iaload, 1) := by decide +kernel
theorem dX0_readClasses_22 : decode cX0_readClasses 22 = .ok (.invokevirtual 38, 3) := by decide +kernel
theorem dX0_readClasses_25 : decode cX0_readClasses 25 = .ok (.iastore, 1) := by decide +kernel
theorem dX0_readClasses_26 : decode cX0_readClasses 26 = .ok (.iinc 2 1, 3) := by decide +kernel
theorem dX0_readClasses_29 : decode cX0_readClasses 29 = .ok (.goto (-27), 3) := by decide +kernel
theorem dX0_readClasses_32 : decode cX0_readClasses 32 = .ok (.return_, 1) := by decide +kernel
theorem dX0_putInOrder_0 : decode cX0_putInOrder 0 = .ok (.iconst 1, 1) := by decide +kernel
theorem dX0_putInOrder_1 : decode cX0_putInOrder 1 = .ok (.istore_n 1, 1) := by decide +kernel
theorem dX0_putInOrder_2 : decode cX0_putInOrder 2 = .ok (.iload_n 1, 1) := by decide +kernel
theorem dX0_putInOrder_3 : decode cX0_putInOrder 3 = .ok (.aload_n 0, 1) := by decide +kernel
theorem dX0_putInOrder_4 : decode cX0_putInOrder 4 = .ok (.getfield 21, 3) := by decide +kernel
theorem dX0_putInOrder_7 : decode cX0_putInOrder 7 = .ok (.if_icmp .ge 23, 3) := by decide +kernel
theorem dX0_putInOrder_10 : decode cX0_putInOrder 10 = .ok (.aload_n 0, 1) := by decide +kernel
theorem dX0_putInOrder_11 : decode cX0_putInOrder 11 = .ok (.getfield 15, 3) := by decide +kernel
theorem dX0_putInOrder_14 : decode cX0_putInOrder 14 = .ok (.iload_n 1, 1) := by decide +kernel
theorem dX0_putInOrder_15 : decode cX0_putInOrder 15 = .ok (.iaload, 1) := by decide +kernel
theorem dX0_putInOrder_16 : decode cX0_putInOrder 16 = .ok (.ifCond .le 8, 3) := by decide +kernel
theorem dX0_putInOrder_19 : decode cX0_putInOrder 19 = .ok (.aload_n 0, 1) := by decide +kernel
theorem dX0_putInOrder_20 : decode cX0_putInOrder 20 = .ok (.iload_n 1, 1) := by decide +kernel
theorem dX0_putInOrder_21 : decode cX0_putInOrder 21 = .ok (.invokevirtual 44, 3) := by decide +kernel
theorem dX0_putInOrder_24 : decode cX0_putInOrder 24 = .ok (.iinc 1 1, 3) := by decide +kernel
theorem dX0_putInOrder_27 : decode cX0_putInOrder 27 = .ok (.goto (-25), 3) := by decide +kernel
theorem dX0_putInOrder_30 : decode cX0_putInOrder 30 = .ok (.return_, 1) := by decide +kernel
theorem dX0_moveBack_0 : decode cX0_moveBack 0 = .ok (.aload_n 0, 1) := by decide +kernel
theorem dX0_moveBack_1 : decode cX0_moveBack 1 = .ok (.getfield 9, 3) := by decide +kernel
theorem dX0_moveBack_4 : decode cX0_moveBack 4 = .ok (.iload_n 1, 1) := by decide +kernel
theorem dX0_moveBack_5 : decode cX0_moveBack 5 = .ok (.iaload, 1) := by decide +kernel
theorem dX0_moveBack_6 : decode cX0_moveBack 6 = .ok (.istore_n 2, 1) := by decide +kernel
theorem dX0_moveBack_7 : decode cX0_moveBack 7 = .ok (.aload_n 0, 1) := by decide +kernel
theorem dX0_moveBack_8 : decode cX0_moveBack 8 = .ok (.getfield 15, 3) := by decide +kernel
theorem dX0_moveBack_11 : decode cX0_moveBack 11 = .ok (.iload_n 1, 1) := by decide +kernel
theorem dX0_moveBack_12 : decode cX0_moveBack 12 = .ok (.iaload, 1) := by decide +kernel
theorem dX0_moveBack_13 : decode cX0_moveBack 13 = .ok (.istore_n 3, 1) := by decide +kernel
theorem dX0_moveBack_14 : decode cX0_moveBack 14 = .ok (.iload_n 1, 1) := by decide +kernel
theorem dX0_moveBack_15 : decode cX0_moveBack 15 = .ok (.istore 4, 2) := by decide +kernel
theorem dX0_moveBack_17 : decode cX0_moveBack 17 = .ok (.iload 4, 2) := by decide +kernel
theorem dX0_moveBack_19 : decode cX0_moveBack 19 = .ok (.ifCond .le 54, 3) := by decide +kernel
theorem dX0_moveBack_22 : decode cX0_moveBack 22 = .ok (.aload_n 0, 1) := by decide +kernel
theorem dX0_moveBack_23 : decode cX0_moveBack 23 = .ok (.getfield 15, 3) := by decide +kernel
theorem dX0_moveBack_26 : decode cX0_moveBack 26 = .ok (.iload 4, 2) := by decide +kernel
theorem dX0_moveBack_28 : decode cX0_moveBack 28 = .ok (.iconst 1, 1) := by decide +kernel
theorem dX0_moveBack_29 : decode cX0_moveBack 29 = .ok (.isub, 1) := by decide +kernel
theorem dX0_moveBack_30 : decode cX0_moveBack 30 = .ok (.iaload, 1) := by decide +kernel
theorem dX0_moveBack_31 : decode cX0_moveBack 31 = .ok (.iload_n 3, 1) := by decide +kernel
theorem dX0_moveBack_32 : decode cX0_moveBack 32 = .ok (.if_icmp .le 41, 3) := by decide +kernel
theorem dX0_moveBack_35 : decode cX0_moveBack 35 = .ok (.aload_n 0, 1) := by decide +kernel
theorem dX0_moveBack_36 : decode cX0_moveBack 36 = .ok (.getfield 9, 3) := by decide +kernel
theorem dX0_moveBack_39 : decode cX0_moveBack 39 = .ok (.iload 4, 2) := by decide +kernel
theorem dX0_moveBack_41 : decode cX0_moveBack 41 = .ok (.aload_n 0, 1) := by decide +kernel
theorem dX0_moveBack_42 : decode cX0_moveBack 42 = .ok (.getfield 9, 3) := by decide +kernel
theorem dX0_moveBack_45 : decode cX0_moveBack 45 = .ok (.iload 4, 2) := by decide +kernel
theorem dX0_moveBack_47 : decode cX0_moveBack 47 = .ok (.iconst 1, 1) := by decide +kernel
theorem dX0_moveBack_48 : decode cX0_moveBack 48 = .ok (.isub, 1) := by decide +kernel
theorem dX0_moveBack_49 : decode cX0_moveBack 49 = .ok (.iaload, 1) := by decide +kernel
theorem dX0_moveBack_50 : decode cX0_moveBack 50 = .ok (.iastore, 1) := by decide +kernel
theorem dX0_moveBack_51 : decode cX0_moveBack 51 = .ok (.aload_n 0, 1) := by decide +kernel
theorem dX0_moveBack_52 : decode cX0_moveBack 52 = .ok (.getfield 15, 3) := by decide +kernel
theorem dX0_moveBack_55 : decode cX0_moveBack 55 = .ok (.iload 4, 2) := by decide +kernel
theorem dX0_moveBack_57 : decode cX0_moveBack 57 = .ok (.aload_n 0, 1) := by decide +kernel
theorem dX0_moveBack_58 : decode cX0_moveBack 58 = .ok (.getfield 15, 3) := by decide +kernel
theorem dX0_moveBack_61 : decode cX0_moveBack 61 = .ok (.iload 4, 2) := by decide +kernel
theorem dX0_moveBack_63 : decode cX0_moveBack 63 = .ok (.iconst 1, 1) := by decide +kernel
theorem dX0_moveBack_64 : decode cX0_moveBack 64 = .ok (.isub, 1) := by decide +kernel
theorem dX0_moveBack_65 : decode cX0_moveBack 65 = .ok (.iaload, 1) := by decide +kernel
theorem dX0_moveBack_66 : decode cX0_moveBack 66 = .ok (.iastore, 1) := by decide +kernel
theorem dX0_moveBack_67 : decode cX0_moveBack 67 = .ok (.iinc 4 (-1), 3) := by decide +kernel
theorem dX0_moveBack_70 : decode cX0_moveBack 70 = .ok (.goto (-53), 3) := by decide +kernel
theorem dX0_moveBack_73 : decode cX0_moveBack 73 = .ok (.aload_n 0, 1) := by decide +kernel
theorem dX0_moveBack_74 : decode cX0_moveBack 74 = .ok (.getfield 9, 3) := by decide +kernel
theorem dX0_moveBack_77 : decode cX0_moveBack 77 = .ok (.iload 4, 2) := by decide +kernel
theorem dX0_moveBack_79 : decode cX0_moveBack 79 = .ok (.iload_n 2, 1) := by decide +kernel
theorem dX0_moveBack_80 : decode cX0_moveBack 80 = .ok (.iastore, 1) := by decide +kernel
theorem dX0_moveBack_81 : decode cX0_moveBack 81 = .ok (.aload_n 0, 1) := by decide +kernel
theorem dX0_moveBack_82 : decode cX0_moveBack 82 = .ok (.getfield 15, 3) := by decide +kernel
theorem dX0_moveBack_85 : decode cX0_moveBack 85 = .ok (.iload 4, 2) := by decide +kernel
theorem dX0_moveBack_87 : decode cX0_moveBack 87 = .ok (.iload_n 3, 1) := by decide +kernel
theorem dX0_moveBack_88 : decode cX0_moveBack 88 = .ok (.iastore, 1) := by decide +kernel
theorem dX0_moveBack_89 : decode cX0_moveBack 89 = .ok (.return_, 1) := by decide +kernel
theorem dX0_putTogether_0 : decode cX0_putTogether 0 = .ok (.iconst 0, 1) := by decide +kernel
theorem dX0_putTogether_1 : decode cX0_putTogether 1 = .ok (.istore 4, 2) := by decide +kernel
theorem dX0_putTogether_3 : decode cX0_putTogether 3 = .ok (.iconst (-1), 1) := by decide +kernel
theorem dX0_putTogether_4 : decode cX0_putTogether 4 = .ok (.istore 5, 2) := by decide +kernel
theorem dX0_putTogether_6 : decode cX0_putTogether 6 = .ok (.iconst 0, 1) := by decide +kernel
theorem dX0_putTogether_7 : decode cX0_putTogether 7 = .ok (.istore 6, 2) := by decide +kernel
theorem dX0_putTogether_9 : decode cX0_putTogether 9 = .ok (.iload 6, 2) := by decide +kernel
theorem dX0_putTogether_11 : decode cX0_putTogether 11 = .ok (.aload_n 0, 1) := by decide +kernel
theorem dX0_putTogether_12 : decode cX0_putTogether 12 = .ok (.getfield 21, 3) := by decide +kernel
theorem dX0_putTogether_15 : decode cX0_putTogether 15 = .ok (.if_icmp .ge 123, 3) := by decide +kernel
theorem dX0_putTogether_18 : decode cX0_putTogether 18 = .ok (.iconst (-1), 1) := by decide +kernel
theorem dX0_putTogether_19 : decode cX0_putTogether 19 = .ok (.istore 7, 2) := by decide +kernel
theorem dX0_putTogether_21 : decode cX0_putTogether 21 = .ok (.iload 5, 2) := by decide +kernel
theorem dX0_putTogether_23 : decode cX0_putTogether 23 = .ok (.iconst (-1), 1) := by decide +kernel
theorem dX0_putTogether_24 : decode cX0_putTogether 24 = .ok (.if_icmp .eq 45, 3) := by decide +kernel
theorem dX0_putTogether_27 : decode cX0_putTogether 27 = .ok (.aload_n 0, 1) := by decide +kernel
theorem dX0_putTogether_28 : decode cX0_putTogether 28 = .ok (.iload 5, 2) := by decide +kernel
theorem dX0_putTogether_30 : decode cX0_putTogether 30 = .ok (.iload 4, 2) := by decide +kernel
theorem dX0_putTogether_32 : decode cX0_putTogether 32 = .ok (.iconst 1, 1) := by decide +kernel
theorem dX0_putTogether_33 : decode cX0_putTogether 33 = .ok (.isub, 1) := by decide +kernel
theorem dX0_putTogether_34 : decode cX0_putTogether 34 = .ok (.aload_n 0, 1) := by decide +kernel
theorem dX0_putTogether_35 : decode cX0_putTogether 35 = .ok (.getfield 15, 3) := by decide +kernel
theorem dX0_putTogether_38 : decode cX0_putTogether 38 = .ok (.iload 6, 2) := by decide +kernel
theorem dX0_putTogether_40 : decode cX0_putTogether 40 = .ok (.iaload, 1) := by decide +kernel
theorem dX0_putTogether_41 : decode cX0_putTogether 41 = .ok (.invokevirtual 48, 3) := by decide +kernel
theorem dX0_putTogether_44 : decode cX0_putTogether 44 = .ok (.ifCond .eq 25, 3) := by decide +kernel
theorem dX0_putTogether_47 : decode cX0_putTogether 47 = .ok (.aload_n 0, 1) := by decide +kernel
theorem dX0_putTogether_48 : decode cX0_putTogether 48 = .ok (.getfield 9, 3) := by decide +kernel
theorem dX0_putTogether_51 : decode cX0_putTogether 51 = .ok (.iload 5, 2) := by decide +kernel
theorem dX0_putTogether_53 : decode cX0_putTogether 53 = .ok (.iaload, 1) := by decide +kernel
theorem dX0_putTogether_54 : decode cX0_putTogether 54 = .ok (.aload_n 0, 1) := by decide +kernel
theorem dX0_putTogether_55 : decode cX0_putTogether 55 = .ok (.getfield 9, 3) := by decide +kernel
theorem dX0_putTogether_58 : decode cX0_putTogether 58 = .ok (.iload 6, 2) := by decide +kernel
theorem dX0_putTogether_60 : decode cX0_putTogether 60 = .ok (.iaload, 1) := by decide +kernel
theorem dX0_putTogether_61 : decode cX0_putTogether 61 = .ok (.aload_n 1, 1) := by decide +kernel
theorem dX0_putTogether_62 : decode cX0_putTogether 62 = .ok (.aload_n 2, 1) := by decide +kernel
theorem dX0_putTogether_63 : decode cX0_putTogether 63 = .ok (.aload_n 3, 1) := by decide +kernel
theorem dX0_putTogether_64 : decode cX0_putTogether 64 = .ok (.invokestatic 52, 3) := by decide +kernel
theorem dX0_putTogether_67 : decode cX0_putTogether 67 = .ok (.istore 7, 2) := by decide +kernel
theorem dX0_putTogether_69 : decode cX0_putTogether 69 = .ok (.iload 7, 2) := by decide +kernel
theorem dX0_putTogether_71 : decode cX0_putTogether 71 = .ok (.iconst (-1), 1) := by decide +kernel
theorem dX0_putTogether_72 : decode cX0_putTogether 72 = .ok (.if_icmp .eq 15, 3) := by decide +kernel
theorem dX0_putTogether_75 : decode cX0_putTogether 75 = .ok (.aload_n 0, 1) := by decide +kernel
theorem dX0_putTogether_76 : decode cX0_putTogether 76 = .ok (.getfield 9, 3) := by decide +kernel
theorem dX0_putTogether_79 : decode cX0_putTogether 79 = .ok (.iload 5, 2) := by decide +kernel
theorem dX0_putTogether_81 : decode cX0_putTogether 81 = .ok (.iload 7, 2) := by decide +kernel
theorem dX0_putTogether_83 : decode cX0_putTogether 83 = .ok (.iastore, 1) := by decide +kernel
theorem dX0_putTogether_84 : decode cX0_putTogether 84 = .ok (.goto 48, 3) := by decide +kernel
theorem dX0_putTogether_87 : decode cX0_putTogether 87 = .ok (.aload_n 0, 1) := by decide +kernel
theorem dX0_putTogether_88 : decode cX0_putTogether 88 = .ok (.getfield 9, 3) := by decide +kernel
theorem dX0_putTogether_91 : decode cX0_putTogether 91 = .ok (.iload 4, 2) := by decide +kernel
theorem dX0_putTogether_93 : decode cX0_putTogether 93 = .ok (.aload_n 0, 1) := by decide +kernel
theorem dX0_putTogether_94 : decode cX0_putTogether 94 = .ok (.getfield 9, 3) := by decide +kernel
theorem dX0_putTogether_97 : decode cX0_putTogether 97 = .ok (.iload 6, 2) := by decide +kernel
theorem dX0_putTogether_99 : decode cX0_putTogether 99 = .ok (.iaload, 1) := by decide +kernel
theorem dX0_putTogether_100 : decode cX0_putTogether 100 = .ok (.iastore, 1) := by decide +kernel
theorem dX0_putTogether_101 : decode cX0_putTogether 101 = .ok (.aload_n 0, 1) := by decide +kernel
theorem dX0_putTogether_102 : decode cX0_putTogether 102 = .ok (.getfield 15, 3) := by decide +kernel
theorem dX0_putTogether_105 : decode cX0_putTogether 105 = .ok (.iload 4, 2) := by decide +kernel
theorem dX0_putTogether_107 : decode cX0_putTogether 107 = .ok (.aload_n 0, 1) := by decide +kernel
theorem dX0_putTogether_108 : decode cX0_putTogether 108 = .ok (.getfield 15, 3) := by decide +kernel
theorem dX0_putTogether_111 : decode cX0_putTogether 111 = .ok (.iload 6, 2) := by decide +kernel
theorem dX0_putTogether_113 : decode cX0_putTogether 113 = .ok (.iaload, 1) := by decide +kernel
theorem dX0_putTogether_114 : decode cX0_putTogether 114 = .ok (.iastore, 1) := by decide +kernel
theorem dX0_putTogether_115 : decode cX0_putTogether 115 = .ok (.aload_n 0, 1) := by decide +kernel
theorem dX0_putTogether_116 : decode cX0_putTogether 116 = .ok (.getfield 15, 3) := by decide +kernel
theorem dX0_putTogether_119 : decode cX0_putTogether 119 = .ok (.iload 4, 2) := by decide +kernel
theorem dX0_putTogether_121 : decode cX0_putTogether 121 = .ok (.iaload, 1) := by decide +kernel
theorem dX0_putTogether_122 : decode cX0_putTogether 122 = .ok (.ifCond .ne 7, 3) := by decide +kernel
theorem dX0_putTogether_125 : decode cX0_putTogether 125 = .ok (.iload 4, 2) := by decide +kernel
theorem dX0_putTogether_127 : decode cX0_putTogether 127 = .ok (.istore 5, 2) := by decide +kernel
theorem dX0_putTogether_129 : decode cX0_putTogether 129 = .ok (.iinc 4 1, 3) := by decide +kernel
theorem dX0_putTogether_132 : decode cX0_putTogether 132 = .ok (.iinc 6 1, 3) := by decide +kernel
theorem dX0_putTogether_135 : decode cX0_putTogether 135 = .ok (.goto (-126), 3) := by decide +kernel
theorem dX0_putTogether_138 : decode cX0_putTogether 138 = .ok (.aload_n 0, 1) := by decide +kernel
theorem dX0_putTogether_139 : decode cX0_putTogether 139 = .ok (.iload 4, 2) := by decide +kernel
theorem dX0_putTogether_141 : decode cX0_putTogether 141 = .ok (.putfield 21, 3) := by decide +kernel
theorem dX0_putTogether_144 : decode cX0_putTogether 144 = .ok (.return_, 1) := by decide +kernel
theorem dX0_isOpen_0 : decode cX0_isOpen 0 = .ok (.iload_n 2, 1) := by decide +kernel
theorem dX0_isOpen_1 : decode cX0_isOpen 1 = .ok (.iload_n 1, 1) := by decide +kernel
theorem dX0_isOpen_2 : decode cX0_isOpen 2 = .ok (.if_icmp .eq 22, 3) := by decide +kernel
theorem dX0_isOpen_5 : decode cX0_isOpen 5 = .ok (.aload_n 0, 1) := by decide +kernel
theorem dX0_isOpen_6 : decode cX0_isOpen 6 = .ok (.getfield 15, 3) := by decide +kernel
theorem dX0_isOpen_9 : decode cX0_isOpen 9 = .ok (.iload_n 2, 1) := by decide +kernel
theorem dX0_isOpen_10 : decode cX0_isOpen 10 = .ok (.iaload, 1) := by decide +kernel
theorem dX0_isOpen_11 : decode cX0_isOpen 11 = .ok (.iload_n 3, 1) := by decide +kernel
theorem dX0_isOpen_12 : decode cX0_isOpen 12 = .ok (.if_icmp .ge 16, 3) := by decide +kernel
theorem dX0_isOpen_15 : decode cX0_isOpen 15 = .ok (.aload_n 0, 1) := by decide +kernel
theorem dX0_isOpen_16 : decode cX0_isOpen 16 = .ok (.getfield 15, 3) := by decide +kernel
theorem dX0_isOpen_19 : decode cX0_isOpen 19 = .ok (.iload_n 2, 1) := by decide +kernel
theorem dX0_isOpen_20 : decode cX0_isOpen 20 = .ok (.iaload, 1) := by decide +kernel
theorem dX0_isOpen_21 : decode cX0_isOpen 21 = .ok (.ifCond .eq 7, 3) := by decide +kernel
theorem dX0_isOpen_24 : decode cX0_isOpen 24 = .ok (.iconst 1, 1) := by decide +kernel
theorem dX0_isOpen_25 : decode cX0_isOpen 25 = .ok (.goto 4, 3) := by decide +kernel
theorem dX0_isOpen_28 : decode cX0_isOpen 28 = .ok (.iconst 0, 1) := by decide +kernel
theorem dX0_isOpen_29 : decode cX0_isOpen 29 = .ok (.ireturn, 1) := by decide +kernel
theorem dX0_compositeOf_0 : decode cX0_compositeOf 0 = .ok (.aload_n 2, 1) := by decide +kernel
theorem dX0_compositeOf_1 : decode cX0_compositeOf 1 = .ok (.iload_n 0, 1) := by decide +kernel
theorem dX0_compositeOf_2 : decode cX0_compositeOf 2 = .ok (.iload_n 1, 1) := by decide +kernel
theorem dX0_compositeOf_3 : decode cX0_compositeOf 3 = .ok (.invokevirtual 56, 3) := by decide +kernel
theorem dX0_compositeOf_6 : decode cX0_compositeOf 6 = .ok (.istore 5, 2) := by decide +kernel
theorem dX0_compositeOf_8 : decode cX0_compositeOf 8 = .ok (.iload 5, 2) := by decide +kernel
theorem dX0_compositeOf_10 : decode cX0_compositeOf 10 = .ok (.iconst (-1), 1) := by decide +kernel
theorem dX0_compositeOf_11 : decode cX0_compositeOf 11 = .ok (.if_icmp .eq 22, 3) := by decide +kernel
theorem dX0_compositeOf_14 : decode cX0_compositeOf 14 = .ok (.aload_n 3, 1) := by decide +kernel
theorem dX0_compositeOf_15 : decode cX0_compositeOf 15 = .ok (.iload 5, 2) := by decide +kernel
theorem dX0_compositeOf_17 : decode cX0_compositeOf 17 = .ok (.invokevirtual 38, 3) := by decide +kernel
theorem dX0_compositeOf_20 : decode cX0_compositeOf 20 = .ok (.ifCond .ne 13, 3) := by decide +kernel
theorem dX0_compositeOf_23 : decode cX0_compositeOf 23 = .ok (.aload 4, 2) := by decide +kernel
theorem dX0_compositeOf_25 : decode cX0_compositeOf 25 = .ok (.iload 5, 2) := by decide +kernel
theorem dX0_compositeOf_27 : decode cX0_compositeOf 27 = .ok (.invokevirtual 60, 3) := by decide +kernel
theorem dX0_compositeOf_30 : decode cX0_compositeOf 30 = .ok (.ifCond .eq 5, 3) := by decide +kernel
theorem dX0_compositeOf_33 : decode cX0_compositeOf 33 = .ok (.iconst (-1), 1) := by decide +kernel
theorem dX0_compositeOf_34 : decode cX0_compositeOf 34 = .ok (.ireturn, 1) := by decide +kernel
theorem dX0_compositeOf_35 : decode cX0_compositeOf 35 = .ok (.iload 5, 2) := by decide +kernel
theorem dX0_compositeOf_37 : decode cX0_compositeOf 37 = .ok (.ireturn, 1) := by decide +kernel
theorem dX0_isSameAs_0 : decode cX0_isSameAs 0 = .ok (.aload_n 0, 1) := by decide +kernel
theorem dX0_isSameAs_1 : decode cX0_isSameAs 1 = .ok (.getfield 21, 3) := by decide +kernel
theorem dX0_isSameAs_4 : decode cX0_isSameAs 4 = .ok (.iload_n 2, 1) := by decide +kernel
theorem dX0_isSameAs_5 : decode cX0_isSameAs 5 = .ok (.if_icmp .eq 5, 3) := by decide +kernel
theorem dX0_isSameAs_8 : decode cX0_isSameAs 8 = .ok (.iconst 0, 1) := by decide +kernel
theorem dX0_isSameAs_9 : decode cX0_isSameAs 9 = .ok (.ireturn, 1) := by decide +kernel
theorem dX0_isSameAs_10 : decode cX0_isSameAs 10 = .ok (.iconst 0, 1) := by decide +kernel
theorem dX0_isSameAs_11 : decode cX0_isSameAs 11 = .ok (.istore_n 3, 1) := by decide +kernel
theorem dX0_isSameAs_12 : decode cX0_isSameAs 12 = .ok (.iload_n 3, 1) := by decide +kernel
theorem dX0_isSameAs_13 : decode cX0_isSameAs 13 = .ok (.iload_n 2, 1) := by decide +kernel
theorem dX0_isSameAs_14 : decode cX0_isSameAs 14 = .ok (.if_icmp .ge 23, 3) := by decide +kernel
theorem dX0_isSameAs_17 : decode cX0_isSameAs 17 = .ok (.aload_n 0, 1) := by decide +kernel
theorem dX0_isSameAs_18 : decode cX0_isSameAs 18 = .ok (.getfield 9, 3) := by decide +kernel
theorem dX0_isSameAs_21 : decode cX0_isSameAs 21 = .ok (.iload_n 3, 1) := by decide +kernel
theorem dX0_isSameAs_22 : decode cX0_isSameAs 22 = .ok (.iaload, 1) := by decide +kernel
theorem dX0_isSameAs_23 : decode cX0_isSameAs 23 = .ok (.aload_n 1, 1) := by decide +kernel
theorem dX0_isSameAs_24 : decode cX0_isSameAs 24 = .ok (.iload_n 3, 1) := by decide +kernel
theorem dX0_isSameAs_25 : decode cX0_isSameAs 25 = .ok (.iaload, 1) := by decide +kernel
theorem dX0_isSameAs_26 : decode cX0_isSameAs 26 = .ok (.if_icmp .eq 5, 3) := by decide +kernel
theorem dX0_isSameAs_29 : decode cX0_isSameAs 29 = .ok (.iconst 0, 1) := by decide +kernel
theorem dX0_isSameAs_30 : decode cX0_isSameAs 30 = .ok (.ireturn, 1) := by decide +kernel
theorem dX0_isSameAs_31 : decode cX0_isSameAs 31 = .ok (.iinc 3 1, 3) := by decide +kernel
theorem dX0_isSameAs_34 : decode cX0_isSameAs 34 = .ok (.goto (-22), 3) := by decide +kernel
theorem dX0_isSameAs_37 : decode cX0_isSameAs 37 = .ok (.iconst 1, 1) := by decide +kernel
theorem dX0_isSameAs_38 : decode cX0_isSameAs 38 = .ok (.ireturn, 1) := by decide +kernel
theorem dX1_init_0 : decode cX1_init 0 = .ok (.aload_n 0, 1) := by decide +kernel
theorem dX1_init_1 : decode cX1_init 1 = .ok (.invokespecial 3, 3) := by decide +kernel
theorem dX1_init_4 : decode cX1_init 4 = .ok (.aload_n 0, 1) := by decide +kernel
theorem dX1_init_5 : decode cX1_init 5 = .ok (.bipush 60, 2) := by decide +kernel
theorem dX1_init_7 : decode cX1_init 7 = .ok (.newarray .int, 2) := by decide +kernel
theorem dX1_init_9 : decode cX1_init 9 = .ok (.putfield 9, 3) := by decide +kernel
theorem dX1_init_12 : decode cX1_init 12 = .ok (.aload_n 0, 1) := by decide +kernel
theorem dX1_init_13 : decode cX1_init 13 = .ok (.iconst 0, 1) := by decide +kernel
theorem dX1_init_14 : decode cX1_init 14 = .ok (.putfield 15, 3) := by decide +kernel
theorem dX1_init_17 : decode cX1_init 17 = .ok (.return_, 1) := by decide +kernel
theorem dX1_isFull_0 : decode cX1_isFull 0 = .ok (.aload_n 0, 1) := by decide +kernel
theorem dX1_isFull_1 : decode cX1_isFull 1 = .ok (.getfield 15, 3) := by decide +kernel
theorem dX1_isFull_4 : decode cX1_isFull 4 = .ok (.bipush 60, 2) := by decide +kernel
theorem dX1_isFull_6 : decode cX1_isFull 6 = .ok (.if_icmp .lt 7, 3) := by decide +kernel
theorem dX1_isFull_9 : decode cX1_isFull 9 = .ok (.iconst 1, 1) := by decide +kernel
theorem dX1_isFull_10 : decode cX1_isFull 10 = .ok (.goto 4, 3) := by decide +kernel
theorem dX1_isFull_13 : decode cX1_isFull 13 = .ok (.iconst 0, 1) := by decide +kernel
theorem dX1_isFull_14 : decode cX1_isFull 14 = .ok (.ireturn, 1) := by decide +kernel
theorem dX1_has_0 : decode cX1_has 0 = .ok (.aload_n 0, 1) := by decide +kernel
theorem dX1_has_1 : decode cX1_has 1 = .ok (.iload_n 1, 1) := by decide +kernel
theorem dX1_has_2 : decode cX1_has 2 = .ok (.invokevirtual 19, 3) := by decide +kernel
theorem dX1_has_5 : decode cX1_has 5 = .ok (.iconst (-1), 1) := by decide +kernel
theorem dX1_has_6 : decode cX1_has 6 = .ok (.if_icmp .eq 7, 3) := by decide +kernel
theorem dX1_has_9 : decode cX1_has 9 = .ok (.iconst 1, 1) := by decide +kernel
theorem dX1_has_10 : decode cX1_has 10 = .ok (.goto 4, 3) := by decide +kernel
theorem dX1_has_13 : decode cX1_has 13 = .ok (.iconst 0, 1) := by decide +kernel
theorem dX1_has_14 : decode cX1_has 14 = .ok (.ireturn, 1) := by decide +kernel
theorem dX1_put_0 : decode cX1_put 0 = .ok (.aload_n 0, 1) := by decide +kernel
theorem dX1_put_1 : decode cX1_put 1 = .ok (.invokevirtual 23, 3) := by decide +kernel
theorem dX1_put_4 : decode cX1_put 4 = .ok (.ifCond .eq 4, 3) := by decide +kernel
theorem dX1_put_7 : decode cX1_put 7 = .ok (.return_, 1) := by decide +kernel
theorem dX1_put_8 : decode cX1_put 8 = .ok (.aload_n 0, 1) := by decide +kernel
theorem dX1_put_9 : decode cX1_put 9 = .ok (.getfield 9, 3) := by decide +kernel
theorem dX1_put_12 : decode cX1_put 12 = .ok (.aload_n 0, 1) := by decide +kernel
theorem dX1_put_13 : decode cX1_put 13 = .ok (.getfield 15, 3) := by decide +kernel
theorem dX1_put_16 : decode cX1_put 16 = .ok (.iload_n 1, 1) := by decide +kernel
theorem dX1_put_17 : decode cX1_put 17 = .ok (.iastore, 1) := by decide +kernel
theorem dX1_put_18 : decode cX1_put 18 = .ok (.aload_n 0, 1) := by decide +kernel
theorem dX1_put_19 : decode cX1_put 19 = .ok (.dup, 1) := by decide +kernel
theorem dX1_put_20 : decode cX1_put 20 = .ok (.getfield 15, 3) := by decide +kernel
theorem dX1_put_23 : decode cX1_put 23 = .ok (.iconst 1, 1) := by decide +kernel
theorem dX1_put_24 : decode cX1_put 24 = .ok (.iadd, 1) := by decide +kernel
theorem dX1_put_25 : decode cX1_put 25 = .ok (.putfield 15, 3) := by decide +kernel
theorem dX1_put_28 : decode cX1_put 28 = .ok (.return_, 1) := by decide +kernel
theorem dX1_remove_0 : decode cX1_remove 0 = .ok (.aload_n 0, 1) := by decide +kernel
theorem dX1_remove_1 : decode cX1_remove 1 = .ok (.iload_n 1, 1) := by decide +kernel
theorem dX1_remove_2 : decode cX1_remove 2 = .ok (.invokevirtual 19, 3) := by decide +kernel
theorem dX1_remove_5 : decode cX1_remove 5 = .ok (.istore_n 2, 1) := by decide +kernel
theorem dX1_remove_6 : decode cX1_remove 6 = .ok (.iload_n 2, 1) := by decide +kernel
theorem dX1_remove_7 : decode cX1_remove 7 = .ok (.iconst (-1), 1) := by decide +kernel
theorem dX1_remove_8 : decode cX1_remove 8 = .ok (.if_icmp .ne 4, 3) := by decide +kernel
theorem dX1_remove_11 : decode cX1_remove 11 = .ok (.return_, 1) := by decide +kernel
theorem dX1_remove_12 : decode cX1_remove 12 = .ok (.aload_n 0, 1) := by decide +kernel
theorem dX1_remove_13 : decode cX1_remove 13 = .ok (.dup, 1) := by decide +kernel
theorem dX1_remove_14 : decode cX1_remove 14 = .ok (.getfield 15, 3) := by decide +kernel
theorem dX1_remove_17 : decode cX1_remove 17 = .ok (.iconst 1, 1) := by decide +kernel
theorem dX1_remove_18 : decode cX1_remove 18 = .ok (.isub, 1) := by decide +kernel
theorem dX1_remove_19 : decode cX1_remove 19 = .ok (.putfield 15, 3) := by decide +kernel
theorem dX1_remove_22 : decode cX1_remove 22 = .ok (.aload_n 0, 1) := by decide +kernel
theorem dX1_remove_23 : decode cX1_remove 23 = .ok (.getfield 9, 3) := by decide +kernel
theorem dX1_remove_26 : decode cX1_remove 26 = .ok (.iload_n 2, 1) := by decide +kernel
theorem dX1_remove_27 : decode cX1_remove 27 = .ok (.aload_n 0, 1) := by decide +kernel
theorem dX1_remove_28 : decode cX1_remove 28 = .ok (.getfield 9, 3) := by decide +kernel
theorem dX1_remove_31 : decode cX1_remove 31 = .ok (.aload_n 0, 1) := by decide +kernel
theorem dX1_remove_32 : decode cX1_remove 32 = .ok (.getfield 15, 3) := by decide +kernel
theorem dX1_remove_35 : decode cX1_remove 35 = .ok (.iaload, 1) := by decide +kernel
theorem dX1_remove_36 : decode cX1_remove 36 = .ok (.iastore, 1) := by decide +kernel
theorem dX1_remove_37 : decode cX1_remove 37 = .ok (.return_, 1) := by decide +kernel
theorem dX1_find_0 : decode cX1_find 0 = .ok (.iconst 0, 1) := by decide +kernel
theorem dX1_find_1 : decode cX1_find 1 = .ok (.istore_n 2, 1) := by decide +kernel
theorem dX1_find_2 : decode cX1_find 2 = .ok (.iload_n 2, 1) := by decide +kernel
theorem dX1_find_3 : decode cX1_find 3 = .ok (.aload_n 0, 1) := by decide +kernel
theorem dX1_find_4 : decode cX1_find 4 = .ok (.getfield 15, 3) := by decide +kernel
theorem dX1_find_7 : decode cX1_find 7 = .ok (.if_icmp .ge 21, 3) := by decide +kernel
theorem dX1_find_10 : decode cX1_find 10 = .ok (.aload_n 0, 1) := by decide +kernel
theorem dX1_find_11 : decode cX1_find 11 = .ok (.getfield 9, 3) := by decide +kernel
theorem dX1_find_14 : decode cX1_find 14 = .ok (.iload_n 2, 1) := by decide +kernel
theorem dX1_find_15 : decode cX1_find 15 = .ok (.iaload, 1) := by decide +kernel
theorem dX1_find_16 : decode cX1_find 16 = .ok (.iload_n 1, 1) := by decide +kernel
theorem dX1_find_17 : decode cX1_find 17 = .ok (.if_icmp .ne 5, 3) := by decide +kernel
theorem dX1_find_20 : decode cX1_find 20 = .ok (.iload_n 2, 1) := by decide +kernel
theorem dX1_find_21 : decode cX1_find 21 = .ok (.ireturn, 1) := by decide +kernel
theorem dX1_find_22 : decode cX1_find 22 = .ok (.iinc 2 1, 3) := by decide +kernel
theorem dX1_find_25 : decode cX1_find 25 = .ok (.goto (-23), 3) := by decide +kernel
theorem dX1_find_28 : decode cX1_find 28 = .ok (.iconst (-1), 1) := by decide +kernel
theorem dX1_find_29 : decode cX1_find 29 = .ok (.ireturn, 1) := by decide +kernel
theorem dX2_init_0 : decode cX2_init 0 = .ok (.aload_n 0, 1) := by decide +kernel
theorem dX2_init_1 : decode cX2_init 1 = .ok (.invokespecial 3, 3) := by decide +kernel
theorem dX2_init_4 : decode cX2_init 4 = .ok (.aload_n 0, 1) := by decide +kernel
theorem dX2_init_5 : decode cX2_init 5 = .ok (.bipush 60, 2) := by decide +kernel
theorem dX2_init_7 : decode cX2_init 7 = .ok (.newarray .int, 2) := by decide +kernel
theorem dX2_init_9 : decode cX2_init 9 = .ok (.putfield 9, 3) := by decide +kernel
theorem dX2_init_12 : decode cX2_init 12 = .ok (.aload_n 0, 1) := by decide +kernel
theorem dX2_init_13 : decode cX2_init 13 = .ok (.bipush 60, 2) := by decide +kernel
theorem dX2_init_15 : decode cX2_init 15 = .ok (.newarray .int, 2) := by decide +kernel
theorem dX2_init_17 : decode cX2_init 17 = .ok (.putfield 15, 3) := by decide +kernel
theorem dX2_init_20 : decode cX2_init 20 = .ok (.aload_n 0, 1) := by decide +kernel
theorem dX2_init_21 : decode cX2_init 21 = .ok (.bipush 60, 2) := by decide +kernel
theorem dX2_init_23 : decode cX2_init 23 = .ok (.newarray .int, 2) := by decide +kernel
theorem dX2_init_25 : decode cX2_init 25 = .ok (.putfield 18, 3) := by decide +kernel
theorem dX2_init_28 : decode cX2_init 28 = .ok (.aload_n 0, 1) := by decide +kernel
theorem dX2_init_29 : decode cX2_init 29 = .ok (.iconst 0, 1) := by decide +kernel
theorem dX2_init_30 : decode cX2_init 30 = .ok (.putfield 21, 3) := by decide +kernel
theorem dX2_init_33 : decode cX2_init 33 = .ok (.return_, 1) := by decide +kernel
theorem dX2_isFull_0 : decode cX2_isFull 0 = .ok (.aload_n 0, 1) := by decide +kernel
theorem dX2_isFull_1 : decode cX2_isFull 1 = .ok (.getfield 21, 3) := by decide +kernel
theorem dX2_isFull_4 : decode cX2_isFull 4 = .ok (.bipush 60, 2) := by decide +kernel
theorem dX2_isFull_6 : decode cX2_isFull 6 = .ok (.if_icmp .lt 7, 3) := by decide +kernel
theorem dX2_isFull_9 : decode cX2_isFull 9 = .ok (.iconst 1, 1) := by decide +kernel
theorem dX2_isFull_10 : decode cX2_isFull 10 = .ok (.goto 4, 3) := by decide +kernel
theorem dX2_isFull_13 : decode cX2_isFull 13 = .ok (.iconst 0, 1) := by decide +kernel
theorem dX2_isFull_14 : decode cX2_isFull 14 = .ok (.ireturn, 1) := by decide +kernel
theorem dX2_tell_0 : decode cX2_tell 0 = .ok (.aload_n 0, 1) := by decide +kernel
theorem dX2_tell_1 : decode cX2_tell 1 = .ok (.invokevirtual 25, 3) := by decide +kernel
theorem dX2_tell_4 : decode cX2_tell 4 = .ok (.ifCond .eq 4, 3) := by decide +kernel
theorem dX2_tell_7 : decode cX2_tell 7 = .ok (.return_, 1) := by decide +kernel
theorem dX2_tell_8 : decode cX2_tell 8 = .ok (.aload_n 0, 1) := by decide +kernel
theorem dX2_tell_9 : decode cX2_tell 9 = .ok (.getfield 9, 3) := by decide +kernel
theorem dX2_tell_12 : decode cX2_tell 12 = .ok (.aload_n 0, 1) := by decide +kernel
theorem dX2_tell_13 : decode cX2_tell 13 = .ok (.getfield 21, 3) := by decide +kernel
theorem dX2_tell_16 : decode cX2_tell 16 = .ok (.iload_n 1, 1) := by decide +kernel
theorem dX2_tell_17 : decode cX2_tell 17 = .ok (.iastore, 1) := by decide +kernel
theorem dX2_tell_18 : decode cX2_tell 18 = .ok (.aload_n 0, 1) := by decide +kernel
theorem dX2_tell_19 : decode cX2_tell 19 = .ok (.getfield 15, 3) := by decide +kernel
theorem dX2_tell_22 : decode cX2_tell 22 = .ok (.aload_n 0, 1) := by decide +kernel
theorem dX2_tell_23 : decode cX2_tell 23 = .ok (.getfield 21, 3) := by decide +kernel
theorem dX2_tell_26 : decode cX2_tell 26 = .ok (.iload_n 2, 1) := by decide +kernel
theorem dX2_tell_27 : decode cX2_tell 27 = .ok (.iastore, 1) := by decide +kernel
theorem dX2_tell_28 : decode cX2_tell 28 = .ok (.aload_n 0, 1) := by decide +kernel
theorem dX2_tell_29 : decode cX2_tell 29 = .ok (.getfield 18, 3) := by decide +kernel
theorem dX2_tell_32 : decode cX2_tell 32 = .ok (.aload_n 0, 1) := by decide +kernel
theorem dX2_tell_33 : decode cX2_tell 33 = .ok (.getfield 21, 3) := by decide +kernel
theorem dX2_tell_36 : decode cX2_tell 36 = .ok (.iload_n 3, 1) := by decide +kernel
theorem dX2_tell_37 : decode cX2_tell 37 = .ok (.iastore, 1) := by decide +kernel
theorem dX2_tell_38 : decode cX2_tell 38 = .ok (.aload_n 0, 1) := by decide +kernel
theorem dX2_tell_39 : decode cX2_tell 39 = .ok (.dup, 1) := by decide +kernel
theorem dX2_tell_40 : decode cX2_tell 40 = .ok (.getfield 21, 3) := by decide +kernel
theorem dX2_tell_43 : decode cX2_tell 43 = .ok (.iconst 1, 1) := by decide +kernel
theorem dX2_tell_44 : decode cX2_tell 44 = .ok (.iadd, 1) := by decide +kernel
theorem dX2_tell_45 : decode cX2_tell 45 = .ok (.putfield 21, 3) := by decide +kernel
theorem dX2_tell_48 : decode cX2_tell 48 = .ok (.return_, 1) := by decide +kernel
theorem dX2_valueOf_0 : decode cX2_valueOf 0 = .ok (.aload_n 0, 1) := by decide +kernel
theorem dX2_valueOf_1 : decode cX2_valueOf 1 = .ok (.getfield 21, 3) := by decide +kernel
theorem dX2_valueOf_4 : decode cX2_valueOf 4 = .ok (.iconst 1, 1) := by decide +kernel
theorem dX2_valueOf_5 : decode cX2_valueOf 5 = .ok (.isub, 1) := by decide +kernel
theorem dX2_valueOf_6 : decode cX2_valueOf 6 = .ok (.istore_n 2, 1) := by decide +kernel
theorem dX2_valueOf_7 : decode cX2_valueOf 7 = .ok (.iload_n 2, 1) := by decide +kernel
theorem dX2_valueOf_8 : decode cX2_valueOf 8 = .ok (.ifCond .lt 36, 3) := by decide +kernel
theorem dX2_valueOf_11 : decode cX2_valueOf 11 = .ok (.aload_n 0, 1) := by decide +kernel
theorem dX2_valueOf_12 : decode cX2_valueOf 12 = .ok (.getfield 9, 3) := by decide +kernel
theorem dX2_valueOf_15 : decode cX2_valueOf 15 = .ok (.iload_n 2, 1) := by decide +kernel
theorem dX2_valueOf_16 : decode cX2_valueOf 16 = .ok (.iaload, 1) := by decide +kernel
theorem dX2_valueOf_17 : decode cX2_valueOf 17 = .ok (.iload_n 1, 1) := by decide +kernel
theorem dX2_valueOf_18 : decode cX2_valueOf 18 = .ok (.if_icmp .gt 20, 3) := by decide +kernel
theorem dX2_valueOf_21 : decode cX2_valueOf 21 = .ok (.iload_n 1, 1) := by decide +kernel
theorem dX2_valueOf_22 : decode cX2_valueOf 22 = .ok (.aload_n 0, 1) := by decide +kernel
theorem dX2_valueOf_23 : decode cX2_valueOf 23 = .ok (.getfield 15, 3) := by decide +kernel
theorem dX2_valueOf_26 : decode cX2_valueOf 26 = .ok (.iload_n 2, 1) := by decide +kernel
theorem dX2_valueOf_27 : decode cX2_valueOf 27 = .ok (.iaload, 1) := by decide +kernel
theorem dX2_valueOf_28 : decode cX2_valueOf 28 = .ok (.if_icmp .gt 10, 3) := by decide +kernel
theorem dX2_valueOf_31 : decode cX2_valueOf 31 = .ok (.aload_n 0, 1) := by decide +kernel
theorem dX2_valueOf_32 : decode cX2_valueOf 32 = .ok (.getfield 18, 3) := by decide +kernel
theorem dX2_valueOf_35 : decode cX2_valueOf 35 = .ok (.iload_n 2, 1) := by decide +kernel
theorem dX2_valueOf_36 : decode cX2_valueOf 36 = .ok (.iaload, 1) := by decide +kernel
theorem dX2_valueOf_37 : decode cX2_valueOf 37 = .ok (.ireturn, 1) := by decide +kernel
theorem dX2_valueOf_38 : decode cX2_valueOf 38 = .ok (.iinc 2 (-1), 3) := by decide +kernel
theorem dX2_valueOf_41 : decode cX2_valueOf 41 = .ok (.goto (-34), 3) := by decide +kernel
theorem dX2_valueOf_44 : decode cX2_valueOf 44 = .ok (.iconst 0, 1) := by decide +kernel
theorem dX2_valueOf_45 : decode cX2_valueOf 45 = .ok (.ireturn, 1) := by decide +kernel
theorem dX3_init_0 : decode cX3_init 0 = .ok (.aload_n 0, 1) := by decide +kernel
theorem dX3_init_1 : decode cX3_init 1 = .ok (.invokespecial 1, 3) := by decide +kernel
theorem dX3_init_4 : decode cX3_init 4 = .ok (.aload_n 0, 1) := by decide +kernel
theorem dX3_init_5 : decode cX3_init 5 = .ok (.iconst 0, 1) := by decide +kernel
theorem dX3_init_6 : decode cX3_init 6 = .ok (.putfield 7, 3) := by decide +kernel
theorem dX3_init_9 : decode cX3_init 9 = .ok (.aload_n 0, 1) := by decide +kernel
theorem dX3_init_10 : decode cX3_init 10 = .ok (.iconst 0, 1) := by decide +kernel
theorem dX3_init_11 : decode cX3_init 11 = .ok (.putfield 13, 3) := by decide +kernel
theorem dX3_init_14 : decode cX3_init 14 = .ok (.aload_n 0, 1) := by decide +kernel
theorem dX3_init_15 : decode cX3_init 15 = .ok (.iconst 0, 1) := by decide +kernel
theorem dX3_init_16 : decode cX3_init 16 = .ok (.putfield 16, 3) := by decide +kernel
theorem dX3_init_19 : decode cX3_init 19 = .ok (.aload_n 0, 1) := by decide +kernel
theorem dX3_init_20 : decode cX3_init 20 = .ok (.iconst 0, 1) := by decide +kernel
theorem dX3_init_21 : decode cX3_init 21 = .ok (.putfield 20, 3) := by decide +kernel
theorem dX3_init_24 : decode cX3_init 24 = .ok (.return_, 1) := by decide +kernel
theorem dX3_start_0 : decode cX3_start 0 = .ok (.aload_n 0, 1) := by decide +kernel
theorem dX3_start_1 : decode cX3_start 1 = .ok (.iconst 0, 1) := by decide +kernel
theorem dX3_start_2 : decode cX3_start 2 = .ok (.putfield 7, 3) := by decide +kernel
theorem dX3_start_5 : decode cX3_start 5 = .ok (.aload_n 0, 1) := by decide +kernel
theorem dX3_start_6 : decode cX3_start 6 = .ok (.iconst 0, 1) := by decide +kernel
theorem dX3_start_7 : decode cX3_start 7 = .ok (.putfield 13, 3) := by decide +kernel
theorem dX3_start_10 : decode cX3_start 10 = .ok (.aload_n 0, 1) := by decide +kernel
theorem dX3_start_11 : decode cX3_start 11 = .ok (.iconst 0, 1) := by decide +kernel
theorem dX3_start_12 : decode cX3_start 12 = .ok (.putfield 16, 3) := by decide +kernel
theorem dX3_start_15 : decode cX3_start 15 = .ok (.aload_n 0, 1) := by decide +kernel
theorem dX3_start_16 : decode cX3_start 16 = .ok (.iconst 0, 1) := by decide +kernel
theorem dX3_start_17 : decode cX3_start 17 = .ok (.putfield 20, 3) := by decide +kernel
theorem dX3_start_20 : decode cX3_start 20 = .ok (.return_, 1) := by decide +kernel
theorem dX3_pass_0 : decode cX3_pass 0 = .ok (.aload_n 0, 1) := by decide +kernel
theorem dX3_pass_1 : decode cX3_pass 1 = .ok (.iload_n 1, 1) := by decide +kernel
theorem dX3_pass_2 : decode cX3_pass 2 = .ok (.iconst 5, 1) := by decide +kernel
theorem dX3_pass_3 : decode cX3_pass 3 = .ok (.if_icmp .ne 14, 3) := by decide +kernel
theorem dX3_pass_6 : decode cX3_pass 6 = .ok (.aload_n 0, 1) := by decide +kernel
theorem dX3_pass_7 : decode cX3_pass 7 = .ok (.getfield 16, 3) := by decide +kernel
theorem dX3_pass_10 : decode cX3_pass 10 = .ok (.ifCond .eq 7, 3) := by decide +kernel
theorem dX3_pass_13 : decode cX3_pass 13 = .ok (.iconst 1, 1) := by decide +kernel
theorem dX3_pass_14 : decode cX3_pass 14 = .ok (.goto 4, 3) := by decide +kernel
theorem dX3_pass_17 : decode cX3_pass 17 = .ok (.iconst 0, 1) := by decide +kernel
theorem dX3_pass_18 : decode cX3_pass 18 = .ok (.putfield 20, 3) := by decide +kernel
theorem dX3_pass_21 : decode cX3_pass 21 = .ok (.aload_n 0, 1) := by decide +kernel
theorem dX3_pass_22 : decode cX3_pass 22 = .ok (.iload_n 1, 1) := by decide +kernel
theorem dX3_pass_23 : decode cX3_pass 23 = .ok (.bipush 14, 2) := by decide +kernel
theorem dX3_pass_25 : decode cX3_pass 25 = .ok (.if_icmp .eq 15, 3) := by decide +kernel
theorem dX3_pass_28 : decode cX3_pass 28 = .ok (.iload_n 1, 1) := by decide +kernel
theorem dX3_pass_29 : decode cX3_pass 29 = .ok (.iconst 4, 1) := by decide +kernel
theorem dX3_pass_30 : decode cX3_pass 30 = .ok (.if_icmp .ne 14, 3) := by decide +kernel
theorem dX3_pass_33 : decode cX3_pass 33 = .ok (.aload_n 0, 1) := by decide +kernel
theorem dX3_pass_34 : decode cX3_pass 34 = .ok (.getfield 16, 3) := by decide +kernel
theorem dX3_pass_37 : decode cX3_pass 37 = .ok (.ifCond .eq 7, 3) := by decide +kernel
theorem dX3_pass_40 : decode cX3_pass 40 = .ok (.iconst 1, 1) := by decide +kernel
theorem dX3_pass_41 : decode cX3_pass 41 = .ok (.goto 4, 3) := by decide +kernel
theorem dX3_pass_44 : decode cX3_pass 44 = .ok (.iconst 0, 1) := by decide +kernel
theorem dX3_pass_45 : decode cX3_pass 45 = .ok (.putfield 16, 3) := by decide +kernel
theorem dX3_pass_48 : decode cX3_pass 48 = .ok (.aload_n 0, 1) := by decide +kernel
theorem dX3_pass_49 : decode cX3_pass 49 = .ok (.iload_n 1, 1) := by decide +kernel
theorem dX3_pass_50 : decode cX3_pass 50 = .ok (.bipush 6, 2) := by decide +kernel
theorem dX3_pass_52 : decode cX3_pass 52 = .ok (.if_icmp .ne 12, 3) := by decide +kernel
theorem dX3_pass_55 : decode cX3_pass 55 = .ok (.aload_n 0, 1) := by decide +kernel
theorem dX3_pass_56 : decode cX3_pass 56 = .ok (.getfield 13, 3) := by decide +kernel
theorem dX3_pass_59 : decode cX3_pass 59 = .ok (.iconst 1, 1) := by decide +kernel
theorem dX3_pass_60 : decode cX3_pass 60 = .ok (.iadd, 1) := by decide +kernel
theorem dX3_pass_61 : decode cX3_pass 61 = .ok (.goto 4, 3) := by decide +kernel
theorem dX3_pass_64 : decode cX3_pass 64 = .ok (.iconst 0, 1) := by decide +kernel
theorem dX3_pass_65 : decode cX3_pass 65 = .ok (.putfield 13, 3) := by decide +kernel
theorem dX3_pass_68 : decode cX3_pass 68 = .ok (.aload_n 0, 1) := by decide +kernel
theorem dX3_pass_69 : decode cX3_pass 69 = .ok (.iload_n 1, 1) := by decide +kernel
theorem dX3_pass_70 : decode cX3_pass 70 = .ok (.putfield 7, 3) := by decide +kernel
theorem dX3_pass_73 : decode cX3_pass 73 = .ok (.return_, 1) := by decide +kernel
theorem dX3_ruleBefore_0 : decode cX3_ruleBefore 0 = .ok (.aload_n 0, 1) := by decide +kernel
theorem dX3_ruleBefore_1 : decode cX3_ruleBefore 1 = .ok (.getfield 7, 3) := by decide +kernel
theorem dX3_ruleBefore_4 : decode cX3_ruleBefore 4 = .ok (.iconst 1, 1) := by decide +kernel
theorem dX3_ruleBefore_5 : decode cX3_ruleBefore 5 = .ok (.if_icmp .ne 10, 3) := by decide +kernel
theorem dX3_ruleBefore_8 : decode cX3_ruleBefore 8 = .ok (.iload_n 1, 1) := by decide +kernel
theorem dX3_ruleBefore_9 : decode cX3_ruleBefore 9 = .ok (.iconst 2, 1) := by decide +kernel
theorem dX3_ruleBefore_10 : decode cX3_ruleBefore 10 = .ok (.if_icmp .ne 5, 3) := by decide +kernel
theorem dX3_ruleBefore_13 : decode cX3_ruleBefore 13 = .ok (.iconst 3, 1) := by decide +kernel
theorem dX3_ruleBefore_14 : decode cX3_ruleBefore 14 = .ok (.ireturn, 1) := by decide +kernel
theorem dX3_ruleBefore_15 : decode cX3_ruleBefore 15 = .ok (.aload_n 0, 1) := by decide +kernel
theorem dX3_ruleBefore_16 : decode cX3_ruleBefore 16 = .ok (.getfield 7, 3) := by decide +kernel
theorem dX3_ruleBefore_19 : decode cX3_ruleBefore 19 = .ok (.invokestatic 23, 3) := by decide +kernel
theorem dX3_ruleBefore_22 : decode cX3_ruleBefore 22 = .ok (.ifCond .eq 5, 3) := by decide +kernel
theorem dX3_ruleBefore_25 : decode cX3_ruleBefore 25 = .ok (.iconst 4, 1) := by decide +kernel
theorem dX3_ruleBefore_26 : decode cX3_ruleBefore 26 = .ok (.ireturn, 1) := by decide +kernel
theorem dX3_ruleBefore_27 : decode cX3_ruleBefore 27 = .ok (.iload_n 1, 1) := by decide +kernel
theorem dX3_ruleBefore_28 : decode cX3_ruleBefore 28 = .ok (.invokestatic 23, 3) := by decide +kernel
theorem dX3_ruleBefore_31 : decode cX3_ruleBefore 31 = .ok (.ifCond .eq 5, 3) := by decide +kernel
theorem dX3_ruleBefore_34 : decode cX3_ruleBefore 34 = .ok (.iconst 5, 1) := by decide +kernel
theorem dX3_ruleBefore_35 : decode cX3_ruleBefore 35 = .ok (.ireturn, 1) := by decide +kernel
theorem dX3_ruleBefore_36 : decode cX3_ruleBefore 36 = .ok (.aload_n 0, 1) := by decide +kernel
theorem dX3_ruleBefore_37 : decode cX3_ruleBefore 37 = .ok (.getfield 7, 3) := by decide +kernel
theorem dX3_ruleBefore_40 : decode cX3_ruleBefore 40 = .ok (.bipush 9, 2) := by decide +kernel
theorem dX3_ruleBefore_42 : decode cX3_ruleBefore 42 = .ok (.if_icmp .ne 30, 3) := by decide +kernel
theorem dX3_ruleBefore_45 : decode cX3_ruleBefore 45 = .ok (.iload_n 1, 1) := by decide +kernel
theorem dX3_ruleBefore_46 : decode cX3_ruleBefore 46 = .ok (.bipush 9, 2) := by decide +kernel
theorem dX3_ruleBefore_48 : decode cX3_ruleBefore 48 = .ok (.if_icmp .eq 21, 3) := by decide +kernel
theorem dX3_ruleBefore_51 : decode cX3_ruleBefore 51 = .ok (.iload_n 1, 1) := by decide +kernel
theorem dX3_ruleBefore_52 : decode cX3_ruleBefore 52 = .ok (.bipush 10, 2) := by decide +kernel
theorem dX3_ruleBefore_54 : decode cX3_ruleBefore 54 = .ok (.if_icmp .eq 15, 3) := by decide +kernel
theorem dX3_ruleBefore_57 : decode cX3_ruleBefore 57 = .ok (.iload_n 1, 1) := by decide +kernel
theorem dX3_ruleBefore_58 : decode cX3_ruleBefore 58 = .ok (.bipush 12, 2) := by decide +kernel
theorem dX3_ruleBefore_60 : decode cX3_ruleBefore 60 = .ok (.if_icmp .eq 9, 3) := by decide +kernel
theorem dX3_ruleBefore_63 : decode cX3_ruleBefore 63 = .ok (.iload_n 1, 1) := by decide +kernel
theorem dX3_ruleBefore_64 : decode cX3_ruleBefore 64 = .ok (.bipush 13, 2) := by decide +kernel
theorem dX3_ruleBefore_66 : decode cX3_ruleBefore 66 = .ok (.if_icmp .ne 6, 3) := by decide +kernel
theorem dX3_ruleBefore_69 : decode cX3_ruleBefore 69 = .ok (.bipush 6, 2) := by decide +kernel
theorem dX3_ruleBefore_71 : decode cX3_ruleBefore 71 = .ok (.ireturn, 1) := by decide +kernel
theorem dX3_ruleBefore_72 : decode cX3_ruleBefore 72 = .ok (.aload_n 0, 1) := by decide +kernel
theorem dX3_ruleBefore_73 : decode cX3_ruleBefore 73 = .ok (.getfield 7, 3) := by decide +kernel
theorem dX3_ruleBefore_76 : decode cX3_ruleBefore 76 = .ok (.bipush 12, 2) := by decide +kernel
theorem dX3_ruleBefore_78 : decode cX3_ruleBefore 78 = .ok (.if_icmp .eq 12, 3) := by decide +kernel
theorem dX3_ruleBefore_81 : decode cX3_ruleBefore 81 = .ok (.aload_n 0, 1) := by decide +kernel
theorem dX3_ruleBefore_82 : decode cX3_ruleBefore 82 = .ok (.getfield 7, 3) := by decide +kernel
theorem dX3_ruleBefore_85 : decode cX3_ruleBefore 85 = .ok (.bipush 10, 2) := by decide +kernel
theorem dX3_ruleBefore_87 : decode cX3_ruleBefore 87 = .ok (.if_icmp .ne 18, 3) := by decide +kernel
theorem dX3_ruleBefore_90 : decode cX3_ruleBefore 90 = .ok (.iload_n 1, 1) := by decide +kernel
theorem dX3_ruleBefore_91 : decode cX3_ruleBefore 91 = .ok (.bipush 10, 2) := by decide +kernel
theorem dX3_ruleBefore_93 : decode cX3_ruleBefore 93 = .ok (.if_icmp .eq 9, 3) := by decide +kernel
theorem dX3_ruleBefore_96 : decode cX3_ruleBefore 96 = .ok (.iload_n 1, 1) := by decide +kernel
theorem dX3_ruleBefore_97 : decode cX3_ruleBefore 97 = .ok (.bipush 11, 2) := by decide +kernel
theorem dX3_ruleBefore_99 : decode cX3_ruleBefore 99 = .ok (.if_icmp .ne 6, 3) := by decide +kernel
theorem dX3_ruleBefore_102 : decode cX3_ruleBefore 102 = .ok (.bipush 7, 2) := by decide +kernel
theorem dX3_ruleBefore_104 : decode cX3_ruleBefore 104 = .ok (.ireturn, 1) := by decide +kernel
theorem dX3_ruleBefore_105 : decode cX3_ruleBefore 105 = .ok (.aload_n 0, 1) := by decide +kernel
theorem dX3_ruleBefore_106 : decode cX3_ruleBefore 106 = .ok (.getfield 7, 3) := by decide +kernel
theorem dX3_ruleBefore_109 : decode cX3_ruleBefore 109 = .ok (.bipush 13, 2) := by decide +kernel
theorem dX3_ruleBefore_111 : decode cX3_ruleBefore 111 = .ok (.if_icmp .eq 12, 3) := by decide +kernel
theorem dX3_ruleBefore_114 : decode cX3_ruleBefore 114 = .ok (.aload_n 0, 1) := by decide +kernel
theorem dX3_ruleBefore_115 : decode cX3_ruleBefore 115 = .ok (.getfield 7, 3) := by decide +kernel
theorem dX3_ruleBefore_118 : decode cX3_ruleBefore 118 = .ok (.bipush 11, 2) := by decide +kernel
theorem dX3_ruleBefore_120 : decode cX3_ruleBefore 120 = .ok (.if_icmp .ne 12, 3) := by decide +kernel
theorem dX3_ruleBefore_123 : decode cX3_ruleBefore 123 = .ok (.iload_n 1, 1) := by decide +kernel
theorem dX3_ruleBefore_124 : decode cX3_ruleBefore 124 = .ok (.bipush 11, 2) := by decide +kernel
theorem dX3_ruleBefore_126 : decode cX3_ruleBefore 126 = .ok (.if_icmp .ne 6, 3) := by decide +kernel
theorem dX3_ruleBefore_129 : decode cX3_ruleBefore 129 = .ok (.bipush 8, 2) := by decide +kernel
theorem dX3_ruleBefore_131 : decode cX3_ruleBefore 131 = .ok (.ireturn, 1) := by decide +kernel
theorem dX3_ruleBefore_132 : decode cX3_ruleBefore 132 = .ok (.iload_n 1, 1) := by decide +kernel
theorem dX3_ruleBefore_133 : decode cX3_ruleBefore 133 = .ok (.iconst 4, 1) := by decide +kernel
theorem dX3_ruleBefore_134 : decode cX3_ruleBefore 134 = .ok (.if_icmp .eq 8, 3) := by decide +kernel
theorem dX3_ruleBefore_137 : decode cX3_ruleBefore 137 = .ok (.iload_n 1, 1) := by decide +kernel
theorem dX3_ruleBefore_138 : decode cX3_ruleBefore 138 = .ok (.iconst 5, 1) := by decide +kernel
theorem dX3_ruleBefore_139 : decode cX3_ruleBefore 139 = .ok (.if_icmp .ne 6, 3) := by decide +kernel
theorem dX3_ruleBefore_142 : decode cX3_ruleBefore 142 = .ok (.bipush 9, 2) := by decide +kernel
theorem dX3_ruleBefore_144 : decode cX3_ruleBefore 144 = .ok (.ireturn, 1) := by decide +kernel
theorem dX3_ruleBefore_145 : decode cX3_ruleBefore 145 = .ok (.iload_n 1, 1) := by decide +kernel
theorem dX3_ruleBefore_146 : decode cX3_ruleBefore 146 = .ok (.bipush 8, 2) := by decide +kernel
theorem dX3_ruleBefore_148 : decode cX3_ruleBefore 148 = .ok (.if_icmp .ne 6, 3) := by decide +kernel
theorem dX3_ruleBefore_151 : decode cX3_ruleBefore 151 = .ok (.bipush 91, 2) := by decide +kernel
theorem dX3_ruleBefore_153 : decode cX3_ruleBefore 153 = .ok (.ireturn, 1) := by decide +kernel
theorem dX3_ruleBefore_154 : decode cX3_ruleBefore 154 = .ok (.aload_n 0, 1) := by decide +kernel
theorem dX3_ruleBefore_155 : decode cX3_ruleBefore 155 = .ok (.getfield 7, 3) := by decide +kernel
theorem dX3_ruleBefore_158 : decode cX3_ruleBefore 158 = .ok (.bipush 7, 2) := by decide +kernel
theorem dX3_ruleBefore_160 : decode cX3_ruleBefore 160 = .ok (.if_icmp .ne 6, 3) := by decide +kernel
theorem dX3_ruleBefore_163 : decode cX3_ruleBefore 163 = .ok (.bipush 92, 2) := by decide +kernel
theorem dX3_ruleBefore_165 : decode cX3_ruleBefore 165 = .ok (.ireturn, 1) := by decide +kernel
theorem dX3_ruleBefore_166 : decode cX3_ruleBefore 166 = .ok (.aload_n 0, 1) := by decide +kernel
theorem dX3_ruleBefore_167 : decode cX3_ruleBefore 167 = .ok (.getfield 20, 3) := by decide +kernel
theorem dX3_ruleBefore_170 : decode cX3_ruleBefore 170 = .ok (.ifCond .eq 12, 3) := by decide +kernel
theorem dX3_ruleBefore_173 : decode cX3_ruleBefore 173 = .ok (.iload_n 1, 1) := by decide +kernel
theorem dX3_ruleBefore_174 : decode cX3_ruleBefore 174 = .ok (.bipush 14, 2) := by decide +kernel
theorem dX3_ruleBefore_176 : decode cX3_ruleBefore 176 = .ok (.if_icmp .ne 6, 3) := by decide +kernel
theorem dX3_ruleBefore_179 : decode cX3_ruleBefore 179 = .ok (.bipush 11, 2) := by decide +kernel
theorem dX3_ruleBefore_181 : decode cX3_ruleBefore 181 = .ok (.ireturn, 1) := by decide +kernel
theorem dX3_ruleBefore_182 : decode cX3_ruleBefore 182 = .ok (.aload_n 0, 1) := by decide +kernel
theorem dX3_ruleBefore_183 : decode cX3_ruleBefore 183 = .ok (.getfield 13, 3) := by decide +kernel
theorem dX3_ruleBefore_186 : decode cX3_ruleBefore 186 = .ok (.iconst 2, 1) := by decide +kernel
theorem dX3_ruleBefore_187 : decode cX3_ruleBefore 187 = .ok (.irem, 1) := by decide +kernel
theorem dX3_ruleBefore_188 : decode cX3_ruleBefore 188 = .ok (.iconst 1, 1) := by decide +kernel
theorem dX3_ruleBefore_189 : decode cX3_ruleBefore 189 = .ok (.if_icmp .ne 12, 3) := by decide +kernel
theorem dX3_ruleBefore_192 : decode cX3_ruleBefore 192 = .ok (.iload_n 1, 1) := by decide +kernel
theorem dX3_ruleBefore_193 : decode cX3_ruleBefore 193 = .ok (.bipush 6, 2) := by decide +kernel
theorem dX3_ruleBefore_195 : decode cX3_ruleBefore 195 = .ok (.if_icmp .ne 6, 3) := by decide +kernel
theorem dX3_ruleBefore_198 : decode cX3_ruleBefore 198 = .ok (.bipush 12, 2) := by decide +kernel
theorem dX3_ruleBefore_200 : decode cX3_ruleBefore 200 = .ok (.ireturn, 1) := by decide +kernel
theorem dX3_ruleBefore_201 : decode cX3_ruleBefore 201 = .ok (.sipush 999, 3) := by decide +kernel
theorem dX3_ruleBefore_204 : decode cX3_ruleBefore 204 = .ok (.ireturn, 1) := by decide +kernel
theorem dX3_isLineOrControl_0 : decode cX3_isLineOrControl 0 = .ok (.iload_n 0, 1) := by decide +kernel
theorem dX3_isLineOrControl_1 : decode cX3_isLineOrControl 1 = .ok (.iconst 1, 1) := by decide +kernel
theorem dX3_isLineOrControl_2 : decode cX3_isLineOrControl 2 = .ok (.if_icmp .eq 13, 3) := by decide +kernel
theorem dX3_isLineOrControl_5 : decode cX3_isLineOrControl 5 = .ok (.iload_n 0, 1) := by decide +kernel
theorem dX3_isLineOrControl_6 : decode cX3_isLineOrControl 6 = .ok (.iconst 2, 1) := by decide +kernel
theorem dX3_isLineOrControl_7 : decode cX3_isLineOrControl 7 = .ok (.if_icmp .eq 8, 3) := by decide +kernel
theorem dX3_isLineOrControl_10 : decode cX3_isLineOrControl 10 = .ok (.iload_n 0, 1) := by decide +kernel
theorem dX3_isLineOrControl_11 : decode cX3_isLineOrControl 11 = .ok (.iconst 3, 1) := by decide +kernel
theorem dX3_isLineOrControl_12 : decode cX3_isLineOrControl 12 = .ok (.if_icmp .ne 7, 3) := by decide +kernel
theorem dX3_isLineOrControl_15 : decode cX3_isLineOrControl 15 = .ok (.iconst 1, 1) := by decide +kernel
theorem dX3_isLineOrControl_16 : decode cX3_isLineOrControl 16 = .ok (.goto 4, 3) := by decide +kernel
theorem dX3_isLineOrControl_19 : decode cX3_isLineOrControl 19 = .ok (.iconst 0, 1) := by decide +kernel
theorem dX3_isLineOrControl_20 : decode cX3_isLineOrControl 20 = .ok (.ireturn, 1) := by decide +kernel
theorem dX3_isEnd_0 : decode cX3_isEnd 0 = .ok (.iload_n 0, 1) := by decide +kernel
theorem dX3_isEnd_1 : decode cX3_isEnd 1 = .ok (.iconst 1, 1) := by decide +kernel
theorem dX3_isEnd_2 : decode cX3_isEnd 2 = .ok (.if_icmp .eq 25, 3) := by decide +kernel
theorem dX3_isEnd_5 : decode cX3_isEnd 5 = .ok (.iload_n 0, 1) := by decide +kernel
theorem dX3_isEnd_6 : decode cX3_isEnd 6 = .ok (.iconst 2, 1) := by decide +kernel
theorem dX3_isEnd_7 : decode cX3_isEnd 7 = .ok (.if_icmp .eq 20, 3) := by decide +kernel
theorem dX3_isEnd_10 : decode cX3_isEnd 10 = .ok (.iload_n 0, 1) := by decide +kernel
theorem dX3_isEnd_11 : decode cX3_isEnd 11 = .ok (.iconst 4, 1) := by decide +kernel
theorem dX3_isEnd_12 : decode cX3_isEnd 12 = .ok (.if_icmp .eq 15, 3) := by decide +kernel
theorem dX3_isEnd_15 : decode cX3_isEnd 15 = .ok (.iload_n 0, 1) := by decide +kernel
theorem dX3_isEnd_16 : decode cX3_isEnd 16 = .ok (.iconst 5, 1) := by decide +kernel
theorem dX3_isEnd_17 : decode cX3_isEnd 17 = .ok (.if_icmp .eq 10, 3) := by decide +kernel
theorem dX3_isEnd_20 : decode cX3_isEnd 20 = .ok (.iload_n 0, 1) := by decide +kernel
theorem dX3_isEnd_21 : decode cX3_isEnd 21 = .ok (.sipush 999, 3) := by decide +kernel
theorem dX3_isEnd_24 : decode cX3_isEnd 24 = .ok (.if_icmp .ne 7, 3) := by decide +kernel
theorem dX3_isEnd_27 : decode cX3_isEnd 27 = .ok (.iconst 1, 1) := by decide +kernel
theorem dX3_isEnd_28 : decode cX3_isEnd 28 = .ok (.goto 4, 3) := by decide +kernel
theorem dX3_isEnd_31 : decode cX3_isEnd 31 = .ok (.iconst 0, 1) := by decide +kernel
theorem dX3_isEnd_32 : decode cX3_isEnd 32 = .ok (.ireturn, 1) := by decide +kernel
theorem dX4_init_0 : decode cX4_init 0 = .ok (.aload_n 0, 1) := by decide +kernel
theorem dX4_init_1 : decode cX4_init 1 = .ok (.invokespecial 3, 3) := by decide +kernel
theorem dX4_init_4 : decode cX4_init 4 = .ok (.aload_n 0, 1) := by decide +kernel
theorem dX4_init_5 : decode cX4_init 5 = .ok (.bipush 120, 2) := by decide +kernel
theorem dX4_init_7 : decode cX4_init 7 = .ok (.newarray .int, 2) := by decide +kernel
theorem dX4_init_9 : decode cX4_init 9 = .ok (.putfield 9, 3) := by decide +kernel
theorem dX4_init_12 : decode cX4_init 12 = .ok (.aload_n 0, 1) := by decide +kernel
theorem dX4_init_13 : decode cX4_init 13 = .ok (.bipush 120, 2) := by decide +kernel
theorem dX4_init_15 : decode cX4_init 15 = .ok (.newarray .int, 2) := by decide +kernel
theorem dX4_init_17 : decode cX4_init 17 = .ok (.putfield 15, 3) := by decide +kernel
theorem dX4_init_20 : decode cX4_init 20 = .ok (.aload_n 0, 1) := by decide +kernel
theorem dX4_init_21 : decode cX4_init 21 = .ok (.bipush 120, 2) := by decide +kernel
theorem dX4_init_23 : decode cX4_init 23 = .ok (.newarray .int, 2) := by decide +kernel
theorem dX4_init_25 : decode cX4_init 25 = .ok (.putfield 18, 3) := by decide +kernel
theorem dX4_init_28 : decode cX4_init 28 = .ok (.aload_n 0, 1) := by decide +kernel
theorem dX4_init_29 : decode cX4_init 29 = .ok (.bipush 120, 2) := by decide +kernel
theorem dX4_init_31 : decode cX4_init 31 = .ok (.newarray .int, 2) := by decide +kernel
theorem dX4_init_33 : decode cX4_init 33 = .ok (.putfield 21, 3) := by decide +kernel
theorem dX4_init_36 : decode cX4_init 36 = .ok (.aload_n 0, 1) := by decide +kernel
theorem dX4_init_37 : decode cX4_init 37 = .ok (.bipush 120, 2) := by decide +kernel
theorem dX4_init_39 : decode cX4_init 39 = .ok (.newarray .boolean, 2) := by decide +kernel
theorem dX4_init_41 : decode cX4_init 41 = .ok (.putfield 24, 3) := by decide +kernel
theorem dX4_init_44 : decode cX4_init 44 = .ok (.aload_n 0, 1) := by decide +kernel
theorem dX4_init_45 : decode cX4_init 45 = .ok (.iconst 0, 1) := by decide +kernel
theorem dX4_init_46 : decode cX4_init 46 = .ok (.putfield 28, 3) := by decide +kernel
theorem dX4_init_49 : decode cX4_init 49 = .ok (.aload_n 0, 1) := by decide +kernel
theorem dX4_init_50 : decode cX4_init 50 = .ok (.sipush 256, 3) := by decide +kernel
theorem dX4_init_53 : decode cX4_init 53 = .ok (.newarray .int, 2) := by decide +kernel
theorem dX4_init_55 : decode cX4_init 55 = .ok (.putfield 32, 3) := by decide +kernel
theorem dX4_init_58 : decode cX4_init 58 = .ok (.aload_n 0, 1) := by decide +kernel
theorem dX4_init_59 : decode cX4_init 59 = .ok (.bipush 120, 2) := by decide +kernel
theorem dX4_init_61 : decode cX4_init 61 = .ok (.newarray .int, 2) := by decide +kernel
theorem dX4_init_63 : decode cX4_init 63 = .ok (.putfield 35, 3) := by decide +kernel
theorem dX4_init_66 : decode cX4_init 66 = .ok (.aload_n 0, 1) := by decide +kernel
theorem dX4_init_67 : decode cX4_init 67 = .ok (.bipush 120, 2) := by decide +kernel
theorem dX4_init_69 : decode cX4_init 69 = .ok (.newarray .boolean, 2) := by decide +kernel
theorem dX4_init_71 : decode cX4_init 71 = .ok (.putfield 38, 3) := by decide +kernel
theorem dX4_init_74 : decode cX4_init 74 = .ok (.aload_n 0, 1) := by decide +kernel
theorem dX4_init_75 : decode cX4_init 75 = .ok (.iconst 0, 1) := by decide +kernel
theorem dX4_init_76 : decode cX4_init 76 = .ok (.putfield 41, 3) := by decide +kernel
theorem dX4_init_79 : decode cX4_init 79 = .ok (.return_, 1) := by decide +kernel
theorem dX4_isFull_0 : decode cX4_isFull 0 = .ok (.aload_n 0, 1) := by decide +kernel
theorem dX4_isFull_1 : decode cX4_isFull 1 = .ok (.getfield 28, 3) := by decide +kernel
theorem dX4_isFull_4 : decode cX4_isFull 4 = .ok (.bipush 120, 2) := by decide +kernel
theorem dX4_isFull_6 : decode cX4_isFull 6 = .ok (.if_icmp .lt 7, 3) := by decide +kernel
theorem dX4_isFull_9 : decode cX4_isFull 9 = .ok (.iconst 1, 1) := by decide +kernel
theorem dX4_isFull_10 : decode cX4_isFull 10 = .ok (.goto 4, 3) := by decide +kernel
theorem dX4_isFull_13 : decode cX4_isFull 13 = .ok (.iconst 0, 1) := by decide +kernel
theorem dX4_isFull_14 : decode cX4_isFull 14 = .ok (.ireturn, 1) := by decide +kernel
theorem dX4_has_0 : decode cX4_has 0 = .ok (.aload_n 0, 1) := by decide +kernel
theorem dX4_has_1 : decode cX4_has 1 = .ok (.iload_n 1, 1) := by decide +kernel
theorem dX4_has_2 : decode cX4_has 2 = .ok (.invokevirtual 44, 3) := by decide +kernel
theorem dX4_has_5 : decode cX4_has 5 = .ok (.iconst (-1), 1) := by decide +kernel
theorem dX4_has_6 : decode cX4_has 6 = .ok (.if_icmp .eq 7, 3) := by decide +kernel
theorem dX4_has_9 : decode cX4_has 9 = .ok (.iconst 1, 1) := by decide +kernel
theorem dX4_has_10 : decode cX4_has 10 = .ok (.goto 4, 3) := by decide +kernel
theorem dX4_has_13 : decode cX4_has 13 = .ok (.iconst 0, 1) := by decide +kernel
theorem dX4_has_14 : decode cX4_has 14 = .ok (.ireturn, 1) := by decide +kernel
theorem dX4_tell_0 : decode cX4_tell 0 = .ok (.aload_n 0, 1) := by decide +kernel
theorem dX4_tell_1 : decode cX4_tell 1 = .ok (.invokevirtual 48, 3) := by decide +kernel
theorem dX4_tell_4 : decode cX4_tell 4 = .ok (.ifCond .eq 4, 3) := by decide +kernel
theorem dX4_tell_7 : decode cX4_tell 7 = .ok (.return_, 1) := by decide +kernel
theorem dX4_tell_8 : decode cX4_tell 8 = .ok (.aload_n 0, 1) := by decide +kernel
theorem dX4_tell_9 : decode cX4_tell 9 = .ok (.getfield 9, 3) := by decide +kernel
theorem dX4_tell_12 : decode cX4_tell 12 = .ok (.aload_n 0, 1) := by decide +kernel
theorem dX4_tell_13 : decode cX4_tell 13 = .ok (.getfield 28, 3) := by decide +kernel
theorem dX4_tell_16 : decode cX4_tell 16 = .ok (.iload_n 1, 1) := by decide +kernel
theorem dX4_tell_17 : decode cX4_tell 17 = .ok (.iastore, 1) := by decide +kernel
theorem dX4_tell_18 : decode cX4_tell 18 = .ok (.aload_n 0, 1) := by decide +kernel
theorem dX4_tell_19 : decode cX4_tell 19 = .ok (.getfield 15, 3) := by decide +kernel
theorem dX4_tell_22 : decode cX4_tell 22 = .ok (.aload_n 0, 1) := by decide +kernel
theorem dX4_tell_23 : decode cX4_tell 23 = .ok (.getfield 28, 3) := by decide +kernel
theorem dX4_tell_26 : decode cX4_tell 26 = .ok (.iload_n 2, 1) := by decide +kernel
theorem dX4_tell_27 : decode cX4_tell 27 = .ok (.iastore, 1) := by decide +kernel
theorem dX4_tell_28 : decode cX4_tell 28 = .ok (.aload_n 0, 1) := by decide +kernel
theorem dX4_tell_29 : decode cX4_tell 29 = .ok (.getfield 18, 3) := by decide +kernel
theorem dX4_tell_32 : decode cX4_tell 32 = .ok (.aload_n 0, 1) := by decide +kernel
theorem dX4_tell_33 : decode cX4_tell 33 = .ok (.getfield 28, 3) := by decide +kernel
theorem dX4_tell_36 : decode cX4_tell 36 = .ok (.iload_n 3, 1) := by decide +kernel
theorem dX4_tell_37 : decode cX4_tell 37 = .ok (.iastore, 1) := by decide +kernel
theorem dX4_tell_38 : decode cX4_tell 38 = .ok (.aload_n 0, 1) := by decide +kernel
theorem dX4_tell_39 : decode cX4_tell 39 = .ok (.getfield 21, 3) := by decide +kernel
theorem dX4_tell_42 : decode cX4_tell 42 = .ok (.aload_n 0, 1) := by decide +kernel
theorem dX4_tell_43 : decode cX4_tell 43 = .ok (.getfield 28, 3) := by decide +kernel
theorem dX4_tell_46 : decode cX4_tell 46 = .ok (.iload 4, 2) := by decide +kernel
theorem dX4_tell_48 : decode cX4_tell 48 = .ok (.iastore, 1) := by decide +kernel
theorem dX4_tell_49 : decode cX4_tell 49 = .ok (.aload_n 0, 1) := by decide +kernel
theorem dX4_tell_50 : decode cX4_tell 50 = .ok (.getfield 24, 3) := by decide +kernel
theorem dX4_tell_53 : decode cX4_tell 53 = .ok (.aload_n 0, 1) := by decide +kernel
theorem dX4_tell_54 : decode cX4_tell 54 = .ok (.getfield 28, 3) := by decide +kernel
theorem dX4_tell_57 : decode cX4_tell 57 = .ok (.iload 5, 2) := by decide +kernel
theorem dX4_tell_59 : decode cX4_tell 59 = .ok (.bastore, 1) := by decide +kernel
theorem dX4_tell_60 : decode cX4_tell 60 = .ok (.aload_n 0, 1) := by decide +kernel
theorem dX4_tell_61 : decode cX4_tell 61 = .ok (.getfield 32, 3) := by decide +kernel
theorem dX4_tell_64 : decode cX4_tell 64 = .ok (.aload_n 0, 1) := by decide +kernel
theorem dX4_tell_65 : decode cX4_tell 65 = .ok (.iload_n 1, 1) := by decide +kernel
theorem dX4_tell_66 : decode cX4_tell 66 = .ok (.invokevirtual 52, 3) := by decide +kernel
theorem dX4_tell_69 : decode cX4_tell 69 = .ok (.aload_n 0, 1) := by decide +kernel
theorem dX4_tell_70 : decode cX4_tell 70 = .ok (.getfield 28, 3) := by decide +kernel
theorem dX4_tell_73 : decode cX4_tell 73 = .ok (.iconst 1, 1) := by decide +kernel
theorem dX4_tell_74 : decode cX4_tell 74 = .ok (.iadd, 1) := by decide +kernel
theorem dX4_tell_75 : decode cX4_tell 75 = .ok (.iastore, 1) := by decide +kernel
theorem dX4_tell_76 : decode cX4_tell 76 = .ok (.aload_n 0, 1) := by decide +kernel
theorem dX4_tell_77 : decode cX4_tell 77 = .ok (.dup, 1) := by decide +kernel
theorem dX4_tell_78 : decode cX4_tell 78 = .ok (.getfield 28, 3) := by decide +kernel
theorem dX4_tell_81 : decode cX4_tell 81 = .ok (.iconst 1, 1) := by decide +kernel
theorem dX4_tell_82 : decode cX4_tell 82 = .ok (.iadd, 1) := by decide +kernel
theorem dX4_tell_83 : decode cX4_tell 83 = .ok (.putfield 28, 3) := by decide +kernel
theorem dX4_tell_86 : decode cX4_tell 86 = .ok (.return_, 1) := by decide +kernel
theorem dX4_find_0 : decode cX4_find 0 = .ok (.aload_n 0, 1) := by decide +kernel
theorem dX4_find_1 : decode cX4_find 1 = .ok (.getfield 32, 3) := by decide +kernel
theorem dX4_find_4 : decode cX4_find 4 = .ok (.aload_n 0, 1) := by decide +kernel
theorem dX4_find_5 : decode cX4_find 5 = .ok (.iload_n 1, 1) := by decide +kernel
theorem dX4_find_6 : decode cX4_find 6 = .ok (.invokevirtual 52, 3) := by decide +kernel
theorem dX4_find_9 : decode cX4_find 9 = .ok (.iaload, 1) := by decide +kernel
theorem dX4_find_10 : decode cX4_find 10 = .ok (.iconst 1, 1) := by decide +kernel
theorem dX4_find_11 : decode cX4_find 11 = .ok (.isub, 1) := by decide +kernel
theorem dX4_find_12 : decode cX4_find 12 = .ok (.ireturn, 1) := by decide +kernel
theorem dX4_slotFor_0 : decode cX4_slotFor 0 = .ok (.iload_n 1, 1) := by decide +kernel
theorem dX4_slotFor_1 : decode cX4_slotFor 1 = .ok (.sipush 255, 3) := by decide +kernel
theorem dX4_slotFor_4 : decode cX4_slotFor 4 = .ok (.iand, 1) := by decide +kernel
theorem dX4_slotFor_5 : decode cX4_slotFor 5 = .ok (.istore_n 2, 1) := by decide +kernel
theorem dX4_slotFor_6 : decode cX4_slotFor 6 = .ok (.iconst 0, 1) := by decide +kernel
theorem dX4_slotFor_7 : decode cX4_slotFor 7 = .ok (.istore_n 3, 1) := by decide +kernel
theorem dX4_slotFor_8 : decode cX4_slotFor 8 = .ok (.iload_n 3, 1) := by decide +kernel
theorem dX4_slotFor_9 : decode cX4_slotFor 9 = .ok (.sipush 256, 3) := by decide +kernel
theorem dX4_slotFor_12 : decode cX4_slotFor 12 = .ok (.if_icmp .ge 45, 3) := by decide +kernel
theorem dX4_slotFor_15 : decode cX4_slotFor 15 = .ok (.aload_n 0, 1) := by decide +kernel
theorem dX4_slotFor_16 : decode cX4_slotFor 16 = .ok (.getfield 32, 3) := by decide +kernel
theorem dX4_slotFor_19 : decode cX4_slotFor 19 = .ok (.iload_n 2, 1) := by decide +kernel
theorem dX4_slotFor_20 : decode cX4_slotFor 20 = .ok (.iaload, 1) := by decide +kernel
theorem dX4_slotFor_21 : decode cX4_slotFor 21 = .ok (.iconst 1, 1) := by decide +kernel
theorem dX4_slotFor_22 : decode cX4_slotFor 22 = .ok (.isub, 1) := by decide +kernel
theorem dX4_slotFor_23 : decode cX4_slotFor 23 = .ok (.istore 4, 2) := by decide +kernel
theorem dX4_slotFor_25 : decode cX4_slotFor 25 = .ok (.iload 4, 2) := by decide +kernel
theorem dX4_slotFor_27 : decode cX4_slotFor 27 = .ok (.ifCond .lt 14, 3) := by decide +kernel
theorem dX4_slotFor_30 : decode cX4_slotFor 30 = .ok (.aload_n 0, 1) := by decide +kernel
theorem dX4_slotFor_31 : decode cX4_slotFor 31 = .ok (.getfield 9, 3) := by decide +kernel
theorem dX4_slotFor_34 : decode cX4_slotFor 34 = .ok (.iload 4, 2) := by decide +kernel
theorem dX4_slotFor_36 : decode cX4_slotFor 36 = .ok (.iaload, 1) := by decide +kernel
theorem dX4_slotFor_37 : decode cX4_slotFor 37 = .ok (.iload_n 1, 1) := by decide +kernel
theorem dX4_slotFor_38 : decode cX4_slotFor 38 = .ok (.if_icmp .ne 5, 3) := by decide +kernel
theorem dX4_slotFor_41 : decode cX4_slotFor 41 = .ok (.iload_n 2, 1) := by decide +kernel
theorem dX4_slotFor_42 : decode cX4_slotFor 42 = .ok (.ireturn, 1) := by decide +kernel
theorem dX4_slotFor_43 : decode cX4_slotFor 43 = .ok (.iload_n 2, 1) := by decide +kernel
theorem dX4_slotFor_44 : decode cX4_slotFor 44 = .ok (.iconst 1, 1) := by decide +kernel
theorem dX4_slotFor_45 : decode cX4_slotFor 45 = .ok (.iadd, 1) := by decide +kernel
theorem dX4_slotFor_46 : decode cX4_slotFor 46 = .ok (.sipush 255, 3) := by decide +kernel
theorem dX4_slotFor_49 : decode cX4_slotFor 49 = .ok (.iand, 1) := by decide +kernel
theorem dX4_slotFor_50 : decode cX4_slotFor 50 = .ok (.istore_n 2, 1) := by decide +kernel
theorem dX4_slotFor_51 : decode cX4_slotFor 51 = .ok (.iinc 3 1, 3) := by decide +kernel
theorem dX4_slotFor_54 : decode cX4_slotFor 54 = .ok (.goto (-46), 3) := by decide +kernel
theorem dX4_slotFor_57 : decode cX4_slotFor 57 = .ok (.iload_n 2, 1) := by decide +kernel
theorem dX4_slotFor_58 : decode cX4_slotFor 58 = .ok (.ireturn, 1) := by decide +kernel
theorem dX4_read_0 : decode cX4_read 0 = .ok (.iload_n 1, 1) := by decide +kernel
theorem dX4_read_1 : decode cX4_read 1 = .ok (.invokestatic 55, 3) := by decide +kernel
theorem dX4_read_4 : decode cX4_read 4 = .ok (.ifCond .eq 9, 3) := by decide +kernel
theorem dX4_read_7 : decode cX4_read 7 = .ok (.iload_n 1, 1) := by decide +kernel
theorem dX4_read_8 : decode cX4_read 8 = .ok (.aload_n 3, 1) := by decide +kernel
theorem dX4_read_9 : decode cX4_read 9 = .ok (.invokestatic 61, 3) := by decide +kernel
theorem dX4_read_12 : decode cX4_read 12 = .ok (.ireturn, 1) := by decide +kernel
theorem dX4_read_13 : decode cX4_read 13 = .ok (.aload_n 0, 1) := by decide +kernel
theorem dX4_read_14 : decode cX4_read 14 = .ok (.iload_n 1, 1) := by decide +kernel
theorem dX4_read_15 : decode cX4_read 15 = .ok (.invokevirtual 44, 3) := by decide +kernel
theorem dX4_read_18 : decode cX4_read 18 = .ok (.istore 4, 2) := by decide +kernel
theorem dX4_read_20 : decode cX4_read 20 = .ok (.iload 4, 2) := by decide +kernel
theorem dX4_read_22 : decode cX4_read 22 = .ok (.ifCond .lt 17, 3) := by decide +kernel
theorem dX4_read_25 : decode cX4_read 25 = .ok (.aload_n 0, 1) := by decide +kernel
theorem dX4_read_26 : decode cX4_read 26 = .ok (.getfield 24, 3) := by decide +kernel
theorem dX4_read_29 : decode cX4_read 29 = .ok (.iload 4, 2) := by decide +kernel
theorem dX4_read_31 : decode cX4_read 31 = .ok (.baload, 1) := by decide +kernel
theorem dX4_read_32 : decode cX4_read 32 = .ok (.ifCond .eq 9, 3) := by decide +kernel
theorem dX4_read_35 : decode cX4_read 35 = .ok (.iload_n 2, 1) := by decide +kernel
theorem dX4_read_36 : decode cX4_read 36 = .ok (.ifCond .ne 5, 3) := by decide +kernel
theorem dX4_read_39 : decode cX4_read 39 = .ok (.iconst 0, 1) := by decide +kernel
theorem dX4_read_40 : decode cX4_read 40 = .ok (.ireturn, 1) := by decide +kernel
theorem dX4_read_41 : decode cX4_read 41 = .ok (.aload_n 3, 1) := by decide +kernel
theorem dX4_read_42 : decode cX4_read 42 = .ok (.iconst 0, 1) := by decide +kernel
theorem dX4_read_43 : decode cX4_read 43 = .ok (.aload_n 0, 1) := by decide +kernel
theorem dX4_read_44 : decode cX4_read 44 = .ok (.getfield 15, 3) := by decide +kernel
theorem dX4_read_47 : decode cX4_read 47 = .ok (.iload 4, 2) := by decide +kernel
theorem dX4_read_49 : decode cX4_read 49 = .ok (.iaload, 1) := by decide +kernel
theorem dX4_read_50 : decode cX4_read 50 = .ok (.iastore, 1) := by decide +kernel
theorem dX4_read_51 : decode cX4_read 51 = .ok (.aload_n 3, 1) := by decide +kernel
theorem dX4_read_52 : decode cX4_read 52 = .ok (.iconst 1, 1) := by decide +kernel
theorem dX4_read_53 : decode cX4_read 53 = .ok (.aload_n 0, 1) := by decide +kernel
theorem dX4_read_54 : decode cX4_read 54 = .ok (.getfield 18, 3) := by decide +kernel
theorem dX4_read_57 : decode cX4_read 57 = .ok (.iload 4, 2) := by decide +kernel
theorem dX4_read_59 : decode cX4_read 59 = .ok (.iaload, 1) := by decide +kernel
theorem dX4_read_60 : decode cX4_read 60 = .ok (.iastore, 1) := by decide +kernel
theorem dX4_read_61 : decode cX4_read 61 = .ok (.aload_n 3, 1) := by decide +kernel
theorem dX4_read_62 : decode cX4_read 62 = .ok (.iconst 2, 1) := by decide +kernel
theorem dX4_read_63 : decode cX4_read 63 = .ok (.aload_n 0, 1) := by decide +kernel
theorem dX4_read_64 : decode cX4_read 64 = .ok (.getfield 21, 3) := by decide +kernel
theorem dX4_read_67 : decode cX4_read 67 = .ok (.iload 4, 2) := by decide +kernel
theorem dX4_read_69 : decode cX4_read 69 = .ok (.iaload, 1) := by decide +kernel
theorem dX4_read_70 : decode cX4_read 70 = .ok (.iastore, 1) := by decide +kernel
theorem dX4_read_71 : decode cX4_read 71 = .ok (.aload_n 0, 1) := by decide +kernel
theorem dX4_read_72 : decode cX4_read 72 = .ok (.getfield 18, 3) := by decide +kernel
theorem dX4_read_75 : decode cX4_read 75 = .ok (.iload 4, 2) := by decide +kernel
theorem dX4_read_77 : decode cX4_read 77 = .ok (.iaload, 1) := by decide +kernel
theorem dX4_read_78 : decode cX4_read 78 = .ok (.iconst (-1), 1) := by decide +kernel
theorem dX4_read_79 : decode cX4_read 79 = .ok (.if_icmp .ne 5, 3) := by decide +kernel
theorem dX4_read_82 : decode cX4_read 82 = .ok (.iconst 1, 1) := by decide +kernel
theorem dX4_read_83 : decode cX4_read 83 = .ok (.ireturn, 1) := by decide +kernel
theorem dX4_read_84 : decode cX4_read 84 = .ok (.aload_n 0, 1) := by decide +kernel
theorem dX4_read_85 : decode cX4_read 85 = .ok (.getfield 21, 3) := by decide +kernel
theorem dX4_read_88 : decode cX4_read 88 = .ok (.iload 4, 2) := by decide +kernel
theorem dX4_read_90 : decode cX4_read 90 = .ok (.iaload, 1) := by decide +kernel
theorem dX4_read_91 : decode cX4_read 91 = .ok (.iconst (-1), 1) := by decide +kernel
theorem dX4_read_92 : decode cX4_read 92 = .ok (.if_icmp .ne 7, 3) := by decide +kernel
theorem dX4_read_95 : decode cX4_read 95 = .ok (.iconst 2, 1) := by decide +kernel
theorem dX4_read_96 : decode cX4_read 96 = .ok (.goto 4, 3) := by decide +kernel
theorem dX4_read_99 : decode cX4_read 99 = .ok (.iconst 3, 1) := by decide +kernel
theorem dX4_read_100 : decode cX4_read 100 = .ok (.ireturn, 1) := by decide +kernel
theorem dX4_readSyllable_0 : decode cX4_readSyllable 0 = .ok (.iload_n 0, 1) := by decide +kernel
theorem dX4_readSyllable_1 : decode cX4_readSyllable 1 = .ok (.invokestatic 65, 3) := by decide +kernel
theorem dX4_readSyllable_4 : decode cX4_readSyllable 4 = .ok (.ifCond .eq 20, 3) := by decide +kernel
theorem dX4_readSyllable_7 : decode cX4_readSyllable 7 = .ok (.aload_n 1, 1) := by decide +kernel
theorem dX4_readSyllable_8 : decode cX4_readSyllable 8 = .ok (.iconst 0, 1) := by decide +kernel
theorem dX4_readSyllable_9 : decode cX4_readSyllable 9 = .ok (.iload_n 0, 1) := by decide +kernel
theorem dX4_readSyllable_10 : decode cX4_readSyllable 10 = .ok (.invokestatic 68, 3) := by decide +kernel
theorem dX4_readSyllable_13 : decode cX4_readSyllable 13 = .ok (.iastore, 1) := by decide +kernel
theorem dX4_readSyllable_14 : decode cX4_readSyllable 14 = .ok (.aload_n 1, 1) := by decide +kernel
theorem dX4_readSyllable_15 : decode cX4_readSyllable 15 = .ok (.iconst 1, 1) := by decide +kernel
theorem dX4_readSyllable_16 : decode cX4_readSyllable 16 = .ok (.iload_n 0, 1) := by decide +kernel
theorem dX4_readSyllable_17 : decode cX4_readSyllable 17 = .ok (.invokestatic 71, 3) := by decide +kernel
theorem dX4_readSyllable_20 : decode cX4_readSyllable 20 = .ok (.iastore, 1) := by decide +kernel
theorem dX4_readSyllable_21 : decode cX4_readSyllable 21 = .ok (.goto 17, 3) := by decide +kernel
theorem dX4_readSyllable_24 : decode cX4_readSyllable 24 = .ok (.aload_n 1, 1) := by decide +kernel
theorem dX4_readSyllable_25 : decode cX4_readSyllable 25 = .ok (.iconst 0, 1) := by decide +kernel
theorem dX4_readSyllable_26 : decode cX4_readSyllable 26 = .ok (.iload_n 0, 1) := by decide +kernel
theorem dX4_readSyllable_27 : decode cX4_readSyllable 27 = .ok (.invokestatic 74, 3) := by decide +kernel
theorem dX4_readSyllable_30 : decode cX4_readSyllable 30 = .ok (.iastore, 1) := by decide +kernel
theorem dX4_readSyllable_31 : decode cX4_readSyllable 31 = .ok (.aload_n 1, 1) := by decide +kernel
theorem dX4_readSyllable_32 : decode cX4_readSyllable 32 = .ok (.iconst 1, 1) := by decide +kernel
theorem dX4_readSyllable_33 : decode cX4_readSyllable 33 = .ok (.iload_n 0, 1) := by decide +kernel
theorem dX4_readSyllable_34 : decode cX4_readSyllable 34 = .ok (.invokestatic 77, 3) := by decide +kernel
theorem dX4_readSyllable_37 : decode cX4_readSyllable 37 = .ok (.iastore, 1) := by decide +kernel
theorem dX4_readSyllable_38 : decode cX4_readSyllable 38 = .ok (.iconst 2, 1) := by decide +kernel
theorem dX4_readSyllable_39 : decode cX4_readSyllable 39 = .ok (.ireturn, 1) := by decide +kernel
theorem dX4_whole_0 : decode cX4_whole 0 = .ok (.iconst 0, 1) := by decide +kernel
theorem dX4_whole_1 : decode cX4_whole 1 = .ok (.istore_n 3, 1) := by decide +kernel
theorem dX4_whole_2 : decode cX4_whole 2 = .ok (.iload_n 3, 1) := by decide +kernel
theorem dX4_whole_3 : decode cX4_whole 3 = .ok (.aload_n 0, 1) := by decide +kernel
theorem dX4_whole_4 : decode cX4_whole 4 = .ok (.getfield 28, 3) := by decide +kernel
theorem dX4_whole_7 : decode cX4_whole 7 = .ok (.if_icmp .ge 45, 3) := by decide +kernel
theorem dX4_whole_10 : decode cX4_whole 10 = .ok (.aload_n 0, 1) := by decide +kernel
theorem dX4_whole_11 : decode cX4_whole 11 = .ok (.getfield 18, 3) := by decide +kernel
theorem dX4_whole_14 : decode cX4_whole 14 = .ok (.iload_n 3, 1) := by decide +kernel
theorem dX4_whole_15 : decode cX4_whole 15 = .ok (.iaload, 1) := by decide +kernel
theorem dX4_whole_16 : decode cX4_whole 16 = .ok (.iload_n 2, 1) := by decide +kernel
theorem dX4_whole_17 : decode cX4_whole 17 = .ok (.if_icmp .ne 29, 3) := by decide +kernel
theorem dX4_whole_20 : decode cX4_whole 20 = .ok (.aload_n 0, 1) := by decide +kernel
theorem dX4_whole_21 : decode cX4_whole 21 = .ok (.getfield 15, 3) := by decide +kernel
theorem dX4_whole_24 : decode cX4_whole 24 = .ok (.iload_n 3, 1) := by decide +kernel
theorem dX4_whole_25 : decode cX4_whole 25 = .ok (.iaload, 1) := by decide +kernel
theorem dX4_whole_26 : decode cX4_whole 26 = .ok (.iload_n 1, 1) := by decide +kernel
theorem dX4_whole_27 : decode cX4_whole 27 = .ok (.if_icmp .ne 19, 3) := by decide +kernel
theorem dX4_whole_30 : decode cX4_whole 30 = .ok (.aload_n 0, 1) := by decide +kernel
theorem dX4_whole_31 : decode cX4_whole 31 = .ok (.getfield 24, 3) := by decide +kernel
theorem dX4_whole_34 : decode cX4_whole 34 = .ok (.iload_n 3, 1) := by decide +kernel
theorem dX4_whole_35 : decode cX4_whole 35 = .ok (.baload, 1) := by decide +kernel
theorem dX4_whole_36 : decode cX4_whole 36 = .ok (.ifCond .ne 10, 3) := by decide +kernel
theorem dX4_whole_39 : decode cX4_whole 39 = .ok (.aload_n 0, 1) := by decide +kernel
theorem dX4_whole_40 : decode cX4_whole 40 = .ok (.getfield 9, 3) := by decide +kernel
theorem dX4_whole_43 : decode cX4_whole 43 = .ok (.iload_n 3, 1) := by decide +kernel
theorem dX4_whole_44 : decode cX4_whole 44 = .ok (.iaload, 1) := by decide +kernel
theorem dX4_whole_45 : decode cX4_whole 45 = .ok (.ireturn, 1) := by decide +kernel
theorem dX4_whole_46 : decode cX4_whole 46 = .ok (.iinc 3 1, 3) := by decide +kernel
theorem dX4_whole_49 : decode cX4_whole 49 = .ok (.goto (-47), 3) := by decide +kernel
theorem dX4_whole_52 : decode cX4_whole 52 = .ok (.iload_n 1, 1) := by decide +kernel
theorem dX4_whole_53 : decode cX4_whole 53 = .ok (.iload_n 2, 1) := by decide +kernel
theorem dX4_whole_54 : decode cX4_whole 54 = .ok (.invokestatic 80, 3) := by decide +kernel
theorem dX4_whole_57 : decode cX4_whole 57 = .ok (.ireturn, 1) := by decide +kernel
theorem dX4_wouldGive_0 : decode cX4_wouldGive 0 = .ok (.iconst 0, 1) := by decide +kernel
theorem dX4_wouldGive_1 : decode cX4_wouldGive 1 = .ok (.istore 5, 2) := by decide +kernel
theorem dX4_wouldGive_3 : decode cX4_wouldGive 3 = .ok (.iload 5, 2) := by decide +kernel
theorem dX4_wouldGive_5 : decode cX4_wouldGive 5 = .ok (.aload_n 0, 1) := by decide +kernel
theorem dX4_wouldGive_6 : decode cX4_wouldGive 6 = .ok (.getfield 28, 3) := by decide +kernel
theorem dX4_wouldGive_9 : decode cX4_wouldGive 9 = .ok (.if_icmp .ge 17, 3) := by decide +kernel
theorem dX4_wouldGive_12 : decode cX4_wouldGive 12 = .ok (.aload_n 0, 1) := by decide +kernel
theorem dX4_wouldGive_13 : decode cX4_wouldGive 13 = .ok (.getfield 38, 3) := by decide +kernel
theorem dX4_wouldGive_16 : decode cX4_wouldGive 16 = .ok (.iload 5, 2) := by decide +kernel
theorem dX4_wouldGive_18 : decode cX4_wouldGive 18 = .ok (.iconst 0, 1) := by decide +kernel
theorem dX4_wouldGive_19 : decode cX4_wouldGive 19 = .ok (.bastore, 1) := by decide +kernel
theorem dX4_wouldGive_20 : decode cX4_wouldGive 20 = .ok (.iinc 5 1, 3) := by decide +kernel
theorem dX4_wouldGive_23 : decode cX4_wouldGive 23 = .ok (.goto (-20), 3) := by decide +kernel
theorem dX4_wouldGive_26 : decode cX4_wouldGive 26 = .ok (.aload_n 0, 1) := by decide +kernel
theorem dX4_wouldGive_27 : decode cX4_wouldGive 27 = .ok (.iconst 0, 1) := by decide +kernel
theorem dX4_wouldGive_28 : decode cX4_wouldGive 28 = .ok (.putfield 41, 3) := by decide +kernel
theorem dX4_wouldGive_31 : decode cX4_wouldGive 31 = .ok (.aload_n 0, 1) := by decide +kernel
theorem dX4_wouldGive_32 : decode cX4_wouldGive 32 = .ok (.iload_n 1, 1) := by decide +kernel
theorem dX4_wouldGive_33 : decode cX4_wouldGive 33 = .ok (.iload_n 2, 1) := by decide +kernel
theorem dX4_wouldGive_34 : decode cX4_wouldGive 34 = .ok (.invokevirtual 84, 3) := by decide +kernel
theorem dX4_wouldGive_37 : decode cX4_wouldGive 37 = .ok (.ifCond .ne 22, 3) := by decide +kernel
theorem dX4_wouldGive_40 : decode cX4_wouldGive 40 = .ok (.aload_n 0, 1) := by decide +kernel
theorem dX4_wouldGive_41 : decode cX4_wouldGive 41 = .ok (.iload_n 1, 1) := by decide +kernel
theorem dX4_wouldGive_42 : decode cX4_wouldGive 42 = .ok (.iload_n 3, 1) := by decide +kernel
theorem dX4_wouldGive_43 : decode cX4_wouldGive 43 = .ok (.invokevirtual 84, 3) := by decide +kernel
theorem dX4_wouldGive_46 : decode cX4_wouldGive 46 = .ok (.ifCond .ne 13, 3) := by decide +kernel
theorem dX4_wouldGive_49 : decode cX4_wouldGive 49 = .ok (.aload_n 0, 1) := by decide +kernel
theorem dX4_wouldGive_50 : decode cX4_wouldGive 50 = .ok (.iload_n 1, 1) := by decide +kernel
theorem dX4_wouldGive_51 : decode cX4_wouldGive 51 = .ok (.iload 4, 2) := by decide +kernel
theorem dX4_wouldGive_53 : decode cX4_wouldGive 53 = .ok (.invokevirtual 84, 3) := by decide +kernel
theorem dX4_wouldGive_56 : decode cX4_wouldGive 56 = .ok (.ifCond .eq 5, 3) := by decide +kernel
theorem dX4_wouldGive_59 : decode cX4_wouldGive 59 = .ok (.iconst 1, 1) := by decide +kernel
theorem dX4_wouldGive_60 : decode cX4_wouldGive 60 = .ok (.ireturn, 1) := by decide +kernel
theorem dX4_wouldGive_61 : decode cX4_wouldGive 61 = .ok (.iconst 0, 1) := by decide +kernel
theorem dX4_wouldGive_62 : decode cX4_wouldGive 62 = .ok (.istore 5, 2) := by decide +kernel
theorem dX4_wouldGive_64 : decode cX4_wouldGive 64 = .ok (.iload 5, 2) := by decide +kernel
theorem dX4_wouldGive_66 : decode cX4_wouldGive 66 = .ok (.aload_n 0, 1) := by decide +kernel
theorem dX4_wouldGive_67 : decode cX4_wouldGive 67 = .ok (.getfield 41, 3) := by decide +kernel
theorem dX4_wouldGive_70 : decode cX4_wouldGive 70 = .ok (.if_icmp .ge 72, 3) := by decide +kernel
theorem dX4_wouldGive_73 : decode cX4_wouldGive 73 = .ok (.iload 5, 2) := by decide +kernel
theorem dX4_wouldGive_75 : decode cX4_wouldGive 75 = .ok (.bipush 120, 2) := by decide +kernel
theorem dX4_wouldGive_77 : decode cX4_wouldGive 77 = .ok (.if_icmp .ge 65, 3) := by decide +kernel
theorem dX4_wouldGive_80 : decode cX4_wouldGive 80 = .ok (.aload_n 0, 1) := by decide +kernel
theorem dX4_wouldGive_81 : decode cX4_wouldGive 81 = .ok (.getfield 35, 3) := by decide +kernel
theorem dX4_wouldGive_84 : decode cX4_wouldGive 84 = .ok (.iload 5, 2) := by decide +kernel
theorem dX4_wouldGive_86 : decode cX4_wouldGive 86 = .ok (.iaload, 1) := by decide +kernel
theorem dX4_wouldGive_87 : decode cX4_wouldGive 87 = .ok (.istore 6, 2) := by decide +kernel
theorem dX4_wouldGive_89 : decode cX4_wouldGive 89 = .ok (.aload_n 0, 1) := by decide +kernel
theorem dX4_wouldGive_90 : decode cX4_wouldGive 90 = .ok (.iload_n 1, 1) := by decide +kernel
theorem dX4_wouldGive_91 : decode cX4_wouldGive 91 = .ok (.aload_n 0, 1) := by decide +kernel
theorem dX4_wouldGive_92 : decode cX4_wouldGive 92 = .ok (.getfield 15, 3) := by decide +kernel
theorem dX4_wouldGive_95 : decode cX4_wouldGive 95 = .ok (.iload 6, 2) := by decide +kernel
theorem dX4_wouldGive_97 : decode cX4_wouldGive 97 = .ok (.iaload, 1) := by decide +kernel
theorem dX4_wouldGive_98 : decode cX4_wouldGive 98 = .ok (.invokevirtual 84, 3) := by decide +kernel
theorem dX4_wouldGive_101 : decode cX4_wouldGive 101 = .ok (.ifCond .ne 33, 3) := by decide +kernel
theorem dX4_wouldGive_104 : decode cX4_wouldGive 104 = .ok (.aload_n 0, 1) := by decide +kernel
theorem dX4_wouldGive_105 : decode cX4_wouldGive 105 = .ok (.iload_n 1, 1) := by decide +kernel
theorem dX4_wouldGive_106 : decode cX4_wouldGive 106 = .ok (.aload_n 0, 1) := by decide +kernel
theorem dX4_wouldGive_107 : decode cX4_wouldGive 107 = .ok (.getfield 18, 3) := by decide +kernel
theorem dX4_wouldGive_110 : decode cX4_wouldGive 110 = .ok (.iload 6, 2) := by decide +kernel
theorem dX4_wouldGive_112 : decode cX4_wouldGive 112 = .ok (.iaload, 1) := by decide +kernel
theorem dX4_wouldGive_113 : decode cX4_wouldGive 113 = .ok (.invokevirtual 84, 3) := by decide +kernel
theorem dX4_wouldGive_116 : decode cX4_wouldGive 116 = .ok (.ifCond .ne 18, 3) := by decide +kernel
theorem dX4_wouldGive_119 : decode cX4_wouldGive 119 = .ok (.aload_n 0, 1) := by decide +kernel
theorem dX4_wouldGive_120 : decode cX4_wouldGive 120 = .ok (.iload_n 1, 1) := by decide +kernel
theorem dX4_wouldGive_121 : decode cX4_wouldGive 121 = .ok (.aload_n 0, 1) := by decide +kernel
theorem dX4_wouldGive_122 : decode cX4_wouldGive 122 = .ok (.getfield 21, 3) := by decide +kernel
theorem dX4_wouldGive_125 : decode cX4_wouldGive 125 = .ok (.iload 6, 2) := by decide +kernel
theorem dX4_wouldGive_127 : decode cX4_wouldGive 127 = .ok (.iaload, 1) := by decide +kernel
theorem dX4_wouldGive_128 : decode cX4_wouldGive 128 = .ok (.invokevirtual 84, 3) := by decide +kernel
theorem dX4_wouldGive_131 : decode cX4_wouldGive 131 = .ok (.ifCond .eq 5, 3) := by decide +kernel
theorem dX4_wouldGive_134 : decode cX4_wouldGive 134 = .ok (.iconst 1, 1) := by decide +kernel
theorem dX4_wouldGive_135 : decode cX4_wouldGive 135 = .ok (.ireturn, 1) := by decide +kernel
theorem dX4_wouldGive_136 : decode cX4_wouldGive 136 = .ok (.iinc 5 1, 3) := by decide +kernel
theorem dX4_wouldGive_139 : decode cX4_wouldGive 139 = .ok (.goto (-75), 3) := by decide +kernel
theorem dX4_wouldGive_142 : decode cX4_wouldGive 142 = .ok (.iconst 0, 1) := by decide +kernel
theorem dX4_wouldGive_143 : decode cX4_wouldGive 143 = .ok (.ireturn, 1) := by decide +kernel
theorem dX4_follow_0 : decode cX4_follow 0 = .ok (.iload_n 2, 1) := by decide +kernel
theorem dX4_follow_1 : decode cX4_follow 1 = .ok (.invokestatic 55, 3) := by decide +kernel
theorem dX4_follow_4 : decode cX4_follow 4 = .ok (.ifCond .ne 10, 3) := by decide +kernel
theorem dX4_follow_7 : decode cX4_follow 7 = .ok (.aload_n 0, 1) := by decide +kernel
theorem dX4_follow_8 : decode cX4_follow 8 = .ok (.iload_n 1, 1) := by decide +kernel
theorem dX4_follow_9 : decode cX4_follow 9 = .ok (.iload_n 2, 1) := by decide +kernel
theorem dX4_follow_10 : decode cX4_follow 10 = .ok (.invokevirtual 88, 3) := by decide +kernel
theorem dX4_follow_13 : decode cX4_follow 13 = .ok (.ireturn, 1) := by decide +kernel
theorem dX4_follow_14 : decode cX4_follow 14 = .ok (.aload_n 0, 1) := by decide +kernel
theorem dX4_follow_15 : decode cX4_follow 15 = .ok (.iload_n 1, 1) := by decide +kernel
theorem dX4_follow_16 : decode cX4_follow 16 = .ok (.iload_n 2, 1) := by decide +kernel
theorem dX4_follow_17 : decode cX4_follow 17 = .ok (.invokestatic 74, 3) := by decide +kernel
theorem dX4_follow_20 : decode cX4_follow 20 = .ok (.invokevirtual 88, 3) := by decide +kernel
theorem dX4_follow_23 : decode cX4_follow 23 = .ok (.ifCond .ne 34, 3) := by decide +kernel
theorem dX4_follow_26 : decode cX4_follow 26 = .ok (.aload_n 0, 1) := by decide +kernel
theorem dX4_follow_27 : decode cX4_follow 27 = .ok (.iload_n 1, 1) := by decide +kernel
theorem dX4_follow_28 : decode cX4_follow 28 = .ok (.iload_n 2, 1) := by decide +kernel
theorem dX4_follow_29 : decode cX4_follow 29 = .ok (.invokestatic 77, 3) := by decide +kernel
theorem dX4_follow_32 : decode cX4_follow 32 = .ok (.invokevirtual 88, 3) := by decide +kernel
theorem dX4_follow_35 : decode cX4_follow 35 = .ok (.ifCond .ne 22, 3) := by decide +kernel
theorem dX4_follow_38 : decode cX4_follow 38 = .ok (.iload_n 2, 1) := by decide +kernel
theorem dX4_follow_39 : decode cX4_follow 39 = .ok (.invokestatic 65, 3) := by decide +kernel
theorem dX4_follow_42 : decode cX4_follow 42 = .ok (.ifCond .eq 19, 3) := by decide +kernel
theorem dX4_follow_45 : decode cX4_follow 45 = .ok (.aload_n 0, 1) := by decide +kernel
theorem dX4_follow_46 : decode cX4_follow 46 = .ok (.iload_n 1, 1) := by decide +kernel
theorem dX4_follow_47 : decode cX4_follow 47 = .ok (.iload_n 2, 1) := by decide +kernel
theorem dX4_follow_48 : decode cX4_follow 48 = .ok (.invokestatic 71, 3) := by decide +kernel
theorem dX4_follow_51 : decode cX4_follow 51 = .ok (.invokevirtual 88, 3) := by decide +kernel
theorem dX4_follow_54 : decode cX4_follow 54 = .ok (.ifCond .eq 7, 3) := by decide +kernel
theorem dX4_follow_57 : decode cX4_follow 57 = .ok (.iconst 1, 1) := by decide +kernel
theorem dX4_follow_58 : decode cX4_follow 58 = .ok (.goto 4, 3) := by decide +kernel
theorem dX4_follow_61 : decode cX4_follow 61 = .ok (.iconst 0, 1) := by decide +kernel
theorem dX4_follow_62 : decode cX4_follow 62 = .ok (.ireturn, 1) := by decide +kernel
theorem dX4_meet_0 : decode cX4_meet 0 = .ok (.iload_n 2, 1) := by decide +kernel
theorem dX4_meet_1 : decode cX4_meet 1 = .ok (.iload_n 1, 1) := by decide +kernel
theorem dX4_meet_2 : decode cX4_meet 2 = .ok (.if_icmp .ne 5, 3) := by decide +kernel
theorem dX4_meet_5 : decode cX4_meet 5 = .ok (.iconst 1, 1) := by decide +kernel
theorem dX4_meet_6 : decode cX4_meet 6 = .ok (.ireturn, 1) := by decide +kernel
theorem dX4_meet_7 : decode cX4_meet 7 = .ok (.aload_n 0, 1) := by decide +kernel
theorem dX4_meet_8 : decode cX4_meet 8 = .ok (.iload_n 2, 1) := by decide +kernel
theorem dX4_meet_9 : decode cX4_meet 9 = .ok (.invokevirtual 44, 3) := by decide +kernel
theorem dX4_meet_12 : decode cX4_meet 12 = .ok (.istore_n 3, 1) := by decide +kernel
theorem dX4_meet_13 : decode cX4_meet 13 = .ok (.iload_n 3, 1) := by decide +kernel
theorem dX4_meet_14 : decode cX4_meet 14 = .ok (.ifCond .lt 48, 3) := by decide +kernel
theorem dX4_meet_17 : decode cX4_meet 17 = .ok (.aload_n 0, 1) := by decide +kernel
theorem dX4_meet_18 : decode cX4_meet 18 = .ok (.getfield 38, 3) := by decide +kernel
theorem dX4_meet_21 : decode cX4_meet 21 = .ok (.iload_n 3, 1) := by decide +kernel
theorem dX4_meet_22 : decode cX4_meet 22 = .ok (.baload, 1) := by decide +kernel
theorem dX4_meet_23 : decode cX4_meet 23 = .ok (.ifCond .ne 39, 3) := by decide +kernel
theorem dX4_meet_26 : decode cX4_meet 26 = .ok (.aload_n 0, 1) := by decide +kernel
theorem dX4_meet_27 : decode cX4_meet 27 = .ok (.getfield 41, 3) := by decide +kernel
theorem dX4_meet_30 : decode cX4_meet 30 = .ok (.bipush 120, 2) := by decide +kernel
theorem dX4_meet_32 : decode cX4_meet 32 = .ok (.if_icmp .ge 30, 3) := by decide +kernel
theorem dX4_meet_35 : decode cX4_meet 35 = .ok (.aload_n 0, 1) := by decide +kernel
theorem dX4_meet_36 : decode cX4_meet 36 = .ok (.getfield 38, 3) := by decide +kernel
theorem dX4_meet_39 : decode cX4_meet 39 = .ok (.iload_n 3, 1) := by decide +kernel
theorem dX4_meet_40 : decode cX4_meet 40 = .ok (.iconst 1, 1) := by decide +kernel
theorem dX4_meet_41 : decode cX4_meet 41 = .ok (.bastore, 1) := by decide +kernel
theorem dX4_meet_42 : decode cX4_meet 42 = .ok (.aload_n 0, 1) := by decide +kernel
theorem dX4_meet_43 : decode cX4_meet 43 = .ok (.getfield 35, 3) := by decide +kernel
theorem dX4_meet_46 : decode cX4_meet 46 = .ok (.aload_n 0, 1) := by decide +kernel
theorem dX4_meet_47 : decode cX4_meet 47 = .ok (.getfield 41, 3) := by decide +kernel
theorem dX4_meet_50 : decode cX4_meet 50 = .ok (.iload_n 3, 1) := by decide +kernel
theorem dX4_meet_51 : decode cX4_meet 51 = .ok (.iastore, 1) := by decide +kernel
theorem dX4_meet_52 : decode cX4_meet 52 = .ok (.aload_n 0, 1) := by decide +kernel
theorem dX4_meet_53 : decode cX4_meet 53 = .ok (.dup, 1) := by decide +kernel
theorem dX4_meet_54 : decode cX4_meet 54 = .ok (.getfield 41, 3) := by decide +kernel
theorem dX4_meet_57 : decode cX4_meet 57 = .ok (.iconst 1, 1) := by decide +kernel
theorem dX4_meet_58 : decode cX4_meet 58 = .ok (.iadd, 1) := by decide +kernel
theorem dX4_meet_59 : decode cX4_meet 59 = .ok (.putfield 41, 3) := by decide +kernel
theorem dX4_meet_62 : decode cX4_meet 62 = .ok (.iconst 0, 1) := by decide +kernel
theorem dX4_meet_63 : decode cX4_meet 63 = .ok (.ireturn, 1) := by decide +kernel
theorem dX5_has_0 : decode cX5_has 0 = .ok (.iload_n 0, 1) := by decide +kernel
theorem dX5_has_1 : decode cX5_has 1 = .ok (.ldc 11, 2) := by decide +kernel
theorem dX5_has_3 : decode cX5_has 3 = .ok (.if_icmp .lt 13, 3) := by decide +kernel
theorem dX5_has_6 : decode cX5_has 6 = .ok (.iload_n 0, 1) := by decide +kernel
theorem dX5_has_7 : decode cX5_has 7 = .ok (.ldc 12, 2) := by decide +kernel
theorem dX5_has_9 : decode cX5_has 9 = .ok (.if_icmp .gt 7, 3) := by decide +kernel
theorem dX5_has_12 : decode cX5_has 12 = .ok (.iconst 1, 1) := by decide +kernel
theorem dX5_has_13 : decode cX5_has 13 = .ok (.goto 4, 3) := by decide +kernel
theorem dX5_has_16 : decode cX5_has 16 = .ok (.iconst 0, 1) := by decide +kernel
theorem dX5_has_17 : decode cX5_has 17 = .ok (.ireturn, 1) := by decide +kernel
theorem dX5_hasTail_0 : decode cX5_hasTail 0 = .ok (.iload_n 0, 1) := by decide +kernel
theorem dX5_hasTail_1 : decode cX5_hasTail 1 = .ok (.ldc 11, 2) := by decide +kernel
theorem dX5_hasTail_3 : decode cX5_hasTail 3 = .ok (.isub, 1) := by decide +kernel
theorem dX5_hasTail_4 : decode cX5_hasTail 4 = .ok (.bipush 28, 2) := by decide +kernel
theorem dX5_hasTail_6 : decode cX5_hasTail 6 = .ok (.irem, 1) := by decide +kernel
theorem dX5_hasTail_7 : decode cX5_hasTail 7 = .ok (.ifCond .eq 7, 3) := by decide +kernel
theorem dX5_hasTail_10 : decode cX5_hasTail 10 = .ok (.iconst 1, 1) := by decide +kernel
theorem dX5_hasTail_11 : decode cX5_hasTail 11 = .ok (.goto 4, 3) := by decide +kernel
theorem dX5_hasTail_14 : decode cX5_hasTail 14 = .ok (.iconst 0, 1) := by decide +kernel
theorem dX5_hasTail_15 : decode cX5_hasTail 15 = .ok (.ireturn, 1) := by decide +kernel
theorem dX5_withoutTail_0 : decode cX5_withoutTail 0 = .ok (.iload_n 0, 1) := by decide +kernel
theorem dX5_withoutTail_1 : decode cX5_withoutTail 1 = .ok (.iload_n 0, 1) := by decide +kernel
theorem dX5_withoutTail_2 : decode cX5_withoutTail 2 = .ok (.ldc 11, 2) := by decide +kernel
theorem dX5_withoutTail_4 : decode cX5_withoutTail 4 = .ok (.isub, 1) := by decide +kernel
theorem dX5_withoutTail_5 : decode cX5_withoutTail 5 = .ok (.bipush 28, 2) := by decide +kernel
theorem dX5_withoutTail_7 : decode cX5_withoutTail 7 = .ok (.irem, 1) := by decide +kernel
theorem dX5_withoutTail_8 : decode cX5_withoutTail 8 = .ok (.isub, 1) := by decide +kernel
theorem dX5_withoutTail_9 : decode cX5_withoutTail 9 = .ok (.ireturn, 1) := by decide +kernel
theorem dX5_lead_0 : decode cX5_lead 0 = .ok (.sipush 4352, 3) := by decide +kernel
theorem dX5_lead_3 : decode cX5_lead 3 = .ok (.iload_n 0, 1) := by decide +kernel
theorem dX5_lead_4 : decode cX5_lead 4 = .ok (.ldc 11, 2) := by decide +kernel
theorem dX5_lead_6 : decode cX5_lead 6 = .ok (.isub, 1) := by decide +kernel
theorem dX5_lead_7 : decode cX5_lead 7 = .ok (.sipush 588, 3) := by decide +kernel
theorem dX5_lead_10 : decode cX5_lead 10 = .ok (.idiv, 1) := by decide +kernel
theorem dX5_lead_11 : decode cX5_lead 11 = .ok (.iadd, 1) := by decide +kernel
theorem dX5_lead_12 : decode cX5_lead 12 = .ok (.ireturn, 1) := by decide +kernel
theorem dX5_vowel_0 : decode cX5_vowel 0 = .ok (.sipush 4449, 3) := by decide +kernel
theorem dX5_vowel_3 : decode cX5_vowel 3 = .ok (.iload_n 0, 1) := by decide +kernel
theorem dX5_vowel_4 : decode cX5_vowel 4 = .ok (.ldc 11, 2) := by decide +kernel
theorem dX5_vowel_6 : decode cX5_vowel 6 = .ok (.isub, 1) := by decide +kernel
theorem dX5_vowel_7 : decode cX5_vowel 7 = .ok (.bipush 28, 2) := by decide +kernel
theorem dX5_vowel_9 : decode cX5_vowel 9 = .ok (.idiv, 1) := by decide +kernel
theorem dX5_vowel_10 : decode cX5_vowel 10 = .ok (.bipush 21, 2) := by decide +kernel
theorem dX5_vowel_12 : decode cX5_vowel 12 = .ok (.irem, 1) := by decide +kernel
theorem dX5_vowel_13 : decode cX5_vowel 13 = .ok (.iadd, 1) := by decide +kernel
theorem dX5_vowel_14 : decode cX5_vowel 14 = .ok (.ireturn, 1) := by decide +kernel
theorem dX5_tail_0 : decode cX5_tail 0 = .ok (.sipush 4519, 3) := by decide +kernel
theorem dX5_tail_3 : decode cX5_tail 3 = .ok (.iload_n 0, 1) := by decide +kernel
theorem dX5_tail_4 : decode cX5_tail 4 = .ok (.ldc 11, 2) := by decide +kernel
theorem dX5_tail_6 : decode cX5_tail 6 = .ok (.isub, 1) := by decide +kernel
theorem dX5_tail_7 : decode cX5_tail 7 = .ok (.bipush 28, 2) := by decide +kernel
theorem dX5_tail_9 : decode cX5_tail 9 = .ok (.irem, 1) := by decide +kernel
theorem dX5_tail_10 : decode cX5_tail 10 = .ok (.iadd, 1) := by decide +kernel
theorem dX5_tail_11 : decode cX5_tail 11 = .ok (.ireturn, 1) := by decide +kernel
theorem dX5_whole_0 : decode cX5_whole 0 = .ok (.iload_n 0, 1) := by decide +kernel
theorem dX5_whole_1 : decode cX5_whole 1 = .ok (.sipush 4352, 3) := by decide +kernel
theorem dX5_whole_4 : decode cX5_whole 4 = .ok (.isub, 1) := by decide +kernel
theorem dX5_whole_5 : decode cX5_whole 5 = .ok (.istore_n 2, 1) := by decide +kernel
theorem dX5_whole_6 : decode cX5_whole 6 = .ok (.iload_n 1, 1) := by decide +kernel
theorem dX5_whole_7 : decode cX5_whole 7 = .ok (.sipush 4449, 3) := by decide +kernel
theorem dX5_whole_10 : decode cX5_whole 10 = .ok (.isub, 1) := by decide +kernel
theorem dX5_whole_11 : decode cX5_whole 11 = .ok (.istore_n 3, 1) := by decide +kernel
theorem dX5_whole_12 : decode cX5_whole 12 = .ok (.iload_n 2, 1) := by decide +kernel
theorem dX5_whole_13 : decode cX5_whole 13 = .ok (.ifCond .lt 32, 3) := by decide +kernel
theorem dX5_whole_16 : decode cX5_whole 16 = .ok (.iload_n 2, 1) := by decide +kernel
theorem dX5_whole_17 : decode cX5_whole 17 = .ok (.bipush 19, 2) := by decide +kernel
theorem dX5_whole_19 : decode cX5_whole 19 = .ok (.if_icmp .ge 26, 3) := by decide +kernel
theorem dX5_whole_22 : decode cX5_whole 22 = .ok (.iload_n 3, 1) := by decide +kernel
theorem dX5_whole_23 : decode cX5_whole 23 = .ok (.ifCond .lt 22, 3) := by decide +kernel
theorem dX5_whole_26 : decode cX5_whole 26 = .ok (.iload_n 3, 1) := by decide +kernel
theorem dX5_whole_27 : decode cX5_whole 27 = .ok (.bipush 21, 2) := by decide +kernel
theorem dX5_whole_29 : decode cX5_whole 29 = .ok (.if_icmp .ge 16, 3) := by decide +kernel
theorem dX5_whole_32 : decode cX5_whole 32 = .ok (.ldc 11, 2) := by decide +kernel
theorem dX5_whole_34 : decode cX5_whole 34 = .ok (.iload_n 2, 1) := by decide +kernel
theorem dX5_whole_35 : decode cX5_whole 35 = .ok (.bipush 21, 2) := by decide +kernel
theorem dX5_whole_37 : decode cX5_whole 37 = .ok (.imul, 1) := by decide +kernel
theorem dX5_whole_38 : decode cX5_whole 38 = .ok (.iload_n 3, 1) := by decide +kernel
theorem dX5_whole_39 : decode cX5_whole 39 = .ok (.iadd, 1) := by decide +kernel
theorem dX5_whole_40 : decode cX5_whole 40 = .ok (.bipush 28, 2) := by decide +kernel
theorem dX5_whole_42 : decode cX5_whole 42 = .ok (.imul, 1) := by decide +kernel
theorem dX5_whole_43 : decode cX5_whole 43 = .ok (.iadd, 1) := by decide +kernel
theorem dX5_whole_44 : decode cX5_whole 44 = .ok (.ireturn, 1) := by decide +kernel
theorem dX5_whole_45 : decode cX5_whole 45 = .ok (.iload_n 1, 1) := by decide +kernel
theorem dX5_whole_46 : decode cX5_whole 46 = .ok (.sipush 4519, 3) := by decide +kernel
theorem dX5_whole_49 : decode cX5_whole 49 = .ok (.isub, 1) := by decide +kernel
theorem dX5_whole_50 : decode cX5_whole 50 = .ok (.istore 4, 2) := by decide +kernel
theorem dX5_whole_52 : decode cX5_whole 52 = .ok (.iload_n 0, 1) := by decide +kernel
theorem dX5_whole_53 : decode cX5_whole 53 = .ok (.invokestatic 13, 3) := by decide +kernel
theorem dX5_whole_56 : decode cX5_whole 56 = .ok (.ifCond .eq 27, 3) := by decide +kernel
theorem dX5_whole_59 : decode cX5_whole 59 = .ok (.iload_n 0, 1) := by decide +kernel
theorem dX5_whole_60 : decode cX5_whole 60 = .ok (.invokestatic 17, 3) := by decide +kernel
theorem dX5_whole_63 : decode cX5_whole 63 = .ok (.ifCond .ne 20, 3) := by decide +kernel
theorem dX5_whole_66 : decode cX5_whole 66 = .ok (.iload 4, 2) := by decide +kernel
theorem dX5_whole_68 : decode cX5_whole 68 = .ok (.ifCond .le 15, 3) := by decide +kernel
theorem dX5_whole_71 : decode cX5_whole 71 = .ok (.iload 4, 2) := by decide +kernel
theorem dX5_whole_73 : decode cX5_whole 73 = .ok (.bipush 28, 2) := by decide +kernel
theorem dX5_whole_75 : decode cX5_whole 75 = .ok (.if_icmp .ge 8, 3) := by decide +kernel
theorem dX5_whole_78 : decode cX5_whole 78 = .ok (.iload_n 0, 1) := by decide +kernel
theorem dX5_whole_79 : decode cX5_whole 79 = .ok (.iload 4, 2) := by decide +kernel
theorem dX5_whole_81 : decode cX5_whole 81 = .ok (.iadd, 1) := by decide +kernel
theorem dX5_whole_82 : decode cX5_whole 82 = .ok (.ireturn, 1) := by decide +kernel
theorem dX5_whole_83 : decode cX5_whole 83 = .ok (.iconst (-1), 1) := by decide +kernel
theorem dX5_whole_84 : decode cX5_whole 84 = .ok (.ireturn, 1) := by decide +kernel

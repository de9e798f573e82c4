theorem dL_mark_0 : decode cL_mark 0 = .ok (.aload_n 0, 1) := by decide +kernel
theorem dL_mark_1 : decode cL_mark 1 = .ok (.iload_n 1, 1) := by decide +kernel
theorem dL_mark_2 : decode cL_mark 2 = .ok (.iload_n 2, 1) := by decide +kernel
theorem dL_mark_3 : decode cL_mark 3 = .ok (.iload_n 3, 1) := by decide +kernel
theorem dL_mark_4 : decode cL_mark 4 = .ok (.invokevirtual 7, 3) := by decide +kernel
theorem dL_mark_7 : decode cL_mark 7 = .ok (.goto 11, 3) := by decide +kernel
theorem dL_mark_10 : decode cL_mark 10 = .ok (.astore 4, 2) := by decide +kernel
theorem dL_mark_12 : decode cL_mark 12 = .ok (.iconst 1, 1) := by decide +kernel
theorem dL_mark_13 : decode cL_mark 13 = .ok (.ireturn, 1) := by decide +kernel
theorem dL_mark_14 : decode cL_mark 14 = .ok (.astore 4, 2) := by decide +kernel
theorem dL_mark_16 : decode cL_mark 16 = .ok (.iconst 2, 1) := by decide +kernel
theorem dL_mark_17 : decode cL_mark 17 = .ok (.ireturn, 1) := by decide +kernel
theorem dL_mark_18 : decode cL_mark 18 = .ok (.iconst 0, 1) := by decide +kernel
theorem dL_mark_19 : decode cL_mark 19 = .ok (.ireturn, 1) := by decide +kernel
theorem dL_property_0 : decode cL_property 0 = .ok (.aload_n 0, 1) := by decide +kernel
theorem dL_property_1 : decode cL_property 1 = .ok (.iload_n 1, 1) := by decide +kernel
theorem dL_property_2 : decode cL_property 2 = .ok (.iload_n 2, 1) := by decide +kernel
theorem dL_property_3 : decode cL_property 3 = .ok (.iload_n 3, 1) := by decide +kernel
theorem dL_property_4 : decode cL_property 4 = .ok (.invokevirtual 17, 3) := by decide +kernel
theorem dL_property_7 : decode cL_property 7 = .ok (.goto 11, 3) := by decide +kernel
theorem dL_property_10 : decode cL_property 10 = .ok (.astore 4, 2) := by decide +kernel
theorem dL_property_12 : decode cL_property 12 = .ok (.iconst 1, 1) := by decide +kernel
theorem dL_property_13 : decode cL_property 13 = .ok (.ireturn, 1) := by decide +kernel
theorem dL_property_14 : decode cL_property 14 = .ok (.astore 4, 2) := by decide +kernel
theorem dL_property_16 : decode cL_property 16 = .ok (.iconst 2, 1) := by decide +kernel
theorem dL_property_17 : decode cL_property 17 = .ok (.ireturn, 1) := by decide +kernel
theorem dL_property_18 : decode cL_property 18 = .ok (.iconst 0, 1) := by decide +kernel
theorem dL_property_19 : decode cL_property 19 = .ok (.ireturn, 1) := by decide +kernel
theorem dL_part_0 : decode cL_part 0 = .ok (.aload_n 0, 1) := by decide +kernel
theorem dL_part_1 : decode cL_part 1 = .ok (.iload_n 1, 1) := by decide +kernel
theorem dL_part_2 : decode cL_part 2 = .ok (.iload_n 2, 1) := by decide +kernel
theorem dL_part_3 : decode cL_part 3 = .ok (.iload_n 3, 1) := by decide +kernel
theorem dL_part_4 : decode cL_part 4 = .ok (.invokevirtual 20, 3) := by decide +kernel
theorem dL_part_7 : decode cL_part 7 = .ok (.goto 11, 3) := by decide +kernel
theorem dL_part_10 : decode cL_part 10 = .ok (.astore 4, 2) := by decide +kernel
theorem dL_part_12 : decode cL_part 12 = .ok (.iconst 1, 1) := by decide +kernel
theorem dL_part_13 : decode cL_part 13 = .ok (.ireturn, 1) := by decide +kernel
theorem dL_part_14 : decode cL_part 14 = .ok (.astore 4, 2) := by decide +kernel
theorem dL_part_16 : decode cL_part 16 = .ok (.iconst 2, 1) := by decide +kernel
theorem dL_part_17 : decode cL_part 17 = .ok (.ireturn, 1) := by decide +kernel
theorem dL_part_18 : decode cL_part 18 = .ok (.iconst 0, 1) := by decide +kernel
theorem dL_part_19 : decode cL_part 19 = .ok (.ireturn, 1) := by decide +kernel
theorem dL_loose_0 : decode cL_loose 0 = .ok (.aload_n 0, 1) := by decide +kernel
theorem dL_loose_1 : decode cL_loose 1 = .ok (.iload_n 1, 1) := by decide +kernel
theorem dL_loose_2 : decode cL_loose 2 = .ok (.iload_n 2, 1) := by decide +kernel
theorem dL_loose_3 : decode cL_loose 3 = .ok (.iload_n 3, 1) := by decide +kernel
theorem dL_loose_4 : decode cL_loose 4 = .ok (.iload 4, 2) := by decide +kernel
theorem dL_loose_6 : decode cL_loose 6 = .ok (.invokevirtual 23, 3) := by decide +kernel
theorem dL_loose_9 : decode cL_loose 9 = .ok (.goto 11, 3) := by decide +kernel
theorem dL_loose_12 : decode cL_loose 12 = .ok (.astore 5, 2) := by decide +kernel
theorem dL_loose_14 : decode cL_loose 14 = .ok (.iconst 1, 1) := by decide +kernel
theorem dL_loose_15 : decode cL_loose 15 = .ok (.ireturn, 1) := by decide +kernel
theorem dL_loose_16 : decode cL_loose 16 = .ok (.astore 5, 2) := by decide +kernel
theorem dL_loose_18 : decode cL_loose 18 = .ok (.iconst 2, 1) := by decide +kernel
theorem dL_loose_19 : decode cL_loose 19 = .ok (.ireturn, 1) := by decide +kernel
theorem dL_loose_20 : decode cL_loose 20 = .ok (.iconst 0, 1) := by decide +kernel
theorem dL_loose_21 : decode cL_loose 21 = .ok (.ireturn, 1) := by decide +kernel
theorem dL_exclude_0 : decode cL_exclude 0 = .ok (.aload_n 0, 1) := by decide +kernel
theorem dL_exclude_1 : decode cL_exclude 1 = .ok (.iload_n 1, 1) := by decide +kernel
theorem dL_exclude_2 : decode cL_exclude 2 = .ok (.iload_n 2, 1) := by decide +kernel
theorem dL_exclude_3 : decode cL_exclude 3 = .ok (.invokevirtual 27, 3) := by decide +kernel
theorem dL_exclude_6 : decode cL_exclude 6 = .ok (.goto 9, 3) := by decide +kernel
theorem dL_exclude_9 : decode cL_exclude 9 = .ok (.astore_n 3, 1) := by decide +kernel
theorem dL_exclude_10 : decode cL_exclude 10 = .ok (.iconst 1, 1) := by decide +kernel
theorem dL_exclude_11 : decode cL_exclude 11 = .ok (.ireturn, 1) := by decide +kernel
theorem dL_exclude_12 : decode cL_exclude 12 = .ok (.astore_n 3, 1) := by decide +kernel
theorem dL_exclude_13 : decode cL_exclude 13 = .ok (.iconst 2, 1) := by decide +kernel
theorem dL_exclude_14 : decode cL_exclude 14 = .ok (.ireturn, 1) := by decide +kernel
theorem dL_exclude_15 : decode cL_exclude 15 = .ok (.iconst 0, 1) := by decide +kernel
theorem dL_exclude_16 : decode cL_exclude 16 = .ok (.ireturn, 1) := by decide +kernel
theorem dL_add_0 : decode cL_add 0 = .ok (.aload 6, 2) := by decide +kernel
theorem dL_add_2 : decode cL_add 2 = .ok (.iconst 0, 1) := by decide +kernel
theorem dL_add_3 : decode cL_add 3 = .ok (.aload_n 0, 1) := by decide +kernel
theorem dL_add_4 : decode cL_add 4 = .ok (.iload_n 1, 1) := by decide +kernel
theorem dL_add_5 : decode cL_add 5 = .ok (.iload_n 2, 1) := by decide +kernel
theorem dL_add_6 : decode cL_add 6 = .ok (.iload_n 3, 1) := by decide +kernel
theorem dL_add_7 : decode cL_add 7 = .ok (.iload 4, 2) := by decide +kernel
theorem dL_add_9 : decode cL_add 9 = .ok (.iload 5, 2) := by decide +kernel
theorem dL_add_11 : decode cL_add 11 = .ok (.invokevirtual 31, 3) := by decide +kernel
theorem dL_add_14 : decode cL_add 14 = .ok (.i2l, 1) := by decide +kernel
theorem dL_add_15 : decode cL_add 15 = .ok (.lastore, 1) := by decide +kernel
theorem dL_add_16 : decode cL_add 16 = .ok (.goto 11, 3) := by decide +kernel
theorem dL_add_19 : decode cL_add 19 = .ok (.astore 7, 2) := by decide +kernel
theorem dL_add_21 : decode cL_add 21 = .ok (.iconst 1, 1) := by decide +kernel
theorem dL_add_22 : decode cL_add 22 = .ok (.ireturn, 1) := by decide +kernel
theorem dL_add_23 : decode cL_add 23 = .ok (.astore 7, 2) := by decide +kernel
theorem dL_add_25 : decode cL_add 25 = .ok (.iconst 2, 1) := by decide +kernel
theorem dL_add_26 : decode cL_add 26 = .ok (.ireturn, 1) := by decide +kernel
theorem dL_add_27 : decode cL_add 27 = .ok (.iconst 0, 1) := by decide +kernel
theorem dL_add_28 : decode cL_add 28 = .ok (.ireturn, 1) := by decide +kernel
theorem dL_form_0 : decode cL_form 0 = .ok (.aload_n 2, 1) := by decide +kernel
theorem dL_form_1 : decode cL_form 1 = .ok (.iconst 0, 1) := by decide +kernel
theorem dL_form_2 : decode cL_form 2 = .ok (.aload_n 0, 1) := by decide +kernel
theorem dL_form_3 : decode cL_form 3 = .ok (.iload_n 1, 1) := by decide +kernel
theorem dL_form_4 : decode cL_form 4 = .ok (.invokevirtual 35, 3) := by decide +kernel
theorem dL_form_7 : decode cL_form 7 = .ok (.i2l, 1) := by decide +kernel
theorem dL_form_8 : decode cL_form 8 = .ok (.lastore, 1) := by decide +kernel
theorem dL_form_9 : decode cL_form 9 = .ok (.goto 9, 3) := by decide +kernel
theorem dL_form_12 : decode cL_form 12 = .ok (.astore_n 3, 1) := by decide +kernel
theorem dL_form_13 : decode cL_form 13 = .ok (.iconst 1, 1) := by decide +kernel
theorem dL_form_14 : decode cL_form 14 = .ok (.ireturn, 1) := by decide +kernel
theorem dL_form_15 : decode cL_form 15 = .ok (.astore_n 3, 1) := by decide +kernel
theorem dL_form_16 : decode cL_form 16 = .ok (.iconst 2, 1) := by decide +kernel
theorem dL_form_17 : decode cL_form 17 = .ok (.ireturn, 1) := by decide +kernel
theorem dL_form_18 : decode cL_form 18 = .ok (.iconst 0, 1) := by decide +kernel
theorem dL_form_19 : decode cL_form 19 = .ok (.ireturn, 1) := by decide +kernel
theorem dL_keep_0 : decode cL_keep 0 = .ok (.aload_n 1, 1) := by decide +kernel
theorem dL_keep_1 : decode cL_keep 1 = .ok (.iconst 0, 1) := by decide +kernel
theorem dL_keep_2 : decode cL_keep 2 = .ok (.aload_n 0, 1) := by decide +kernel
theorem dL_keep_3 : decode cL_keep 3 = .ok (.invokevirtual 39, 3) := by decide +kernel
theorem dL_keep_6 : decode cL_keep 6 = .ok (.i2l, 1) := by decide +kernel
theorem dL_keep_7 : decode cL_keep 7 = .ok (.lastore, 1) := by decide +kernel
theorem dL_keep_8 : decode cL_keep 8 = .ok (.goto 6, 3) := by decide +kernel
theorem dL_keep_11 : decode cL_keep 11 = .ok (.astore_n 2, 1) := by decide +kernel
theorem dL_keep_12 : decode cL_keep 12 = .ok (.iconst 1, 1) := by decide +kernel
theorem dL_keep_13 : decode cL_keep 13 = .ok (.ireturn, 1) := by decide +kernel
theorem dL_keep_14 : decode cL_keep 14 = .ok (.iconst 0, 1) := by decide +kernel
theorem dL_keep_15 : decode cL_keep 15 = .ok (.ireturn, 1) := by decide +kernel
theorem dL_isIn_0 : decode cL_isIn 0 = .ok (.aload_n 2, 1) := by decide +kernel
theorem dL_isIn_1 : decode cL_isIn 1 = .ok (.iconst 0, 1) := by decide +kernel
theorem dL_isIn_2 : decode cL_isIn 2 = .ok (.aload_n 0, 1) := by decide +kernel
theorem dL_isIn_3 : decode cL_isIn 3 = .ok (.iload_n 1, 1) := by decide +kernel
theorem dL_isIn_4 : decode cL_isIn 4 = .ok (.invokevirtual 43, 3) := by decide +kernel
theorem dL_isIn_7 : decode cL_isIn 7 = .ok (.ifCond .eq 7, 3) := by decide +kernel
theorem dL_isIn_10 : decode cL_isIn 10 = .ok (.lconst 1, 1) := by decide +kernel
theorem dL_isIn_11 : decode cL_isIn 11 = .ok (.goto 4, 3) := by decide +kernel
theorem dL_isIn_14 : decode cL_isIn 14 = .ok (.lconst 0, 1) := by decide +kernel
theorem dL_isIn_15 : decode cL_isIn 15 = .ok (.lastore, 1) := by decide +kernel
theorem dL_isIn_16 : decode cL_isIn 16 = .ok (.goto 9, 3) := by decide +kernel
theorem dL_isIn_19 : decode cL_isIn 19 = .ok (.astore_n 3, 1) := by decide +kernel
theorem dL_isIn_20 : decode cL_isIn 20 = .ok (.iconst 1, 1) := by decide +kernel
theorem dL_isIn_21 : decode cL_isIn 21 = .ok (.ireturn, 1) := by decide +kernel
theorem dL_isIn_22 : decode cL_isIn 22 = .ok (.astore_n 3, 1) := by decide +kernel
theorem dL_isIn_23 : decode cL_isIn 23 = .ok (.iconst 2, 1) := by decide +kernel
theorem dL_isIn_24 : decode cL_isIn 24 = .ok (.ireturn, 1) := by decide +kernel
theorem dL_isIn_25 : decode cL_isIn 25 = .ok (.iconst 0, 1) := by decide +kernel
theorem dL_isIn_26 : decode cL_isIn 26 = .ok (.ireturn, 1) := by decide +kernel
theorem dL_ends_0 : decode cL_ends 0 = .ok (.aload_n 2, 1) := by decide +kernel
theorem dL_ends_1 : decode cL_ends 1 = .ok (.iconst 0, 1) := by decide +kernel
theorem dL_ends_2 : decode cL_ends 2 = .ok (.aload_n 0, 1) := by decide +kernel
theorem dL_ends_3 : decode cL_ends 3 = .ok (.iload_n 1, 1) := by decide +kernel
theorem dL_ends_4 : decode cL_ends 4 = .ok (.invokevirtual 47, 3) := by decide +kernel
theorem dL_ends_7 : decode cL_ends 7 = .ok (.ifCond .eq 7, 3) := by decide +kernel
theorem dL_ends_10 : decode cL_ends 10 = .ok (.lconst 1, 1) := by decide +kernel
theorem dL_ends_11 : decode cL_ends 11 = .ok (.goto 4, 3) := by decide +kernel
theorem dL_ends_14 : decode cL_ends 14 = .ok (.lconst 0, 1) := by decide +kernel
theorem dL_ends_15 : decode cL_ends 15 = .ok (.lastore, 1) := by decide +kernel
theorem dL_ends_16 : decode cL_ends 16 = .ok (.goto 6, 3) := by decide +kernel
theorem dL_ends_19 : decode cL_ends 19 = .ok (.astore_n 3, 1) := by decide +kernel
theorem dL_ends_20 : decode cL_ends 20 = .ok (.iconst 1, 1) := by decide +kernel
theorem dL_ends_21 : decode cL_ends 21 = .ok (.ireturn, 1) := by decide +kernel
theorem dL_ends_22 : decode cL_ends 22 = .ok (.iconst 0, 1) := by decide +kernel
theorem dL_ends_23 : decode cL_ends 23 = .ok (.ireturn, 1) := by decide +kernel
theorem dL_rule_0 : decode cL_rule 0 = .ok (.aload_n 2, 1) := by decide +kernel
theorem dL_rule_1 : decode cL_rule 1 = .ok (.iconst 0, 1) := by decide +kernel
theorem dL_rule_2 : decode cL_rule 2 = .ok (.aload_n 0, 1) := by decide +kernel
theorem dL_rule_3 : decode cL_rule 3 = .ok (.iload_n 1, 1) := by decide +kernel
theorem dL_rule_4 : decode cL_rule 4 = .ok (.invokevirtual 52, 3) := by decide +kernel
theorem dL_rule_7 : decode cL_rule 7 = .ok (.i2l, 1) := by decide +kernel
theorem dL_rule_8 : decode cL_rule 8 = .ok (.lastore, 1) := by decide +kernel
theorem dL_rule_9 : decode cL_rule 9 = .ok (.goto 6, 3) := by decide +kernel
theorem dL_rule_12 : decode cL_rule 12 = .ok (.astore_n 3, 1) := by decide +kernel
theorem dL_rule_13 : decode cL_rule 13 = .ok (.iconst 1, 1) := by decide +kernel
theorem dL_rule_14 : decode cL_rule 14 = .ok (.ireturn, 1) := by decide +kernel
theorem dL_rule_15 : decode cL_rule 15 = .ok (.iconst 0, 1) := by decide +kernel
theorem dL_rule_16 : decode cL_rule 16 = .ok (.ireturn, 1) := by decide +kernel
theorem dL_law_0 : decode cL_law 0 = .ok (.new 8, 3) := by decide +kernel
theorem dL_law_3 : decode cL_law 3 = .ok (.dup, 1) := by decide +kernel
theorem dL_law_4 : decode cL_law 4 = .ok (.invokespecial 55, 3) := by decide +kernel
theorem dL_law_7 : decode cL_law 7 = .ok (.astore_n 1, 1) := by decide +kernel
theorem dL_law_8 : decode cL_law 8 = .ok (.new 56, 3) := by decide +kernel
theorem dL_law_11 : decode cL_law 11 = .ok (.dup, 1) := by decide +kernel
theorem dL_law_12 : decode cL_law 12 = .ok (.invokespecial 58, 3) := by decide +kernel
theorem dL_law_15 : decode cL_law 15 = .ok (.astore_n 2, 1) := by decide +kernel
theorem dL_law_16 : decode cL_law 16 = .ok (.iconst 1, 1) := by decide +kernel
theorem dL_law_17 : decode cL_law 17 = .ok (.newarray .long, 2) := by decide +kernel
theorem dL_law_19 : decode cL_law 19 = .ok (.astore_n 3, 1) := by decide +kernel
theorem dL_law_20 : decode cL_law 20 = .ok (.iconst 0, 1) := by decide +kernel
theorem dL_law_21 : decode cL_law 21 = .ok (.istore 4, 2) := by decide +kernel
theorem dL_law_23 : decode cL_law 23 = .ok (.iload 4, 2) := by decide +kernel
theorem dL_law_25 : decode cL_law 25 = .ok (.aload_n 0, 1) := by decide +kernel
theorem dL_law_26 : decode cL_law 26 = .ok (.arraylength, 1) := by decide +kernel
theorem dL_law_27 : decode cL_law 27 = .ok (.bipush 6, 2) := by decide +kernel
theorem dL_law_29 : decode cL_law 29 = .ok (.isub, 1) := by decide +kernel
theorem dL_law_30 : decode cL_law 30 = .ok (.if_icmp .gt 841, 3) := by decide +kernel
theorem dL_law_33 : decode cL_law 33 = .ok (.aload_n 0, 1) := by decide +kernel
theorem dL_law_34 : decode cL_law 34 = .ok (.iload 4, 2) := by decide +kernel
theorem dL_law_36 : decode cL_law 36 = .ok (.iaload, 1) := by decide +kernel
theorem dL_law_37 : decode cL_law 37 = .ok (.bipush 15, 2) := by decide +kernel
theorem dL_law_39 : decode cL_law 39 = .ok (.iand, 1) := by decide +kernel
theorem dL_law_40 : decode cL_law 40 = .ok (.tableswitch 825 0 13 #[72, 132, 192, 252, 324, 388, 492, 505, 561, 586, 630, 693, 756, 812], 72) := by decide +kernel
theorem dL_law_112 : decode cL_law 112 = .ok (.aload_n 1, 1) := by decide +kernel
theorem dL_law_113 : decode cL_law 113 = .ok (.aload_n 0, 1) := by decide +kernel
theorem dL_law_114 : decode cL_law 114 = .ok (.iload 4, 2) := by decide +kernel
theorem dL_law_116 : decode cL_law 116 = .ok (.iconst 1, 1) := by decide +kernel
theorem dL_law_117 : decode cL_law 117 = .ok (.iadd, 1) := by decide +kernel
theorem dL_law_118 : decode cL_law 118 = .ok (.iaload, 1) := by decide +kernel
theorem dL_law_119 : decode cL_law 119 = .ok (.aload_n 0, 1) := by decide +kernel
theorem dL_law_120 : decode cL_law 120 = .ok (.iload 4, 2) := by decide +kernel
theorem dL_law_122 : decode cL_law 122 = .ok (.iconst 2, 1) := by decide +kernel
theorem dL_law_123 : decode cL_law 123 = .ok (.iadd, 1) := by decide +kernel
theorem dL_law_124 : decode cL_law 124 = .ok (.iaload, 1) := by decide +kernel
theorem dL_law_125 : decode cL_law 125 = .ok (.aload_n 0, 1) := by decide +kernel
theorem dL_law_126 : decode cL_law 126 = .ok (.iload 4, 2) := by decide +kernel
theorem dL_law_128 : decode cL_law 128 = .ok (.iconst 3, 1) := by decide +kernel
theorem dL_law_129 : decode cL_law 129 = .ok (.iadd, 1) := by decide +kernel
theorem dL_law_130 : decode cL_law 130 = .ok (.iaload, 1) := by decide +kernel
theorem dL_law_131 : decode cL_law 131 = .ok (.invokestatic 59, 3) := by decide +kernel
theorem dL_law_134 : decode cL_law 134 = .ok (.istore 5, 2) := by decide +kernel
theorem dL_law_136 : decode cL_law 136 = .ok (.aload_n 2, 1) := by decide +kernel
theorem dL_law_137 : decode cL_law 137 = .ok (.aload_n 0, 1) := by decide +kernel
theorem dL_law_138 : decode cL_law 138 = .ok (.iload 4, 2) := by decide +kernel
theorem dL_law_140 : decode cL_law 140 = .ok (.iconst 1, 1) := by decide +kernel
theorem dL_law_141 : decode cL_law 141 = .ok (.iadd, 1) := by decide +kernel
theorem dL_law_142 : decode cL_law 142 = .ok (.iaload, 1) := by decide +kernel
theorem dL_law_143 : decode cL_law 143 = .ok (.aload_n 0, 1) := by decide +kernel
theorem dL_law_144 : decode cL_law 144 = .ok (.iload 4, 2) := by decide +kernel
theorem dL_law_146 : decode cL_law 146 = .ok (.iconst 2, 1) := by decide +kernel
theorem dL_law_147 : decode cL_law 147 = .ok (.iadd, 1) := by decide +kernel
theorem dL_law_148 : decode cL_law 148 = .ok (.iaload, 1) := by decide +kernel
theorem dL_law_149 : decode cL_law 149 = .ok (.aload_n 0, 1) := by decide +kernel
theorem dL_law_150 : decode cL_law 150 = .ok (.iload 4, 2) := by decide +kernel
theorem dL_law_152 : decode cL_law 152 = .ok (.iconst 3, 1) := by decide +kernel
theorem dL_law_153 : decode cL_law 153 = .ok (.iadd, 1) := by decide +kernel
theorem dL_law_154 : decode cL_law 154 = .ok (.iaload, 1) := by decide +kernel
theorem dL_law_155 : decode cL_law 155 = .ok (.invokevirtual 64, 3) := by decide +kernel
theorem dL_law_158 : decode cL_law 158 = .ok (.aload_n 2, 1) := by decide +kernel
theorem dL_law_159 : decode cL_law 159 = .ok (.invokevirtual 65, 3) := by decide +kernel
theorem dL_law_162 : decode cL_law 162 = .ok (.iload 5, 2) := by decide +kernel
theorem dL_law_164 : decode cL_law 164 = .ok (.if_icmp .eq 5, 3) := by decide +kernel
theorem dL_law_167 : decode cL_law 167 = .ok (.iconst 0, 1) := by decide +kernel
theorem dL_law_168 : decode cL_law 168 = .ok (.ireturn, 1) := by decide +kernel
theorem dL_law_169 : decode cL_law 169 = .ok (.goto 696, 3) := by decide +kernel
theorem dL_law_172 : decode cL_law 172 = .ok (.aload_n 1, 1) := by decide +kernel
theorem dL_law_173 : decode cL_law 173 = .ok (.aload_n 0, 1) := by decide +kernel
theorem dL_law_174 : decode cL_law 174 = .ok (.iload 4, 2) := by decide +kernel
theorem dL_law_176 : decode cL_law 176 = .ok (.iconst 1, 1) := by decide +kernel
theorem dL_law_177 : decode cL_law 177 = .ok (.iadd, 1) := by decide +kernel
theorem dL_law_178 : decode cL_law 178 = .ok (.iaload, 1) := by decide +kernel
theorem dL_law_179 : decode cL_law 179 = .ok (.aload_n 0, 1) := by decide +kernel

theorem dX10_goesHour_138 : decode cX10_goesHour 138 = .ok (.goto 19, 3) := by decide +kernel
theorem dX10_goesHour_141 : decode cX10_goesHour 141 = .ok (.aload_n 0, 1) := by decide +kernel
theorem dX10_goesHour_142 : decode cX10_goesHour 142 = .ok (.getfield 13, 3) := by decide +kernel
theorem dX10_goesHour_145 : decode cX10_goesHour 145 = .ok (.iload 4, 2) := by decide +kernel
theorem dX10_goesHour_147 : decode cX10_goesHour 147 = .ok (.iaload, 1) := by decide +kernel
theorem dX10_goesHour_148 : decode cX10_goesHour 148 = .ok (.iconst 3, 1) := by decide +kernel
theorem dX10_goesHour_149 : decode cX10_goesHour 149 = .ok (.if_icmp .ne 7, 3) := by decide +kernel
theorem dX10_goesHour_152 : decode cX10_goesHour 152 = .ok (.iconst 3, 1) := by decide +kernel
theorem dX10_goesHour_153 : decode cX10_goesHour 153 = .ok (.goto 4, 3) := by decide +kernel
theorem dX10_goesHour_156 : decode cX10_goesHour 156 = .ok (.iconst 1, 1) := by decide +kernel
theorem dX10_goesHour_157 : decode cX10_goesHour 157 = .ok (.iastore, 1) := by decide +kernel
theorem dX10_goesHour_158 : decode cX10_goesHour 158 = .ok (.aload_n 0, 1) := by decide +kernel
theorem dX10_goesHour_159 : decode cX10_goesHour 159 = .ok (.getfield 25, 3) := by decide +kernel
theorem dX10_goesHour_162 : decode cX10_goesHour 162 = .ok (.iload 4, 2) := by decide +kernel
theorem dX10_goesHour_164 : decode cX10_goesHour 164 = .ok (.iaload, 1) := by decide +kernel
theorem dX10_goesHour_165 : decode cX10_goesHour 165 = .ok (.ifCond .ne 20, 3) := by decide +kernel
theorem dX10_goesHour_168 : decode cX10_goesHour 168 = .ok (.aload_n 0, 1) := by decide +kernel
theorem dX10_goesHour_169 : decode cX10_goesHour 169 = .ok (.iload 4, 2) := by decide +kernel
theorem dX10_goesHour_171 : decode cX10_goesHour 171 = .ok (.invokevirtual 186, 3) := by decide +kernel
theorem dX10_goesHour_174 : decode cX10_goesHour 174 = .ok (.ifCond .eq 11, 3) := by decide +kernel
theorem dX10_goesHour_177 : decode cX10_goesHour 177 = .ok (.aload_n 0, 1) := by decide +kernel
theorem dX10_goesHour_178 : decode cX10_goesHour 178 = .ok (.getfield 25, 3) := by decide +kernel
theorem dX10_goesHour_181 : decode cX10_goesHour 181 = .ok (.iload 4, 2) := by decide +kernel
theorem dX10_goesHour_183 : decode cX10_goesHour 183 = .ok (.iconst 3, 1) := by decide +kernel
theorem dX10_goesHour_184 : decode cX10_goesHour 184 = .ok (.iastore, 1) := by decide +kernel
theorem dX10_goesHour_185 : decode cX10_goesHour 185 = .ok (.iload_n 3, 1) := by decide +kernel
theorem dX10_goesHour_186 : decode cX10_goesHour 186 = .ok (.aload_n 0, 1) := by decide +kernel
theorem dX10_goesHour_187 : decode cX10_goesHour 187 = .ok (.getfield 25, 3) := by decide +kernel
theorem dX10_goesHour_190 : decode cX10_goesHour 190 = .ok (.iload 4, 2) := by decide +kernel
theorem dX10_goesHour_192 : decode cX10_goesHour 192 = .ok (.iaload, 1) := by decide +kernel
theorem dX10_goesHour_193 : decode cX10_goesHour 193 = .ok (.ifCond .ne 7, 3) := by decide +kernel
theorem dX10_goesHour_196 : decode cX10_goesHour 196 = .ok (.iconst 0, 1) := by decide +kernel
theorem dX10_goesHour_197 : decode cX10_goesHour 197 = .ok (.goto 4, 3) := by decide +kernel
theorem dX10_goesHour_200 : decode cX10_goesHour 200 = .ok (.iconst 1, 1) := by decide +kernel
theorem dX10_goesHour_201 : decode cX10_goesHour 201 = .ok (.iadd, 1) := by decide +kernel
theorem dX10_goesHour_202 : decode cX10_goesHour 202 = .ok (.istore_n 3, 1) := by decide +kernel
theorem dX10_goesHour_203 : decode cX10_goesHour 203 = .ok (.iinc 4 1, 3) := by decide +kernel
theorem dX10_goesHour_206 : decode cX10_goesHour 206 = .ok (.goto (-148), 3) := by decide +kernel
theorem dX10_goesHour_209 : decode cX10_goesHour 209 = .ok (.aload_n 0, 1) := by decide +kernel
theorem dX10_goesHour_210 : decode cX10_goesHour 210 = .ok (.dup, 1) := by decide +kernel
theorem dX10_goesHour_211 : decode cX10_goesHour 211 = .ok (.getfield 140, 3) := by decide +kernel
theorem dX10_goesHour_214 : decode cX10_goesHour 214 = .ok (.iconst 1, 1) := by decide +kernel
theorem dX10_goesHour_215 : decode cX10_goesHour 215 = .ok (.iadd, 1) := by decide +kernel
theorem dX10_goesHour_216 : decode cX10_goesHour 216 = .ok (.putfield 140, 3) := by decide +kernel
theorem dX10_goesHour_219 : decode cX10_goesHour 219 = .ok (.iload_n 3, 1) := by decide +kernel
theorem dX10_goesHour_220 : decode cX10_goesHour 220 = .ok (.ireturn, 1) := by decide +kernel
theorem dX10_hour_0 : decode cX10_hour 0 = .ok (.aload_n 0, 1) := by decide +kernel
theorem dX10_hour_1 : decode cX10_hour 1 = .ok (.getfield 140, 3) := by decide +kernel
theorem dX10_hour_4 : decode cX10_hour 4 = .ok (.sipush 9999, 3) := by decide +kernel
theorem dX10_hour_7 : decode cX10_hour 7 = .ok (.if_icmp .ne 12, 3) := by decide +kernel
theorem dX10_hour_10 : decode cX10_hour 10 = .ok (.aload_n 0, 1) := by decide +kernel
theorem dX10_hour_11 : decode cX10_hour 11 = .ok (.bipush (-6), 2) := by decide +kernel
theorem dX10_hour_13 : decode cX10_hour 13 = .ok (.invokevirtual 83, 3) := by decide +kernel
theorem dX10_hour_16 : decode cX10_hour 16 = .ok (.goto 7, 3) := by decide +kernel
theorem dX10_hour_19 : decode cX10_hour 19 = .ok (.aload_n 0, 1) := by decide +kernel
theorem dX10_hour_20 : decode cX10_hour 20 = .ok (.invokevirtual 189, 3) := by decide +kernel
theorem dX10_hour_23 : decode cX10_hour 23 = .ok (.ireturn, 1) := by decide +kernel
theorem dX10_putsAnew_0 : decode cX10_putsAnew 0 = .ok (.aload_n 0, 1) := by decide +kernel
theorem dX10_putsAnew_1 : decode cX10_putsAnew 1 = .ok (.getfield 25, 3) := by decide +kernel
theorem dX10_putsAnew_4 : decode cX10_putsAnew 4 = .ok (.iload_n 1, 1) := by decide +kernel
theorem dX10_putsAnew_5 : decode cX10_putsAnew 5 = .ok (.iconst 0, 1) := by decide +kernel
theorem dX10_putsAnew_6 : decode cX10_putsAnew 6 = .ok (.iastore, 1) := by decide +kernel
theorem dX10_putsAnew_7 : decode cX10_putsAnew 7 = .ok (.aload_n 0, 1) := by decide +kernel
theorem dX10_putsAnew_8 : decode cX10_putsAnew 8 = .ok (.getfield 22, 3) := by decide +kernel
theorem dX10_putsAnew_11 : decode cX10_putsAnew 11 = .ok (.iload_n 1, 1) := by decide +kernel
theorem dX10_putsAnew_12 : decode cX10_putsAnew 12 = .ok (.iconst 0, 1) := by decide +kernel
theorem dX10_putsAnew_13 : decode cX10_putsAnew 13 = .ok (.iastore, 1) := by decide +kernel
theorem dX10_putsAnew_14 : decode cX10_putsAnew 14 = .ok (.return_, 1) := by decide +kernel
theorem dX10_swap_0 : decode cX10_swap 0 = .ok (.aload_n 0, 1) := by decide +kernel
theorem dX10_swap_1 : decode cX10_swap 1 = .ok (.iload_n 1, 1) := by decide +kernel
theorem dX10_swap_2 : decode cX10_swap 2 = .ok (.invokevirtual 112, 3) := by decide +kernel
theorem dX10_swap_5 : decode cX10_swap 5 = .ok (.ifCond .ne 9, 3) := by decide +kernel
theorem dX10_swap_8 : decode cX10_swap 8 = .ok (.aload_n 0, 1) := by decide +kernel
theorem dX10_swap_9 : decode cX10_swap 9 = .ok (.iconst (-1), 1) := by decide +kernel
theorem dX10_swap_10 : decode cX10_swap 10 = .ok (.invokevirtual 83, 3) := by decide +kernel
theorem dX10_swap_13 : decode cX10_swap 13 = .ok (.ireturn, 1) := by decide +kernel
theorem dX10_swap_14 : decode cX10_swap 14 = .ok (.aload_n 0, 1) := by decide +kernel
theorem dX10_swap_15 : decode cX10_swap 15 = .ok (.getfield 28, 3) := by decide +kernel
theorem dX10_swap_18 : decode cX10_swap 18 = .ok (.iconst 1, 1) := by decide +kernel
theorem dX10_swap_19 : decode cX10_swap 19 = .ok (.iaload, 1) := by decide +kernel
theorem dX10_swap_20 : decode cX10_swap 20 = .ok (.ifCond .ne 10, 3) := by decide +kernel
theorem dX10_swap_23 : decode cX10_swap 23 = .ok (.aload_n 0, 1) := by decide +kernel
theorem dX10_swap_24 : decode cX10_swap 24 = .ok (.bipush (-3), 2) := by decide +kernel
theorem dX10_swap_26 : decode cX10_swap 26 = .ok (.invokevirtual 83, 3) := by decide +kernel
theorem dX10_swap_29 : decode cX10_swap 29 = .ok (.ireturn, 1) := by decide +kernel
theorem dX10_swap_30 : decode cX10_swap 30 = .ok (.aload_n 0, 1) := by decide +kernel
theorem dX10_swap_31 : decode cX10_swap 31 = .ok (.getfield 28, 3) := by decide +kernel
theorem dX10_swap_34 : decode cX10_swap 34 = .ok (.iconst 1, 1) := by decide +kernel
theorem dX10_swap_35 : decode cX10_swap 35 = .ok (.dup2, 1) := by decide +kernel
theorem dX10_swap_36 : decode cX10_swap 36 = .ok (.iaload, 1) := by decide +kernel
theorem dX10_swap_37 : decode cX10_swap 37 = .ok (.iconst 1, 1) := by decide +kernel
theorem dX10_swap_38 : decode cX10_swap 38 = .ok (.isub, 1) := by decide +kernel
theorem dX10_swap_39 : decode cX10_swap 39 = .ok (.iastore, 1) := by decide +kernel
theorem dX10_swap_40 : decode cX10_swap 40 = .ok (.aload_n 0, 1) := by decide +kernel
theorem dX10_swap_41 : decode cX10_swap 41 = .ok (.iload_n 1, 1) := by decide +kernel
theorem dX10_swap_42 : decode cX10_swap 42 = .ok (.invokevirtual 192, 3) := by decide +kernel
theorem dX10_swap_45 : decode cX10_swap 45 = .ok (.aload_n 0, 1) := by decide +kernel
theorem dX10_swap_46 : decode cX10_swap 46 = .ok (.invokevirtual 155, 3) := by decide +kernel
theorem dX10_swap_49 : decode cX10_swap 49 = .ok (.ifCond .eq 7, 3) := by decide +kernel
theorem dX10_swap_52 : decode cX10_swap 52 = .ok (.iconst 1, 1) := by decide +kernel
theorem dX10_swap_53 : decode cX10_swap 53 = .ok (.goto 4, 3) := by decide +kernel
theorem dX10_swap_56 : decode cX10_swap 56 = .ok (.iconst 0, 1) := by decide +kernel
theorem dX10_swap_57 : decode cX10_swap 57 = .ok (.ireturn, 1) := by decide +kernel
theorem dX10_areLamps_0 : decode cX10_areLamps 0 = .ok (.aload_n 0, 1) := by decide +kernel
theorem dX10_areLamps_1 : decode cX10_areLamps 1 = .ok (.iload_n 1, 1) := by decide +kernel
theorem dX10_areLamps_2 : decode cX10_areLamps 2 = .ok (.invokevirtual 112, 3) := by decide +kernel
theorem dX10_areLamps_5 : decode cX10_areLamps 5 = .ok (.ifCond .eq 20, 3) := by decide +kernel
theorem dX10_areLamps_8 : decode cX10_areLamps 8 = .ok (.aload_n 0, 1) := by decide +kernel
theorem dX10_areLamps_9 : decode cX10_areLamps 9 = .ok (.iload_n 2, 1) := by decide +kernel
theorem dX10_areLamps_10 : decode cX10_areLamps 10 = .ok (.invokevirtual 112, 3) := by decide +kernel
theorem dX10_areLamps_13 : decode cX10_areLamps 13 = .ok (.ifCond .eq 12, 3) := by decide +kernel
theorem dX10_areLamps_16 : decode cX10_areLamps 16 = .ok (.iload_n 1, 1) := by decide +kernel
theorem dX10_areLamps_17 : decode cX10_areLamps 17 = .ok (.iload_n 2, 1) := by decide +kernel
theorem dX10_areLamps_18 : decode cX10_areLamps 18 = .ok (.if_icmp .gt 7, 3) := by decide +kernel
theorem dX10_areLamps_21 : decode cX10_areLamps 21 = .ok (.iconst 1, 1) := by decide +kernel
theorem dX10_areLamps_22 : decode cX10_areLamps 22 = .ok (.goto 4, 3) := by decide +kernel
theorem dX10_areLamps_25 : decode cX10_areLamps 25 = .ok (.iconst 0, 1) := by decide +kernel
theorem dX10_areLamps_26 : decode cX10_areLamps 26 = .ok (.ireturn, 1) := by decide +kernel
theorem dX10_meter_0 : decode cX10_meter 0 = .ok (.aload_n 0, 1) := by decide +kernel
theorem dX10_meter_1 : decode cX10_meter 1 = .ok (.iload_n 1, 1) := by decide +kernel
theorem dX10_meter_2 : decode cX10_meter 2 = .ok (.iload_n 2, 1) := by decide +kernel
theorem dX10_meter_3 : decode cX10_meter 3 = .ok (.invokevirtual 196, 3) := by decide +kernel
theorem dX10_meter_6 : decode cX10_meter 6 = .ok (.ifCond .ne 11, 3) := by decide +kernel
theorem dX10_meter_9 : decode cX10_meter 9 = .ok (.aload_n 0, 1) := by decide +kernel
theorem dX10_meter_10 : decode cX10_meter 10 = .ok (.iconst (-1), 1) := by decide +kernel
theorem dX10_meter_11 : decode cX10_meter 11 = .ok (.invokevirtual 83, 3) := by decide +kernel
theorem dX10_meter_14 : decode cX10_meter 14 = .ok (.goto 17, 3) := by decide +kernel
theorem dX10_meter_17 : decode cX10_meter 17 = .ok (.aload_n 0, 1) := by decide +kernel
theorem dX10_meter_18 : decode cX10_meter 18 = .ok (.iload_n 1, 1) := by decide +kernel
theorem dX10_meter_19 : decode cX10_meter 19 = .ok (.iload_n 2, 1) := by decide +kernel
theorem dX10_meter_20 : decode cX10_meter 20 = .ok (.invokevirtual 149, 3) := by decide +kernel
theorem dX10_meter_23 : decode cX10_meter 23 = .ok (.ifCond .eq 7, 3) := by decide +kernel
theorem dX10_meter_26 : decode cX10_meter 26 = .ok (.iconst 1, 1) := by decide +kernel
theorem dX10_meter_27 : decode cX10_meter 27 = .ok (.goto 4, 3) := by decide +kernel
theorem dX10_meter_30 : decode cX10_meter 30 = .ok (.iconst 0, 1) := by decide +kernel
theorem dX10_meter_31 : decode cX10_meter 31 = .ok (.ireturn, 1) := by decide +kernel
theorem dX10_finder_0 : decode cX10_finder 0 = .ok (.aload_n 0, 1) := by decide +kernel
theorem dX10_finder_1 : decode cX10_finder 1 = .ok (.iload_n 1, 1) := by decide +kernel
theorem dX10_finder_2 : decode cX10_finder 2 = .ok (.invokevirtual 112, 3) := by decide +kernel
theorem dX10_finder_5 : decode cX10_finder 5 = .ok (.ifCond .ne 11, 3) := by decide +kernel
theorem dX10_finder_8 : decode cX10_finder 8 = .ok (.aload_n 0, 1) := by decide +kernel
theorem dX10_finder_9 : decode cX10_finder 9 = .ok (.iconst (-1), 1) := by decide +kernel
theorem dX10_finder_10 : decode cX10_finder 10 = .ok (.invokevirtual 83, 3) := by decide +kernel
theorem dX10_finder_13 : decode cX10_finder 13 = .ok (.goto 19, 3) := by decide +kernel
theorem dX10_finder_16 : decode cX10_finder 16 = .ok (.aload_n 0, 1) := by decide +kernel
theorem dX10_finder_17 : decode cX10_finder 17 = .ok (.iconst 0, 1) := by decide +kernel
theorem dX10_finder_18 : decode cX10_finder 18 = .ok (.iload_n 1, 1) := by decide +kernel
theorem dX10_finder_19 : decode cX10_finder 19 = .ok (.iconst 1, 1) := by decide +kernel
theorem dX10_finder_20 : decode cX10_finder 20 = .ok (.isub, 1) := by decide +kernel
theorem dX10_finder_21 : decode cX10_finder 21 = .ok (.invokevirtual 149, 3) := by decide +kernel
theorem dX10_finder_24 : decode cX10_finder 24 = .ok (.ifCond .eq 7, 3) := by decide +kernel
theorem dX10_finder_27 : decode cX10_finder 27 = .ok (.iconst 1, 1) := by decide +kernel
theorem dX10_finder_28 : decode cX10_finder 28 = .ok (.goto 4, 3) := by decide +kernel
theorem dX10_finder_31 : decode cX10_finder 31 = .ok (.iconst 0, 1) := by decide +kernel
theorem dX10_finder_32 : decode cX10_finder 32 = .ok (.ireturn, 1) := by decide +kernel
theorem dX10_touches_0 : decode cX10_touches 0 = .ok (.aload_n 0, 1) := by decide +kernel
theorem dX10_touches_1 : decode cX10_touches 1 = .ok (.getfield 25, 3) := by decide +kernel
theorem dX10_touches_4 : decode cX10_touches 4 = .ok (.iload_n 1, 1) := by decide +kernel
theorem dX10_touches_5 : decode cX10_touches 5 = .ok (.iaload, 1) := by decide +kernel
theorem dX10_touches_6 : decode cX10_touches 6 = .ok (.iconst 3, 1) := by decide +kernel
theorem dX10_touches_7 : decode cX10_touches 7 = .ok (.if_icmp .ne 13, 3) := by decide +kernel
theorem dX10_touches_10 : decode cX10_touches 10 = .ok (.aload_n 0, 1) := by decide +kernel
theorem dX10_touches_11 : decode cX10_touches 11 = .ok (.getfield 25, 3) := by decide +kernel
theorem dX10_touches_14 : decode cX10_touches 14 = .ok (.iload_n 1, 1) := by decide +kernel
theorem dX10_touches_15 : decode cX10_touches 15 = .ok (.iconst 0, 1) := by decide +kernel
theorem dX10_touches_16 : decode cX10_touches 16 = .ok (.iastore, 1) := by decide +kernel
theorem dX10_touches_17 : decode cX10_touches 17 = .ok (.goto 37, 3) := by decide +kernel
theorem dX10_touches_20 : decode cX10_touches 20 = .ok (.aload_n 0, 1) := by decide +kernel
theorem dX10_touches_21 : decode cX10_touches 21 = .ok (.getfield 25, 3) := by decide +kernel
theorem dX10_touches_24 : decode cX10_touches 24 = .ok (.iload_n 1, 1) := by decide +kernel
theorem dX10_touches_25 : decode cX10_touches 25 = .ok (.iaload, 1) := by decide +kernel
theorem dX10_touches_26 : decode cX10_touches 26 = .ok (.ifCond .ne 28, 3) := by decide +kernel
theorem dX10_touches_29 : decode cX10_touches 29 = .ok (.aload_n 0, 1) := by decide +kernel
theorem dX10_touches_30 : decode cX10_touches 30 = .ok (.iload_n 1, 1) := by decide +kernel
theorem dX10_touches_31 : decode cX10_touches 31 = .ok (.invokevirtual 165, 3) := by decide +kernel
theorem dX10_touches_34 : decode cX10_touches 34 = .ok (.ifCond .eq 20, 3) := by decide +kernel
theorem dX10_touches_37 : decode cX10_touches 37 = .ok (.aload_n 0, 1) := by decide +kernel
theorem dX10_touches_38 : decode cX10_touches 38 = .ok (.getfield 28, 3) := by decide +kernel
theorem dX10_touches_41 : decode cX10_touches 41 = .ok (.iconst 3, 1) := by decide +kernel
theorem dX10_touches_42 : decode cX10_touches 42 = .ok (.iaload, 1) := by decide +kernel
theorem dX10_touches_43 : decode cX10_touches 43 = .ok (.iconst 3, 1) := by decide +kernel
theorem dX10_touches_44 : decode cX10_touches 44 = .ok (.if_icmp .gt 10, 3) := by decide +kernel
theorem dX10_touches_47 : decode cX10_touches 47 = .ok (.aload_n 0, 1) := by decide +kernel
theorem dX10_touches_48 : decode cX10_touches 48 = .ok (.getfield 25, 3) := by decide +kernel
theorem dX10_touches_51 : decode cX10_touches 51 = .ok (.iload_n 1, 1) := by decide +kernel
theorem dX10_touches_52 : decode cX10_touches 52 = .ok (.iconst 3, 1) := by decide +kernel
theorem dX10_touches_53 : decode cX10_touches 53 = .ok (.iastore, 1) := by decide +kernel
theorem dX10_touches_54 : decode cX10_touches 54 = .ok (.return_, 1) := by decide +kernel
theorem dX10_touch_0 : decode cX10_touch 0 = .ok (.aload_n 0, 1) := by decide +kernel
theorem dX10_touch_1 : decode cX10_touch 1 = .ok (.iload_n 1, 1) := by decide +kernel
theorem dX10_touch_2 : decode cX10_touch 2 = .ok (.invokevirtual 112, 3) := by decide +kernel
theorem dX10_touch_5 : decode cX10_touch 5 = .ok (.ifCond .ne 9, 3) := by decide +kernel
theorem dX10_touch_8 : decode cX10_touch 8 = .ok (.aload_n 0, 1) := by decide +kernel
theorem dX10_touch_9 : decode cX10_touch 9 = .ok (.iconst (-1), 1) := by decide +kernel
theorem dX10_touch_10 : decode cX10_touch 10 = .ok (.invokevirtual 83, 3) := by decide +kernel
theorem dX10_touch_13 : decode cX10_touch 13 = .ok (.ireturn, 1) := by decide +kernel
theorem dX10_touch_14 : decode cX10_touch 14 = .ok (.aload_n 0, 1) := by decide +kernel
theorem dX10_touch_15 : decode cX10_touch 15 = .ok (.iload_n 1, 1) := by decide +kernel
theorem dX10_touch_16 : decode cX10_touch 16 = .ok (.invokevirtual 199, 3) := by decide +kernel
theorem dX10_touch_19 : decode cX10_touch 19 = .ok (.aload_n 0, 1) := by decide +kernel
theorem dX10_touch_20 : decode cX10_touch 20 = .ok (.getfield 25, 3) := by decide +kernel
theorem dX10_touch_23 : decode cX10_touch 23 = .ok (.iload_n 1, 1) := by decide +kernel
theorem dX10_touch_24 : decode cX10_touch 24 = .ok (.iaload, 1) := by decide +kernel
theorem dX10_touch_25 : decode cX10_touch 25 = .ok (.ireturn, 1) := by decide +kernel
theorem dX10_weightOf_0 : decode cX10_weightOf 0 = .ok (.iconst 0, 1) := by decide +kernel
theorem dX10_weightOf_1 : decode cX10_weightOf 1 = .ok (.istore_n 3, 1) := by decide +kernel
theorem dX10_weightOf_2 : decode cX10_weightOf 2 = .ok (.iload_n 1, 1) := by decide +kernel
theorem dX10_weightOf_3 : decode cX10_weightOf 3 = .ok (.istore 4, 2) := by decide +kernel
theorem dX10_weightOf_5 : decode cX10_weightOf 5 = .ok (.iload 4, 2) := by decide +kernel
theorem dX10_weightOf_7 : decode cX10_weightOf 7 = .ok (.iload_n 2, 1) := by decide +kernel
theorem dX10_weightOf_8 : decode cX10_weightOf 8 = .ok (.if_icmp .gt 18, 3) := by decide +kernel
theorem dX10_weightOf_11 : decode cX10_weightOf 11 = .ok (.iload_n 3, 1) := by decide +kernel
theorem dX10_weightOf_12 : decode cX10_weightOf 12 = .ok (.aload_n 0, 1) := by decide +kernel
theorem dX10_weightOf_13 : decode cX10_weightOf 13 = .ok (.iload 4, 2) := by decide +kernel
theorem dX10_weightOf_15 : decode cX10_weightOf 15 = .ok (.invokevirtual 174, 3) := by decide +kernel
theorem dX10_weightOf_18 : decode cX10_weightOf 18 = .ok (.iadd, 1) := by decide +kernel
theorem dX10_weightOf_19 : decode cX10_weightOf 19 = .ok (.istore_n 3, 1) := by decide +kernel
theorem dX10_weightOf_20 : decode cX10_weightOf 20 = .ok (.iinc 4 1, 3) := by decide +kernel
theorem dX10_weightOf_23 : decode cX10_weightOf 23 = .ok (.goto (-18), 3) := by decide +kernel
theorem dX10_weightOf_26 : decode cX10_weightOf 26 = .ok (.iload_n 3, 1) := by decide +kernel
theorem dX10_weightOf_27 : decode cX10_weightOf 27 = .ok (.ireturn, 1) := by decide +kernel
theorem dX10_findStretch_0 : decode cX10_findStretch 0 = .ok (.bipush 12, 2) := by decide +kernel
theorem dX10_findStretch_2 : decode cX10_findStretch 2 = .ok (.iload_n 1, 1) := by decide +kernel
theorem dX10_findStretch_3 : decode cX10_findStretch 3 = .ok (.imul, 1) := by decide +kernel
theorem dX10_findStretch_4 : decode cX10_findStretch 4 = .ok (.iload_n 2, 1) := by decide +kernel
theorem dX10_findStretch_5 : decode cX10_findStretch 5 = .ok (.iadd, 1) := by decide +kernel
theorem dX10_findStretch_6 : decode cX10_findStretch 6 = .ok (.istore_n 3, 1) := by decide +kernel
theorem dX10_findStretch_7 : decode cX10_findStretch 7 = .ok (.aload_n 0, 1) := by decide +kernel
theorem dX10_findStretch_8 : decode cX10_findStretch 8 = .ok (.iload_n 1, 1) := by decide +kernel
theorem dX10_findStretch_9 : decode cX10_findStretch 9 = .ok (.iload_n 2, 1) := by decide +kernel
theorem dX10_findStretch_10 : decode cX10_findStretch 10 = .ok (.invokevirtual 202, 3) := by decide +kernel
theorem dX10_findStretch_13 : decode cX10_findStretch 13 = .ok (.istore 4, 2) := by decide +kernel
theorem dX10_findStretch_15 : decode cX10_findStretch 15 = .ok (.iload_n 1, 1) := by decide +kernel
theorem dX10_findStretch_16 : decode cX10_findStretch 16 = .ok (.iconst 1, 1) := by decide +kernel
theorem dX10_findStretch_17 : decode cX10_findStretch 17 = .ok (.iadd, 1) := by decide +kernel
theorem dX10_findStretch_18 : decode cX10_findStretch 18 = .ok (.istore 5, 2) := by decide +kernel
theorem dX10_findStretch_20 : decode cX10_findStretch 20 = .ok (.iload 5, 2) := by decide +kernel
theorem dX10_findStretch_22 : decode cX10_findStretch 22 = .ok (.iload_n 2, 1) := by decide +kernel
theorem dX10_findStretch_23 : decode cX10_findStretch 23 = .ok (.if_icmp .gt 173, 3) := by decide +kernel
theorem dX10_findStretch_26 : decode cX10_findStretch 26 = .ok (.aload_n 0, 1) := by decide +kernel
theorem dX10_findStretch_27 : decode cX10_findStretch 27 = .ok (.getfield 19, 3) := by decide +kernel
theorem dX10_findStretch_30 : decode cX10_findStretch 30 = .ok (.iload 5, 2) := by decide +kernel
theorem dX10_findStretch_32 : decode cX10_findStretch 32 = .ok (.iaload, 1) := by decide +kernel
theorem dX10_findStretch_33 : decode cX10_findStretch 33 = .ok (.iload 4, 2) := by decide +kernel
theorem dX10_findStretch_35 : decode cX10_findStretch 35 = .ok (.imul, 1) := by decide +kernel
theorem dX10_findStretch_36 : decode cX10_findStretch 36 = .ok (.aload_n 0, 1) := by decide +kernel
theorem dX10_findStretch_37 : decode cX10_findStretch 37 = .ok (.getfield 49, 3) := by decide +kernel
theorem dX10_findStretch_40 : decode cX10_findStretch 40 = .ok (.bipush 12, 2) := by decide +kernel
theorem dX10_findStretch_42 : decode cX10_findStretch 42 = .ok (.iload_n 1, 1) := by decide +kernel
theorem dX10_findStretch_43 : decode cX10_findStretch 43 = .ok (.imul, 1) := by decide +kernel
theorem dX10_findStretch_44 : decode cX10_findStretch 44 = .ok (.iload 5, 2) := by decide +kernel
theorem dX10_findStretch_46 : decode cX10_findStretch 46 = .ok (.iadd, 1) := by decide +kernel
theorem dX10_findStretch_47 : decode cX10_findStretch 47 = .ok (.iconst 1, 1) := by decide +kernel
theorem dX10_findStretch_48 : decode cX10_findStretch 48 = .ok (.isub, 1) := by decide +kernel
theorem dX10_findStretch_49 : decode cX10_findStretch 49 = .ok (.iaload, 1) := by decide +kernel
theorem dX10_findStretch_50 : decode cX10_findStretch 50 = .ok (.iadd, 1) := by decide +kernel
theorem dX10_findStretch_51 : decode cX10_findStretch 51 = .ok (.aload_n 0, 1) := by decide +kernel
theorem dX10_findStretch_52 : decode cX10_findStretch 52 = .ok (.getfield 49, 3) := by decide +kernel
theorem dX10_findStretch_55 : decode cX10_findStretch 55 = .ok (.bipush 12, 2) := by decide +kernel
theorem dX10_findStretch_57 : decode cX10_findStretch 57 = .ok (.iload 5, 2) := by decide +kernel
theorem dX10_findStretch_59 : decode cX10_findStretch 59 = .ok (.imul, 1) := by decide +kernel
theorem dX10_findStretch_60 : decode cX10_findStretch 60 = .ok (.iload_n 2, 1) := by decide +kernel
theorem dX10_findStretch_61 : decode cX10_findStretch 61 = .ok (.iadd, 1) := by decide +kernel
theorem dX10_findStretch_62 : decode cX10_findStretch 62 = .ok (.iaload, 1) := by decide +kernel
theorem dX10_findStretch_63 : decode cX10_findStretch 63 = .ok (.iadd, 1) := by decide +kernel
theorem dX10_findStretch_64 : decode cX10_findStretch 64 = .ok (.istore 6, 2) := by decide +kernel
theorem dX10_findStretch_66 : decode cX10_findStretch 66 = .ok (.aload_n 0, 1) := by decide +kernel
theorem dX10_findStretch_67 : decode cX10_findStretch 67 = .ok (.getfield 52, 3) := by decide +kernel
theorem dX10_findStretch_70 : decode cX10_findStretch 70 = .ok (.bipush 12, 2) := by decide +kernel
theorem dX10_findStretch_72 : decode cX10_findStretch 72 = .ok (.iload_n 1, 1) := by decide +kernel
theorem dX10_findStretch_73 : decode cX10_findStretch 73 = .ok (.imul, 1) := by decide +kernel
theorem dX10_findStretch_74 : decode cX10_findStretch 74 = .ok (.iload 5, 2) := by decide +kernel
theorem dX10_findStretch_76 : decode cX10_findStretch 76 = .ok (.iadd, 1) := by decide +kernel
theorem dX10_findStretch_77 : decode cX10_findStretch 77 = .ok (.iconst 1, 1) := by decide +kernel
theorem dX10_findStretch_78 : decode cX10_findStretch 78 = .ok (.isub, 1) := by decide +kernel
theorem dX10_findStretch_79 : decode cX10_findStretch 79 = .ok (.iaload, 1) := by decide +kernel
theorem dX10_findStretch_80 : decode cX10_findStretch 80 = .ok (.istore 7, 2) := by decide +kernel
theorem dX10_findStretch_82 : decode cX10_findStretch 82 = .ok (.aload_n 0, 1) := by decide +kernel
theorem dX10_findStretch_83 : decode cX10_findStretch 83 = .ok (.getfield 52, 3) := by decide +kernel
theorem dX10_findStretch_86 : decode cX10_findStretch 86 = .ok (.bipush 12, 2) := by decide +kernel
theorem dX10_findStretch_88 : decode cX10_findStretch 88 = .ok (.iload 5, 2) := by decide +kernel
theorem dX10_findStretch_90 : decode cX10_findStretch 90 = .ok (.imul, 1) := by decide +kernel
theorem dX10_findStretch_91 : decode cX10_findStretch 91 = .ok (.iload_n 2, 1) := by decide +kernel
theorem dX10_findStretch_92 : decode cX10_findStretch 92 = .ok (.iadd, 1) := by decide +kernel
theorem dX10_findStretch_93 : decode cX10_findStretch 93 = .ok (.iaload, 1) := by decide +kernel
theorem dX10_findStretch_94 : decode cX10_findStretch 94 = .ok (.istore 8, 2) := by decide +kernel
theorem dX10_findStretch_96 : decode cX10_findStretch 96 = .ok (.aload_n 0, 1) := by decide +kernel
theorem dX10_findStretch_97 : decode cX10_findStretch 97 = .ok (.getfield 19, 3) := by decide +kernel
theorem dX10_findStretch_100 : decode cX10_findStretch 100 = .ok (.iload 5, 2) := by decide +kernel
theorem dX10_findStretch_102 : decode cX10_findStretch 102 = .ok (.iaload, 1) := by decide +kernel
theorem dX10_findStretch_103 : decode cX10_findStretch 103 = .ok (.iload 7, 2) := by decide +kernel
theorem dX10_findStretch_105 : decode cX10_findStretch 105 = .ok (.iload 8, 2) := by decide +kernel
theorem dX10_findStretch_107 : decode cX10_findStretch 107 = .ok (.if_icmp .le 8, 3) := by decide +kernel
theorem dX10_findStretch_110 : decode cX10_findStretch 110 = .ok (.iload 7, 2) := by decide +kernel
theorem dX10_findStretch_112 : decode cX10_findStretch 112 = .ok (.goto 5, 3) := by decide +kernel
theorem dX10_findStretch_115 : decode cX10_findStretch 115 = .ok (.iload 8, 2) := by decide +kernel
theorem dX10_findStretch_117 : decode cX10_findStretch 117 = .ok (.iadd, 1) := by decide +kernel
theorem dX10_findStretch_118 : decode cX10_findStretch 118 = .ok (.istore 9, 2) := by decide +kernel
theorem dX10_findStretch_120 : decode cX10_findStretch 120 = .ok (.iload 5, 2) := by decide +kernel
theorem dX10_findStretch_122 : decode cX10_findStretch 122 = .ok (.iload_n 1, 1) := by decide +kernel
theorem dX10_findStretch_123 : decode cX10_findStretch 123 = .ok (.iconst 1, 1) := by decide +kernel
theorem dX10_findStretch_124 : decode cX10_findStretch 124 = .ok (.iadd, 1) := by decide +kernel
theorem dX10_findStretch_125 : decode cX10_findStretch 125 = .ok (.if_icmp .eq 14, 3) := by decide +kernel
theorem dX10_findStretch_128 : decode cX10_findStretch 128 = .ok (.iload 6, 2) := by decide +kernel
theorem dX10_findStretch_130 : decode cX10_findStretch 130 = .ok (.aload_n 0, 1) := by decide +kernel
theorem dX10_findStretch_131 : decode cX10_findStretch 131 = .ok (.getfield 49, 3) := by decide +kernel
theorem dX10_findStretch_134 : decode cX10_findStretch 134 = .ok (.iload_n 3, 1) := by decide +kernel
theorem dX10_findStretch_135 : decode cX10_findStretch 135 = .ok (.iaload, 1) := by decide +kernel
theorem dX10_findStretch_136 : decode cX10_findStretch 136 = .ok (.if_icmp .ge 19, 3) := by decide +kernel
theorem dX10_findStretch_139 : decode cX10_findStretch 139 = .ok (.aload_n 0, 1) := by decide +kernel
theorem dX10_findStretch_140 : decode cX10_findStretch 140 = .ok (.getfield 49, 3) := by decide +kernel
theorem dX10_findStretch_143 : decode cX10_findStretch 143 = .ok (.iload_n 3, 1) := by decide +kernel
theorem dX10_findStretch_144 : decode cX10_findStretch 144 = .ok (.iload 6, 2) := by decide +kernel
theorem dX10_findStretch_146 : decode cX10_findStretch 146 = .ok (.iastore, 1) := by decide +kernel
theorem dX10_findStretch_147 : decode cX10_findStretch 147 = .ok (.aload_n 0, 1) := by decide +kernel
theorem dX10_findStretch_148 : decode cX10_findStretch 148 = .ok (.getfield 55, 3) := by decide +kernel
theorem dX10_findStretch_151 : decode cX10_findStretch 151 = .ok (.iload_n 3, 1) := by decide +kernel
theorem dX10_findStretch_152 : decode cX10_findStretch 152 = .ok (.iload 5, 2) := by decide +kernel
theorem dX10_findStretch_154 : decode cX10_findStretch 154 = .ok (.iastore, 1) := by decide +kernel
theorem dX10_findStretch_155 : decode cX10_findStretch 155 = .ok (.iload 5, 2) := by decide +kernel
theorem dX10_findStretch_157 : decode cX10_findStretch 157 = .ok (.iload_n 1, 1) := by decide +kernel
theorem dX10_findStretch_158 : decode cX10_findStretch 158 = .ok (.iconst 1, 1) := by decide +kernel
theorem dX10_findStretch_159 : decode cX10_findStretch 159 = .ok (.iadd, 1) := by decide +kernel
theorem dX10_findStretch_160 : decode cX10_findStretch 160 = .ok (.if_icmp .eq 14, 3) := by decide +kernel
theorem dX10_findStretch_163 : decode cX10_findStretch 163 = .ok (.iload 9, 2) := by decide +kernel
theorem dX10_findStretch_165 : decode cX10_findStretch 165 = .ok (.aload_n 0, 1) := by decide +kernel
theorem dX10_findStretch_166 : decode cX10_findStretch 166 = .ok (.getfield 52, 3) := by decide +kernel
theorem dX10_findStretch_169 : decode cX10_findStretch 169 = .ok (.iload_n 3, 1) := by decide +kernel
theorem dX10_findStretch_170 : decode cX10_findStretch 170 = .ok (.iaload, 1) := by decide +kernel
theorem dX10_findStretch_171 : decode cX10_findStretch 171 = .ok (.if_icmp .ge 19, 3) := by decide +kernel
theorem dX10_findStretch_174 : decode cX10_findStretch 174 = .ok (.aload_n 0, 1) := by decide +kernel
theorem dX10_findStretch_175 : decode cX10_findStretch 175 = .ok (.getfield 52, 3) := by decide +kernel
theorem dX10_findStretch_178 : decode cX10_findStretch 178 = .ok (.iload_n 3, 1) := by decide +kernel
theorem dX10_findStretch_179 : decode cX10_findStretch 179 = .ok (.iload 9, 2) := by decide +kernel
theorem dX10_findStretch_181 : decode cX10_findStretch 181 = .ok (.iastore, 1) := by decide +kernel
theorem dX10_findStretch_182 : decode cX10_findStretch 182 = .ok (.aload_n 0, 1) := by decide +kernel
theorem dX10_findStretch_183 : decode cX10_findStretch 183 = .ok (.getfield 58, 3) := by decide +kernel
theorem dX10_findStretch_186 : decode cX10_findStretch 186 = .ok (.iload_n 3, 1) := by decide +kernel
theorem dX10_findStretch_187 : decode cX10_findStretch 187 = .ok (.iload 5, 2) := by decide +kernel
theorem dX10_findStretch_189 : decode cX10_findStretch 189 = .ok (.iastore, 1) := by decide +kernel
theorem dX10_findStretch_190 : decode cX10_findStretch 190 = .ok (.iinc 5 1, 3) := by decide +kernel
theorem dX10_findStretch_193 : decode cX10_findStretch 193 = .ok (.goto (-173), 3) := by decide +kernel
theorem dX10_findStretch_196 : decode cX10_findStretch 196 = .ok (.return_, 1) := by decide +kernel
theorem dX10_findStretches_0 : decode cX10_findStretches 0 = .ok (.iconst 0, 1) := by decide +kernel
theorem dX10_findStretches_1 : decode cX10_findStretches 1 = .ok (.istore_n 1, 1) := by decide +kernel
theorem dX10_findStretches_2 : decode cX10_findStretches 2 = .ok (.iload_n 1, 1) := by decide +kernel
theorem dX10_findStretches_3 : decode cX10_findStretches 3 = .ok (.aload_n 0, 1) := by decide +kernel
theorem dX10_findStretches_4 : decode cX10_findStretches 4 = .ok (.getfield 72, 3) := by decide +kernel
theorem dX10_findStretches_7 : decode cX10_findStretches 7 = .ok (.if_icmp .ge 51, 3) := by decide +kernel
theorem dX10_findStretches_10 : decode cX10_findStretches 10 = .ok (.aload_n 0, 1) := by decide +kernel
theorem dX10_findStretches_11 : decode cX10_findStretches 11 = .ok (.getfield 49, 3) := by decide +kernel
theorem dX10_findStretches_14 : decode cX10_findStretches 14 = .ok (.bipush 13, 2) := by decide +kernel
theorem dX10_findStretches_16 : decode cX10_findStretches 16 = .ok (.iload_n 1, 1) := by decide +kernel
theorem dX10_findStretches_17 : decode cX10_findStretches 17 = .ok (.imul, 1) := by decide +kernel
theorem dX10_findStretches_18 : decode cX10_findStretches 18 = .ok (.iconst 0, 1) := by decide +kernel
theorem dX10_findStretches_19 : decode cX10_findStretches 19 = .ok (.iastore, 1) := by decide +kernel
theorem dX10_findStretches_20 : decode cX10_findStretches 20 = .ok (.aload_n 0, 1) := by decide +kernel
theorem dX10_findStretches_21 : decode cX10_findStretches 21 = .ok (.getfield 52, 3) := by decide +kernel
theorem dX10_findStretches_24 : decode cX10_findStretches 24 = .ok (.bipush 13, 2) := by decide +kernel
theorem dX10_findStretches_26 : decode cX10_findStretches 26 = .ok (.iload_n 1, 1) := by decide +kernel
theorem dX10_findStretches_27 : decode cX10_findStretches 27 = .ok (.imul, 1) := by decide +kernel
theorem dX10_findStretches_28 : decode cX10_findStretches 28 = .ok (.iconst 0, 1) := by decide +kernel
theorem dX10_findStretches_29 : decode cX10_findStretches 29 = .ok (.iastore, 1) := by decide +kernel
theorem dX10_findStretches_30 : decode cX10_findStretches 30 = .ok (.aload_n 0, 1) := by decide +kernel
theorem dX10_findStretches_31 : decode cX10_findStretches 31 = .ok (.getfield 55, 3) := by decide +kernel
theorem dX10_findStretches_34 : decode cX10_findStretches 34 = .ok (.bipush 13, 2) := by decide +kernel
theorem dX10_findStretches_36 : decode cX10_findStretches 36 = .ok (.iload_n 1, 1) := by decide +kernel
theorem dX10_findStretches_37 : decode cX10_findStretches 37 = .ok (.imul, 1) := by decide +kernel
theorem dX10_findStretches_38 : decode cX10_findStretches 38 = .ok (.bipush (-9), 2) := by decide +kernel
theorem dX10_findStretches_40 : decode cX10_findStretches 40 = .ok (.iastore, 1) := by decide +kernel
theorem dX10_findStretches_41 : decode cX10_findStretches 41 = .ok (.aload_n 0, 1) := by decide +kernel
theorem dX10_findStretches_42 : decode cX10_findStretches 42 = .ok (.getfield 58, 3) := by decide +kernel
theorem dX10_findStretches_45 : decode cX10_findStretches 45 = .ok (.bipush 13, 2) := by decide +kernel
theorem dX10_findStretches_47 : decode cX10_findStretches 47 = .ok (.iload_n 1, 1) := by decide +kernel
theorem dX10_findStretches_48 : decode cX10_findStretches 48 = .ok (.imul, 1) := by decide +kernel
theorem dX10_findStretches_49 : decode cX10_findStretches 49 = .ok (.bipush (-9), 2) := by decide +kernel
theorem dX10_findStretches_51 : decode cX10_findStretches 51 = .ok (.iastore, 1) := by decide +kernel
theorem dX10_findStretches_52 : decode cX10_findStretches 52 = .ok (.iinc 1 1, 3) := by decide +kernel
theorem dX10_findStretches_55 : decode cX10_findStretches 55 = .ok (.goto (-53), 3) := by decide +kernel
theorem dX10_findStretches_58 : decode cX10_findStretches 58 = .ok (.iconst 1, 1) := by decide +kernel
theorem dX10_findStretches_59 : decode cX10_findStretches 59 = .ok (.istore_n 1, 1) := by decide +kernel
theorem dX10_findStretches_60 : decode cX10_findStretches 60 = .ok (.iload_n 1, 1) := by decide +kernel
theorem dX10_findStretches_61 : decode cX10_findStretches 61 = .ok (.aload_n 0, 1) := by decide +kernel
theorem dX10_findStretches_62 : decode cX10_findStretches 62 = .ok (.getfield 72, 3) := by decide +kernel
theorem dX10_findStretches_65 : decode cX10_findStretches 65 = .ok (.if_icmp .ge 35, 3) := by decide +kernel
theorem dX10_findStretches_68 : decode cX10_findStretches 68 = .ok (.iconst 0, 1) := by decide +kernel
theorem dX10_findStretches_69 : decode cX10_findStretches 69 = .ok (.istore_n 2, 1) := by decide +kernel
theorem dX10_findStretches_70 : decode cX10_findStretches 70 = .ok (.iload_n 2, 1) := by decide +kernel
theorem dX10_findStretches_71 : decode cX10_findStretches 71 = .ok (.iload_n 1, 1) := by decide +kernel
theorem dX10_findStretches_72 : decode cX10_findStretches 72 = .ok (.iadd, 1) := by decide +kernel
theorem dX10_findStretches_73 : decode cX10_findStretches 73 = .ok (.aload_n 0, 1) := by decide +kernel
theorem dX10_findStretches_74 : decode cX10_findStretches 74 = .ok (.getfield 72, 3) := by decide +kernel
theorem dX10_findStretches_77 : decode cX10_findStretches 77 = .ok (.if_icmp .ge 17, 3) := by decide +kernel
theorem dX10_findStretches_80 : decode cX10_findStretches 80 = .ok (.aload_n 0, 1) := by decide +kernel
theorem dX10_findStretches_81 : decode cX10_findStretches 81 = .ok (.iload_n 2, 1) := by decide +kernel
theorem dX10_findStretches_82 : decode cX10_findStretches 82 = .ok (.iload_n 2, 1) := by decide +kernel
theorem dX10_findStretches_83 : decode cX10_findStretches 83 = .ok (.iload_n 1, 1) := by decide +kernel
theorem dX10_findStretches_84 : decode cX10_findStretches 84 = .ok (.iadd, 1) := by decide +kernel
theorem dX10_findStretches_85 : decode cX10_findStretches 85 = .ok (.invokevirtual 205, 3) := by decide +kernel
theorem dX10_findStretches_88 : decode cX10_findStretches 88 = .ok (.iinc 2 1, 3) := by decide +kernel
theorem dX10_findStretches_91 : decode cX10_findStretches 91 = .ok (.goto (-21), 3) := by decide +kernel
theorem dX10_findStretches_94 : decode cX10_findStretches 94 = .ok (.iinc 1 1, 3) := by decide +kernel
theorem dX10_findStretches_97 : decode cX10_findStretches 97 = .ok (.goto (-37), 3) := by decide +kernel
theorem dX10_findStretches_100 : decode cX10_findStretches 100 = .ok (.return_, 1) := by decide +kernel
theorem dX10_find_0 : decode cX10_find 0 = .ok (.aload_n 0, 1) := by decide +kernel
theorem dX10_find_1 : decode cX10_find 1 = .ok (.iload_n 1, 1) := by decide +kernel
theorem dX10_find_2 : decode cX10_find 2 = .ok (.iload_n 2, 1) := by decide +kernel
theorem dX10_find_3 : decode cX10_find 3 = .ok (.invokevirtual 196, 3) := by decide +kernel
theorem dX10_find_6 : decode cX10_find 6 = .ok (.ifCond .ne 9, 3) := by decide +kernel
theorem dX10_find_9 : decode cX10_find 9 = .ok (.aload_n 0, 1) := by decide +kernel
theorem dX10_find_10 : decode cX10_find 10 = .ok (.iconst (-1), 1) := by decide +kernel
theorem dX10_find_11 : decode cX10_find 11 = .ok (.invokevirtual 83, 3) := by decide +kernel
theorem dX10_find_14 : decode cX10_find 14 = .ok (.ireturn, 1) := by decide +kernel
theorem dX10_find_15 : decode cX10_find 15 = .ok (.iload_n 3, 1) := by decide +kernel
theorem dX10_find_16 : decode cX10_find 16 = .ok (.iconst 0, 1) := by decide +kernel
theorem dX10_find_17 : decode cX10_find 17 = .ok (.iconst 1, 1) := by decide +kernel
theorem dX10_find_18 : decode cX10_find 18 = .ok (.invokestatic 94, 3) := by decide +kernel
theorem dX10_find_21 : decode cX10_find 21 = .ok (.ifCond .ne 10, 3) := by decide +kernel
theorem dX10_find_24 : decode cX10_find 24 = .ok (.aload_n 0, 1) := by decide +kernel
theorem dX10_find_25 : decode cX10_find 25 = .ok (.bipush (-2), 2) := by decide +kernel
theorem dX10_find_27 : decode cX10_find 27 = .ok (.invokevirtual 83, 3) := by decide +kernel
theorem dX10_find_30 : decode cX10_find 30 = .ok (.ireturn, 1) := by decide +kernel
theorem dX10_find_31 : decode cX10_find 31 = .ok (.aload_n 0, 1) := by decide +kernel
theorem dX10_find_32 : decode cX10_find 32 = .ok (.invokevirtual 209, 3) := by decide +kernel
theorem dX10_find_35 : decode cX10_find 35 = .ok (.iload_n 3, 1) := by decide +kernel
theorem dX10_find_36 : decode cX10_find 36 = .ok (.ifCond .ne 17, 3) := by decide +kernel
theorem dX10_find_39 : decode cX10_find 39 = .ok (.aload_n 0, 1) := by decide +kernel
theorem dX10_find_40 : decode cX10_find 40 = .ok (.getfield 49, 3) := by decide +kernel
theorem dX10_find_43 : decode cX10_find 43 = .ok (.bipush 12, 2) := by decide +kernel
theorem dX10_find_45 : decode cX10_find 45 = .ok (.iload_n 1, 1) := by decide +kernel
theorem dX10_find_46 : decode cX10_find 46 = .ok (.imul, 1) := by decide +kernel
theorem dX10_find_47 : decode cX10_find 47 = .ok (.iload_n 2, 1) := by decide +kernel
theorem dX10_find_48 : decode cX10_find 48 = .ok (.iadd, 1) := by decide +kernel
theorem dX10_find_49 : decode cX10_find 49 = .ok (.iaload, 1) := by decide +kernel
theorem dX10_find_50 : decode cX10_find 50 = .ok (.goto 14, 3) := by decide +kernel
theorem dX10_find_53 : decode cX10_find 53 = .ok (.aload_n 0, 1) := by decide +kernel
theorem dX10_find_54 : decode cX10_find 54 = .ok (.getfield 52, 3) := by decide +kernel
theorem dX10_find_57 : decode cX10_find 57 = .ok (.bipush 12, 2) := by decide +kernel
theorem dX10_find_59 : decode cX10_find 59 = .ok (.iload_n 1, 1) := by decide +kernel
theorem dX10_find_60 : decode cX10_find 60 = .ok (.imul, 1) := by decide +kernel
theorem dX10_find_61 : decode cX10_find 61 = .ok (.iload_n 2, 1) := by decide +kernel
theorem dX10_find_62 : decode cX10_find 62 = .ok (.iadd, 1) := by decide +kernel
theorem dX10_find_63 : decode cX10_find 63 = .ok (.iaload, 1) := by decide +kernel
theorem dX10_find_64 : decode cX10_find 64 = .ok (.ireturn, 1) := by decide +kernel
theorem dX10_look_0 : decode cX10_look 0 = .ok (.aload_n 0, 1) := by decide +kernel
theorem dX10_look_1 : decode cX10_look 1 = .ok (.iload_n 1, 1) := by decide +kernel
theorem dX10_look_2 : decode cX10_look 2 = .ok (.iload_n 2, 1) := by decide +kernel
theorem dX10_look_3 : decode cX10_look 3 = .ok (.invokevirtual 196, 3) := by decide +kernel
theorem dX10_look_6 : decode cX10_look 6 = .ok (.ifCond .ne 9, 3) := by decide +kernel
theorem dX10_look_9 : decode cX10_look 9 = .ok (.aload_n 0, 1) := by decide +kernel
theorem dX10_look_10 : decode cX10_look 10 = .ok (.iconst (-1), 1) := by decide +kernel
theorem dX10_look_11 : decode cX10_look 11 = .ok (.invokevirtual 83, 3) := by decide +kernel
theorem dX10_look_14 : decode cX10_look 14 = .ok (.ireturn, 1) := by decide +kernel
theorem dX10_look_15 : decode cX10_look 15 = .ok (.iload_n 3, 1) := by decide +kernel
theorem dX10_look_16 : decode cX10_look 16 = .ok (.iconst 0, 1) := by decide +kernel
theorem dX10_look_17 : decode cX10_look 17 = .ok (.iconst 1, 1) := by decide +kernel
theorem dX10_look_18 : decode cX10_look 18 = .ok (.invokestatic 94, 3) := by decide +kernel
theorem dX10_look_21 : decode cX10_look 21 = .ok (.ifCond .ne 10, 3) := by decide +kernel
theorem dX10_look_24 : decode cX10_look 24 = .ok (.aload_n 0, 1) := by decide +kernel
theorem dX10_look_25 : decode cX10_look 25 = .ok (.bipush (-2), 2) := by decide +kernel
theorem dX10_look_27 : decode cX10_look 27 = .ok (.invokevirtual 83, 3) := by decide +kernel
theorem dX10_look_30 : decode cX10_look 30 = .ok (.ireturn, 1) := by decide +kernel
theorem dX10_look_31 : decode cX10_look 31 = .ok (.aload_n 0, 1) := by decide +kernel
theorem dX10_look_32 : decode cX10_look 32 = .ok (.invokevirtual 209, 3) := by decide +kernel
theorem dX10_look_35 : decode cX10_look 35 = .ok (.iload_n 3, 1) := by decide +kernel
theorem dX10_look_36 : decode cX10_look 36 = .ok (.ifCond .ne 17, 3) := by decide +kernel
theorem dX10_look_39 : decode cX10_look 39 = .ok (.aload_n 0, 1) := by decide +kernel
theorem dX10_look_40 : decode cX10_look 40 = .ok (.getfield 55, 3) := by decide +kernel
theorem dX10_look_43 : decode cX10_look 43 = .ok (.bipush 12, 2) := by decide +kernel
theorem dX10_look_45 : decode cX10_look 45 = .ok (.iload_n 1, 1) := by decide +kernel
theorem dX10_look_46 : decode cX10_look 46 = .ok (.imul, 1) := by decide +kernel
theorem dX10_look_47 : decode cX10_look 47 = .ok (.iload_n 2, 1) := by decide +kernel
theorem dX10_look_48 : decode cX10_look 48 = .ok (.iadd, 1) := by decide +kernel
theorem dX10_look_49 : decode cX10_look 49 = .ok (.iaload, 1) := by decide +kernel
theorem dX10_look_50 : decode cX10_look 50 = .ok (.goto 14, 3) := by decide +kernel
theorem dX10_look_53 : decode cX10_look 53 = .ok (.aload_n 0, 1) := by decide +kernel
theorem dX10_look_54 : decode cX10_look 54 = .ok (.getfield 58, 3) := by decide +kernel
theorem dX10_look_57 : decode cX10_look 57 = .ok (.bipush 12, 2) := by decide +kernel
theorem dX10_look_59 : decode cX10_look 59 = .ok (.iload_n 1, 1) := by decide +kernel
theorem dX10_look_60 : decode cX10_look 60 = .ok (.imul, 1) := by decide +kernel
theorem dX10_look_61 : decode cX10_look 61 = .ok (.iload_n 2, 1) := by decide +kernel
theorem dX10_look_62 : decode cX10_look 62 = .ok (.iadd, 1) := by decide +kernel
theorem dX10_look_63 : decode cX10_look 63 = .ok (.iaload, 1) := by decide +kernel
theorem dX10_look_64 : decode cX10_look 64 = .ok (.ireturn, 1) := by decide +kernel
theorem dX10_findOrder_0 : decode cX10_findOrder 0 = .ok (.iconst 0, 1) := by decide +kernel
theorem dX10_findOrder_1 : decode cX10_findOrder 1 = .ok (.istore_n 1, 1) := by decide +kernel
theorem dX10_findOrder_2 : decode cX10_findOrder 2 = .ok (.iload_n 1, 1) := by decide +kernel
theorem dX10_findOrder_3 : decode cX10_findOrder 3 = .ok (.aload_n 0, 1) := by decide +kernel
theorem dX10_findOrder_4 : decode cX10_findOrder 4 = .ok (.getfield 72, 3) := by decide +kernel
theorem dX10_findOrder_7 : decode cX10_findOrder 7 = .ok (.if_icmp .ge 83, 3) := by decide +kernel
theorem dX10_findOrder_10 : decode cX10_findOrder 10 = .ok (.iload_n 1, 1) := by decide +kernel
theorem dX10_findOrder_11 : decode cX10_findOrder 11 = .ok (.istore_n 2, 1) := by decide +kernel
theorem dX10_findOrder_12 : decode cX10_findOrder 12 = .ok (.iload_n 2, 1) := by decide +kernel
theorem dX10_findOrder_13 : decode cX10_findOrder 13 = .ok (.ifCond .le 64, 3) := by decide +kernel
theorem dX10_findOrder_16 : decode cX10_findOrder 16 = .ok (.aload_n 0, 1) := by decide +kernel
theorem dX10_findOrder_17 : decode cX10_findOrder 17 = .ok (.getfield 19, 3) := by decide +kernel
theorem dX10_findOrder_20 : decode cX10_findOrder 20 = .ok (.iload_n 1, 1) := by decide +kernel
theorem dX10_findOrder_21 : decode cX10_findOrder 21 = .ok (.iaload, 1) := by decide +kernel
theorem dX10_findOrder_22 : decode cX10_findOrder 22 = .ok (.aload_n 0, 1) := by decide +kernel
theorem dX10_findOrder_23 : decode cX10_findOrder 23 = .ok (.aload_n 0, 1) := by decide +kernel
theorem dX10_findOrder_24 : decode cX10_findOrder 24 = .ok (.getfield 61, 3) := by decide +kernel
theorem dX10_findOrder_27 : decode cX10_findOrder 27 = .ok (.iload_n 2, 1) := by decide +kernel
theorem dX10_findOrder_28 : decode cX10_findOrder 28 = .ok (.iconst 1, 1) := by decide +kernel
theorem dX10_findOrder_29 : decode cX10_findOrder 29 = .ok (.isub, 1) := by decide +kernel
theorem dX10_findOrder_30 : decode cX10_findOrder 30 = .ok (.iaload, 1) := by decide +kernel
theorem dX10_findOrder_31 : decode cX10_findOrder 31 = .ok (.invokevirtual 174, 3) := by decide +kernel
theorem dX10_findOrder_34 : decode cX10_findOrder 34 = .ok (.imul, 1) := by decide +kernel
theorem dX10_findOrder_35 : decode cX10_findOrder 35 = .ok (.aload_n 0, 1) := by decide +kernel
theorem dX10_findOrder_36 : decode cX10_findOrder 36 = .ok (.getfield 19, 3) := by decide +kernel
theorem dX10_findOrder_39 : decode cX10_findOrder 39 = .ok (.aload_n 0, 1) := by decide +kernel
theorem dX10_findOrder_40 : decode cX10_findOrder 40 = .ok (.getfield 61, 3) := by decide +kernel
theorem dX10_findOrder_43 : decode cX10_findOrder 43 = .ok (.iload_n 2, 1) := by decide +kernel
theorem dX10_findOrder_44 : decode cX10_findOrder 44 = .ok (.iconst 1, 1) := by decide +kernel
theorem dX10_findOrder_45 : decode cX10_findOrder 45 = .ok (.isub, 1) := by decide +kernel
theorem dX10_findOrder_46 : decode cX10_findOrder 46 = .ok (.iaload, 1) := by decide +kernel
theorem dX10_findOrder_47 : decode cX10_findOrder 47 = .ok (.iaload, 1) := by decide +kernel
theorem dX10_findOrder_48 : decode cX10_findOrder 48 = .ok (.aload_n 0, 1) := by decide +kernel
theorem dX10_findOrder_49 : decode cX10_findOrder 49 = .ok (.iload_n 1, 1) := by decide +kernel
theorem dX10_findOrder_50 : decode cX10_findOrder 50 = .ok (.invokevirtual 174, 3) := by decide +kernel
theorem dX10_findOrder_53 : decode cX10_findOrder 53 = .ok (.imul, 1) := by decide +kernel
theorem dX10_findOrder_54 : decode cX10_findOrder 54 = .ok (.if_icmp .ge 23, 3) := by decide +kernel
theorem dX10_findOrder_57 : decode cX10_findOrder 57 = .ok (.aload_n 0, 1) := by decide +kernel
theorem dX10_findOrder_58 : decode cX10_findOrder 58 = .ok (.getfield 61, 3) := by decide +kernel
theorem dX10_findOrder_61 : decode cX10_findOrder 61 = .ok (.iload_n 2, 1) := by decide +kernel
theorem dX10_findOrder_62 : decode cX10_findOrder 62 = .ok (.aload_n 0, 1) := by decide +kernel
theorem dX10_findOrder_63 : decode cX10_findOrder 63 = .ok (.getfield 61, 3) := by decide +kernel
theorem dX10_findOrder_66 : decode cX10_findOrder 66 = .ok (.iload_n 2, 1) := by decide +kernel
theorem dX10_findOrder_67 : decode cX10_findOrder 67 = .ok (.iconst 1, 1) := by decide +kernel
theorem dX10_findOrder_68 : decode cX10_findOrder 68 = .ok (.isub, 1) := by decide +kernel
theorem dX10_findOrder_69 : decode cX10_findOrder 69 = .ok (.iaload, 1) := by decide +kernel
theorem dX10_findOrder_70 : decode cX10_findOrder 70 = .ok (.iastore, 1) := by decide +kernel
theorem dX10_findOrder_71 : decode cX10_findOrder 71 = .ok (.iinc 2 (-1), 3) := by decide +kernel
theorem dX10_findOrder_74 : decode cX10_findOrder 74 = .ok (.goto (-62), 3) := by decide +kernel
theorem dX10_findOrder_77 : decode cX10_findOrder 77 = .ok (.aload_n 0, 1) := by decide +kernel
theorem dX10_findOrder_78 : decode cX10_findOrder 78 = .ok (.getfield 61, 3) := by decide +kernel
theorem dX10_findOrder_81 : decode cX10_findOrder 81 = .ok (.iload_n 2, 1) := by decide +kernel
theorem dX10_findOrder_82 : decode cX10_findOrder 82 = .ok (.iload_n 1, 1) := by decide +kernel
theorem dX10_findOrder_83 : decode cX10_findOrder 83 = .ok (.iastore, 1) := by decide +kernel
theorem dX10_findOrder_84 : decode cX10_findOrder 84 = .ok (.iinc 1 1, 3) := by decide +kernel
theorem dX10_findOrder_87 : decode cX10_findOrder 87 = .ok (.goto (-85), 3) := by decide +kernel
theorem dX10_findOrder_90 : decode cX10_findOrder 90 = .ok (.return_, 1) := by decide +kernel
theorem dX10_order_0 : decode cX10_order 0 = .ok (.iload_n 1, 1) := by decide +kernel
theorem dX10_order_1 : decode cX10_order 1 = .ok (.ifCond .ge 10, 3) := by decide +kernel
theorem dX10_order_4 : decode cX10_order 4 = .ok (.aload_n 0, 1) := by decide +kernel
theorem dX10_order_5 : decode cX10_order 5 = .ok (.bipush (-4), 2) := by decide +kernel
theorem dX10_order_7 : decode cX10_order 7 = .ok (.invokevirtual 83, 3) := by decide +kernel
theorem dX10_order_10 : decode cX10_order 10 = .ok (.ireturn, 1) := by decide +kernel
theorem dX10_order_11 : decode cX10_order 11 = .ok (.aload_n 0, 1) := by decide +kernel
theorem dX10_order_12 : decode cX10_order 12 = .ok (.invokevirtual 212, 3) := by decide +kernel
theorem dX10_order_15 : decode cX10_order 15 = .ok (.iload_n 1, 1) := by decide +kernel
theorem dX10_order_16 : decode cX10_order 16 = .ok (.aload_n 0, 1) := by decide +kernel
theorem dX10_order_17 : decode cX10_order 17 = .ok (.getfield 72, 3) := by decide +kernel
theorem dX10_order_20 : decode cX10_order 20 = .ok (.if_icmp .ge 12, 3) := by decide +kernel
theorem dX10_order_23 : decode cX10_order 23 = .ok (.aload_n 0, 1) := by decide +kernel
theorem dX10_order_24 : decode cX10_order 24 = .ok (.getfield 61, 3) := by decide +kernel
theorem dX10_order_27 : decode cX10_order 27 = .ok (.iload_n 1, 1) := by decide +kernel
theorem dX10_order_28 : decode cX10_order 28 = .ok (.iaload, 1) := by decide +kernel
theorem dX10_order_29 : decode cX10_order 29 = .ok (.goto 5, 3) := by decide +kernel
theorem dX10_order_32 : decode cX10_order 32 = .ok (.bipush (-9), 2) := by decide +kernel
theorem dX10_order_34 : decode cX10_order 34 = .ok (.ireturn, 1) := by decide +kernel
theorem dX10_orderSum_0 : decode cX10_orderSum 0 = .ok (.aload_n 0, 1) := by decide +kernel
theorem dX10_orderSum_1 : decode cX10_orderSum 1 = .ok (.getfield 72, 3) := by decide +kernel
theorem dX10_orderSum_4 : decode cX10_orderSum 4 = .ok (.ifCond .ne 10, 3) := by decide +kernel
theorem dX10_orderSum_7 : decode cX10_orderSum 7 = .ok (.aload_n 0, 1) := by decide +kernel
theorem dX10_orderSum_8 : decode cX10_orderSum 8 = .ok (.bipush (-3), 2) := by decide +kernel
theorem dX10_orderSum_10 : decode cX10_orderSum 10 = .ok (.invokevirtual 83, 3) := by decide +kernel
theorem dX10_orderSum_13 : decode cX10_orderSum 13 = .ok (.ireturn, 1) := by decide +kernel
theorem dX10_orderSum_14 : decode cX10_orderSum 14 = .ok (.aload_n 0, 1) := by decide +kernel
theorem dX10_orderSum_15 : decode cX10_orderSum 15 = .ok (.invokevirtual 212, 3) := by decide +kernel
theorem dX10_orderSum_18 : decode cX10_orderSum 18 = .ok (.iconst 0, 1) := by decide +kernel
theorem dX10_orderSum_19 : decode cX10_orderSum 19 = .ok (.istore_n 1, 1) := by decide +kernel
theorem dX10_orderSum_20 : decode cX10_orderSum 20 = .ok (.iconst 0, 1) := by decide +kernel
theorem dX10_orderSum_21 : decode cX10_orderSum 21 = .ok (.istore_n 2, 1) := by decide +kernel
theorem dX10_orderSum_22 : decode cX10_orderSum 22 = .ok (.iconst 0, 1) := by decide +kernel
theorem dX10_orderSum_23 : decode cX10_orderSum 23 = .ok (.istore_n 3, 1) := by decide +kernel
theorem dX10_orderSum_24 : decode cX10_orderSum 24 = .ok (.iload_n 3, 1) := by decide +kernel
theorem dX10_orderSum_25 : decode cX10_orderSum 25 = .ok (.aload_n 0, 1) := by decide +kernel
theorem dX10_orderSum_26 : decode cX10_orderSum 26 = .ok (.getfield 72, 3) := by decide +kernel
theorem dX10_orderSum_29 : decode cX10_orderSum 29 = .ok (.if_icmp .ge 38, 3) := by decide +kernel
theorem dX10_orderSum_32 : decode cX10_orderSum 32 = .ok (.iload_n 1, 1) := by decide +kernel
theorem dX10_orderSum_33 : decode cX10_orderSum 33 = .ok (.aload_n 0, 1) := by decide +kernel
theorem dX10_orderSum_34 : decode cX10_orderSum 34 = .ok (.getfield 19, 3) := by decide +kernel
theorem dX10_orderSum_37 : decode cX10_orderSum 37 = .ok (.aload_n 0, 1) := by decide +kernel
theorem dX10_orderSum_38 : decode cX10_orderSum 38 = .ok (.getfield 61, 3) := by decide +kernel
theorem dX10_orderSum_41 : decode cX10_orderSum 41 = .ok (.iload_n 3, 1) := by decide +kernel
theorem dX10_orderSum_42 : decode cX10_orderSum 42 = .ok (.iaload, 1) := by decide +kernel
theorem dX10_orderSum_43 : decode cX10_orderSum 43 = .ok (.iaload, 1) := by decide +kernel
theorem dX10_orderSum_44 : decode cX10_orderSum 44 = .ok (.iadd, 1) := by decide +kernel
theorem dX10_orderSum_45 : decode cX10_orderSum 45 = .ok (.istore_n 1, 1) := by decide +kernel
theorem dX10_orderSum_46 : decode cX10_orderSum 46 = .ok (.iload_n 2, 1) := by decide +kernel
theorem dX10_orderSum_47 : decode cX10_orderSum 47 = .ok (.aload_n 0, 1) := by decide +kernel
theorem dX10_orderSum_48 : decode cX10_orderSum 48 = .ok (.aload_n 0, 1) := by decide +kernel
theorem dX10_orderSum_49 : decode cX10_orderSum 49 = .ok (.getfield 61, 3) := by decide +kernel
theorem dX10_orderSum_52 : decode cX10_orderSum 52 = .ok (.iload_n 3, 1) := by decide +kernel
theorem dX10_orderSum_53 : decode cX10_orderSum 53 = .ok (.iaload, 1) := by decide +kernel
theorem dX10_orderSum_54 : decode cX10_orderSum 54 = .ok (.invokevirtual 174, 3) := by decide +kernel
theorem dX10_orderSum_57 : decode cX10_orderSum 57 = .ok (.iload_n 1, 1) := by decide +kernel
theorem dX10_orderSum_58 : decode cX10_orderSum 58 = .ok (.imul, 1) := by decide +kernel
theorem dX10_orderSum_59 : decode cX10_orderSum 59 = .ok (.iadd, 1) := by decide +kernel
theorem dX10_orderSum_60 : decode cX10_orderSum 60 = .ok (.istore_n 2, 1) := by decide +kernel
theorem dX10_orderSum_61 : decode cX10_orderSum 61 = .ok (.iinc 3 1, 3) := by decide +kernel
theorem dX10_orderSum_64 : decode cX10_orderSum 64 = .ok (.goto (-40), 3) := by decide +kernel
theorem dX10_orderSum_67 : decode cX10_orderSum 67 = .ok (.iload_n 2, 1) := by decide +kernel
theorem dX10_orderSum_68 : decode cX10_orderSum 68 = .ok (.ireturn, 1) := by decide +kernel
theorem dX10_told_0 : decode cX10_told 0 = .ok (.aload_n 0, 1) := by decide +kernel
theorem dX10_told_1 : decode cX10_told 1 = .ok (.iload_n 1, 1) := by decide +kernel
theorem dX10_told_2 : decode cX10_told 2 = .ok (.invokevirtual 112, 3) := by decide +kernel
theorem dX10_told_5 : decode cX10_told 5 = .ok (.ifCond .ne 9, 3) := by decide +kernel
theorem dX10_told_8 : decode cX10_told 8 = .ok (.aload_n 0, 1) := by decide +kernel
theorem dX10_told_9 : decode cX10_told 9 = .ok (.iconst (-1), 1) := by decide +kernel
theorem dX10_told_10 : decode cX10_told 10 = .ok (.invokevirtual 83, 3) := by decide +kernel
theorem dX10_told_13 : decode cX10_told 13 = .ok (.ireturn, 1) := by decide +kernel
theorem dX10_told_14 : decode cX10_told 14 = .ok (.iload_n 2, 1) := by decide +kernel
theorem dX10_told_15 : decode cX10_told 15 = .ok (.iconst 0, 1) := by decide +kernel
theorem dX10_told_16 : decode cX10_told 16 = .ok (.iconst 1, 1) := by decide +kernel
theorem dX10_told_17 : decode cX10_told 17 = .ok (.invokestatic 94, 3) := by decide +kernel
theorem dX10_told_20 : decode cX10_told 20 = .ok (.ifCond .ne 10, 3) := by decide +kernel
theorem dX10_told_23 : decode cX10_told 23 = .ok (.aload_n 0, 1) := by decide +kernel
theorem dX10_told_24 : decode cX10_told 24 = .ok (.bipush (-2), 2) := by decide +kernel
theorem dX10_told_26 : decode cX10_told 26 = .ok (.invokevirtual 83, 3) := by decide +kernel
theorem dX10_told_29 : decode cX10_told 29 = .ok (.ireturn, 1) := by decide +kernel
theorem dX10_told_30 : decode cX10_told 30 = .ok (.aload_n 0, 1) := by decide +kernel
theorem dX10_told_31 : decode cX10_told 31 = .ok (.getfield 215, 3) := by decide +kernel
theorem dX10_told_34 : decode cX10_told 34 = .ok (.bipush 6, 2) := by decide +kernel
theorem dX10_told_36 : decode cX10_told 36 = .ok (.if_icmp .ne 10, 3) := by decide +kernel
theorem dX10_told_39 : decode cX10_told 39 = .ok (.aload_n 0, 1) := by decide +kernel
theorem dX10_told_40 : decode cX10_told 40 = .ok (.bipush (-6), 2) := by decide +kernel
theorem dX10_told_42 : decode cX10_told 42 = .ok (.invokevirtual 83, 3) := by decide +kernel
theorem dX10_told_45 : decode cX10_told 45 = .ok (.ireturn, 1) := by decide +kernel
theorem dX10_told_46 : decode cX10_told 46 = .ok (.aload_n 0, 1) := by decide +kernel
theorem dX10_told_47 : decode cX10_told 47 = .ok (.getfield 64, 3) := by decide +kernel
theorem dX10_told_50 : decode cX10_told 50 = .ok (.aload_n 0, 1) := by decide +kernel
theorem dX10_told_51 : decode cX10_told 51 = .ok (.getfield 215, 3) := by decide +kernel
theorem dX10_told_54 : decode cX10_told 54 = .ok (.iload_n 1, 1) := by decide +kernel
theorem dX10_told_55 : decode cX10_told 55 = .ok (.iastore, 1) := by decide +kernel
theorem dX10_told_56 : decode cX10_told 56 = .ok (.aload_n 0, 1) := by decide +kernel
theorem dX10_told_57 : decode cX10_told 57 = .ok (.getfield 67, 3) := by decide +kernel
theorem dX10_told_60 : decode cX10_told 60 = .ok (.aload_n 0, 1) := by decide +kernel
theorem dX10_told_61 : decode cX10_told 61 = .ok (.getfield 215, 3) := by decide +kernel
theorem dX10_told_64 : decode cX10_told 64 = .ok (.iload_n 2, 1) := by decide +kernel
theorem dX10_told_65 : decode cX10_told 65 = .ok (.iastore, 1) := by decide +kernel
theorem dX10_told_66 : decode cX10_told 66 = .ok (.aload_n 0, 1) := by decide +kernel
theorem dX10_told_67 : decode cX10_told 67 = .ok (.dup, 1) := by decide +kernel
theorem dX10_told_68 : decode cX10_told 68 = .ok (.getfield 215, 3) := by decide +kernel
theorem dX10_told_71 : decode cX10_told 71 = .ok (.iconst 1, 1) := by decide +kernel
theorem dX10_told_72 : decode cX10_told 72 = .ok (.iadd, 1) := by decide +kernel
theorem dX10_told_73 : decode cX10_told 73 = .ok (.putfield 215, 3) := by decide +kernel
theorem dX10_told_76 : decode cX10_told 76 = .ok (.aload_n 0, 1) := by decide +kernel
theorem dX10_told_77 : decode cX10_told 77 = .ok (.getfield 215, 3) := by decide +kernel
theorem dX10_told_80 : decode cX10_told 80 = .ok (.ireturn, 1) := by decide +kernel
theorem dX10_openBy_0 : decode cX10_openBy 0 = .ok (.iconst 0, 1) := by decide +kernel
theorem dX10_openBy_1 : decode cX10_openBy 1 = .ok (.istore_n 2, 1) := by decide +kernel
theorem dX10_openBy_2 : decode cX10_openBy 2 = .ok (.iconst 0, 1) := by decide +kernel
theorem dX10_openBy_3 : decode cX10_openBy 3 = .ok (.istore_n 3, 1) := by decide +kernel
theorem dX10_openBy_4 : decode cX10_openBy 4 = .ok (.iload_n 3, 1) := by decide +kernel
theorem dX10_openBy_5 : decode cX10_openBy 5 = .ok (.aload_n 0, 1) := by decide +kernel
theorem dX10_openBy_6 : decode cX10_openBy 6 = .ok (.getfield 72, 3) := by decide +kernel
theorem dX10_openBy_9 : decode cX10_openBy 9 = .ok (.if_icmp .ge 89, 3) := by decide +kernel
theorem dX10_openBy_12 : decode cX10_openBy 12 = .ok (.iconst 1, 1) := by decide +kernel
theorem dX10_openBy_13 : decode cX10_openBy 13 = .ok (.istore 4, 2) := by decide +kernel
theorem dX10_openBy_15 : decode cX10_openBy 15 = .ok (.iconst 0, 1) := by decide +kernel
theorem dX10_openBy_16 : decode cX10_openBy 16 = .ok (.istore 5, 2) := by decide +kernel
theorem dX10_openBy_18 : decode cX10_openBy 18 = .ok (.iload 5, 2) := by decide +kernel
theorem dX10_openBy_20 : decode cX10_openBy 20 = .ok (.iload_n 1, 1) := by decide +kernel
theorem dX10_openBy_21 : decode cX10_openBy 21 = .ok (.if_icmp .ge 56, 3) := by decide +kernel
theorem dX10_openBy_24 : decode cX10_openBy 24 = .ok (.iload 4, 2) := by decide +kernel
theorem dX10_openBy_26 : decode cX10_openBy 26 = .ok (.ifCond .eq 42, 3) := by decide +kernel
theorem dX10_openBy_29 : decode cX10_openBy 29 = .ok (.iload_n 3, 1) := by decide +kernel
theorem dX10_openBy_30 : decode cX10_openBy 30 = .ok (.aload_n 0, 1) := by decide +kernel
theorem dX10_openBy_31 : decode cX10_openBy 31 = .ok (.getfield 64, 3) := by decide +kernel
theorem dX10_openBy_34 : decode cX10_openBy 34 = .ok (.iload 5, 2) := by decide +kernel
theorem dX10_openBy_36 : decode cX10_openBy 36 = .ok (.iaload, 1) := by decide +kernel
theorem dX10_openBy_37 : decode cX10_openBy 37 = .ok (.if_icmp .lt 7, 3) := by decide +kernel
theorem dX10_openBy_40 : decode cX10_openBy 40 = .ok (.iconst 1, 1) := by decide +kernel
theorem dX10_openBy_41 : decode cX10_openBy 41 = .ok (.goto 4, 3) := by decide +kernel
theorem dX10_openBy_44 : decode cX10_openBy 44 = .ok (.iconst 0, 1) := by decide +kernel
theorem dX10_openBy_45 : decode cX10_openBy 45 = .ok (.aload_n 0, 1) := by decide +kernel
theorem dX10_openBy_46 : decode cX10_openBy 46 = .ok (.getfield 67, 3) := by decide +kernel
theorem dX10_openBy_49 : decode cX10_openBy 49 = .ok (.iload 5, 2) := by decide +kernel
theorem dX10_openBy_51 : decode cX10_openBy 51 = .ok (.iaload, 1) := by decide +kernel
theorem dX10_openBy_52 : decode cX10_openBy 52 = .ok (.iconst 1, 1) := by decide +kernel
theorem dX10_openBy_53 : decode cX10_openBy 53 = .ok (.if_icmp .ne 7, 3) := by decide +kernel
theorem dX10_openBy_56 : decode cX10_openBy 56 = .ok (.iconst 1, 1) := by decide +kernel
theorem dX10_openBy_57 : decode cX10_openBy 57 = .ok (.goto 4, 3) := by decide +kernel
theorem dX10_openBy_60 : decode cX10_openBy 60 = .ok (.iconst 0, 1) := by decide +kernel
theorem dX10_openBy_61 : decode cX10_openBy 61 = .ok (.if_icmp .ne 7, 3) := by decide +kernel
theorem dX10_openBy_64 : decode cX10_openBy 64 = .ok (.iconst 1, 1) := by decide +kernel
theorem dX10_openBy_65 : decode cX10_openBy 65 = .ok (.goto 4, 3) := by decide +kernel
theorem dX10_openBy_68 : decode cX10_openBy 68 = .ok (.iconst 0, 1) := by decide +kernel
theorem dX10_openBy_69 : decode cX10_openBy 69 = .ok (.istore 4, 2) := by decide +kernel
theorem dX10_openBy_71 : decode cX10_openBy 71 = .ok (.iinc 5 1, 3) := by decide +kernel
theorem dX10_openBy_74 : decode cX10_openBy 74 = .ok (.goto (-56), 3) := by decide +kernel
theorem dX10_openBy_77 : decode cX10_openBy 77 = .ok (.iload_n 2, 1) := by decide +kernel
theorem dX10_openBy_78 : decode cX10_openBy 78 = .ok (.iload 4, 2) := by decide +kernel
theorem dX10_openBy_80 : decode cX10_openBy 80 = .ok (.ifCond .eq 9, 3) := by decide +kernel
theorem dX10_openBy_83 : decode cX10_openBy 83 = .ok (.iconst 1, 1) := by decide +kernel
theorem dX10_openBy_84 : decode cX10_openBy 84 = .ok (.iload_n 3, 1) := by decide +kernel
theorem dX10_openBy_85 : decode cX10_openBy 85 = .ok (.ishl, 1) := by decide +kernel
theorem dX10_openBy_86 : decode cX10_openBy 86 = .ok (.goto 4, 3) := by decide +kernel
theorem dX10_openBy_89 : decode cX10_openBy 89 = .ok (.iconst 0, 1) := by decide +kernel
theorem dX10_openBy_90 : decode cX10_openBy 90 = .ok (.ior, 1) := by decide +kernel
theorem dX10_openBy_91 : decode cX10_openBy 91 = .ok (.istore_n 2, 1) := by decide +kernel
theorem dX10_openBy_92 : decode cX10_openBy 92 = .ok (.iinc 3 1, 3) := by decide +kernel
theorem dX10_openBy_95 : decode cX10_openBy 95 = .ok (.goto (-91), 3) := by decide +kernel
theorem dX10_openBy_98 : decode cX10_openBy 98 = .ok (.iload_n 2, 1) := by decide +kernel
theorem dX10_openBy_99 : decode cX10_openBy 99 = .ok (.ireturn, 1) := by decide +kernel
theorem dX10_openTo_0 : decode cX10_openTo 0 = .ok (.aload_n 0, 1) := by decide +kernel
theorem dX10_openTo_1 : decode cX10_openTo 1 = .ok (.aload_n 0, 1) := by decide +kernel
theorem dX10_openTo_2 : decode cX10_openTo 2 = .ok (.getfield 215, 3) := by decide +kernel
theorem dX10_openTo_5 : decode cX10_openTo 5 = .ok (.invokevirtual 218, 3) := by decide +kernel
theorem dX10_openTo_8 : decode cX10_openTo 8 = .ok (.ireturn, 1) := by decide +kernel
theorem dX10_judge_0 : decode cX10_judge 0 = .ok (.bipush (-9), 2) := by decide +kernel
theorem dX10_judge_2 : decode cX10_judge 2 = .ok (.istore_n 1, 1) := by decide +kernel
theorem dX10_judge_3 : decode cX10_judge 3 = .ok (.aload_n 0, 1) := by decide +kernel
theorem dX10_judge_4 : decode cX10_judge 4 = .ok (.getfield 215, 3) := by decide +kernel
theorem dX10_judge_7 : decode cX10_judge 7 = .ok (.istore_n 2, 1) := by decide +kernel
theorem dX10_judge_8 : decode cX10_judge 8 = .ok (.iload_n 2, 1) := by decide +kernel
theorem dX10_judge_9 : decode cX10_judge 9 = .ok (.ifCond .le 25, 3) := by decide +kernel
theorem dX10_judge_12 : decode cX10_judge 12 = .ok (.aload_n 0, 1) := by decide +kernel
theorem dX10_judge_13 : decode cX10_judge 13 = .ok (.iload_n 2, 1) := by decide +kernel
theorem dX10_judge_14 : decode cX10_judge 14 = .ok (.invokevirtual 218, 3) := by decide +kernel
theorem dX10_judge_17 : decode cX10_judge 17 = .ok (.ifCond .ne 9, 3) := by decide +kernel
theorem dX10_judge_20 : decode cX10_judge 20 = .ok (.iload_n 2, 1) := by decide +kernel
theorem dX10_judge_21 : decode cX10_judge 21 = .ok (.iconst 1, 1) := by decide +kernel
theorem dX10_judge_22 : decode cX10_judge 22 = .ok (.isub, 1) := by decide +kernel
theorem dX10_judge_23 : decode cX10_judge 23 = .ok (.goto 4, 3) := by decide +kernel
theorem dX10_judge_26 : decode cX10_judge 26 = .ok (.iload_n 1, 1) := by decide +kernel
theorem dX10_judge_27 : decode cX10_judge 27 = .ok (.istore_n 1, 1) := by decide +kernel
theorem dX10_judge_28 : decode cX10_judge 28 = .ok (.iinc 2 (-1), 3) := by decide +kernel
theorem dX10_judge_31 : decode cX10_judge 31 = .ok (.goto (-23), 3) := by decide +kernel
theorem dX10_judge_34 : decode cX10_judge 34 = .ok (.aload_n 0, 1) := by decide +kernel
theorem dX10_judge_35 : decode cX10_judge 35 = .ok (.iconst 0, 1) := by decide +kernel
theorem dX10_judge_36 : decode cX10_judge 36 = .ok (.putfield 215, 3) := by decide +kernel
theorem dX10_judge_39 : decode cX10_judge 39 = .ok (.iload_n 1, 1) := by decide +kernel
theorem dX10_judge_40 : decode cX10_judge 40 = .ok (.ireturn, 1) := by decide +kernel
theorem dX10_lasts_0 : decode cX10_lasts 0 = .ok (.aload_n 0, 1) := by decide +kernel
theorem dX10_lasts_1 : decode cX10_lasts 1 = .ok (.iconst 1, 1) := by decide +kernel
theorem dX10_lasts_2 : decode cX10_lasts 2 = .ok (.iconst 1, 1) := by decide +kernel
theorem dX10_lasts_3 : decode cX10_lasts 3 = .ok (.invokevirtual 119, 3) := by decide +kernel
theorem dX10_lasts_6 : decode cX10_lasts 6 = .ok (.bipush (-9), 2) := by decide +kernel
theorem dX10_lasts_8 : decode cX10_lasts 8 = .ok (.istore_n 1, 1) := by decide +kernel
theorem dX10_lasts_9 : decode cX10_lasts 9 = .ok (.iconst 0, 1) := by decide +kernel
theorem dX10_lasts_10 : decode cX10_lasts 10 = .ok (.istore_n 2, 1) := by decide +kernel
theorem dX10_lasts_11 : decode cX10_lasts 11 = .ok (.iload_n 2, 1) := by decide +kernel
theorem dX10_lasts_12 : decode cX10_lasts 12 = .ok (.sipush 400, 3) := by decide +kernel
theorem dX10_lasts_15 : decode cX10_lasts 15 = .ok (.if_icmp .gt 27, 3) := by decide +kernel
theorem dX10_lasts_18 : decode cX10_lasts 18 = .ok (.iload_n 1, 1) := by decide +kernel
theorem dX10_lasts_19 : decode cX10_lasts 19 = .ok (.ifCond .ge 23, 3) := by decide +kernel
theorem dX10_lasts_22 : decode cX10_lasts 22 = .ok (.aload_n 0, 1) := by decide +kernel
theorem dX10_lasts_23 : decode cX10_lasts 23 = .ok (.invokevirtual 155, 3) := by decide +kernel
theorem dX10_lasts_26 : decode cX10_lasts 26 = .ok (.ifCond .ne 5, 3) := by decide +kernel
theorem dX10_lasts_29 : decode cX10_lasts 29 = .ok (.iload_n 2, 1) := by decide +kernel
theorem dX10_lasts_30 : decode cX10_lasts 30 = .ok (.istore_n 1, 1) := by decide +kernel
theorem dX10_lasts_31 : decode cX10_lasts 31 = .ok (.aload_n 0, 1) := by decide +kernel
theorem dX10_lasts_32 : decode cX10_lasts 32 = .ok (.invokevirtual 189, 3) := by decide +kernel
theorem dX10_lasts_35 : decode cX10_lasts 35 = .ok (.pop, 1) := by decide +kernel
theorem dX10_lasts_36 : decode cX10_lasts 36 = .ok (.iinc 2 1, 3) := by decide +kernel
theorem dX10_lasts_39 : decode cX10_lasts 39 = .ok (.goto (-28), 3) := by decide +kernel
theorem dX10_lasts_42 : decode cX10_lasts 42 = .ok (.aload_n 0, 1) := by decide +kernel
theorem dX10_lasts_43 : decode cX10_lasts 43 = .ok (.iconst 1, 1) := by decide +kernel
theorem dX10_lasts_44 : decode cX10_lasts 44 = .ok (.iconst 0, 1) := by decide +kernel
theorem dX10_lasts_45 : decode cX10_lasts 45 = .ok (.invokevirtual 119, 3) := by decide +kernel
theorem dX10_lasts_48 : decode cX10_lasts 48 = .ok (.iload_n 1, 1) := by decide +kernel
theorem dX10_lasts_49 : decode cX10_lasts 49 = .ok (.ireturn, 1) := by decide +kernel
theorem dX10_findNext_0 : decode cX10_findNext 0 = .ok (.aload_n 0, 1) := by decide +kernel
theorem dX10_findNext_1 : decode cX10_findNext 1 = .ok (.bipush (-9), 2) := by decide +kernel
theorem dX10_findNext_3 : decode cX10_findNext 3 = .ok (.putfield 221, 3) := by decide +kernel
theorem dX10_findNext_6 : decode cX10_findNext 6 = .ok (.aload_n 0, 1) := by decide +kernel
theorem dX10_findNext_7 : decode cX10_findNext 7 = .ok (.bipush (-9), 2) := by decide +kernel
theorem dX10_findNext_9 : decode cX10_findNext 9 = .ok (.putfield 224, 3) := by decide +kernel
theorem dX10_findNext_12 : decode cX10_findNext 12 = .ok (.aload_n 0, 1) := by decide +kernel
theorem dX10_findNext_13 : decode cX10_findNext 13 = .ok (.iconst 1, 1) := by decide +kernel
theorem dX10_findNext_14 : decode cX10_findNext 14 = .ok (.iconst 1, 1) := by decide +kernel
theorem dX10_findNext_15 : decode cX10_findNext 15 = .ok (.invokevirtual 119, 3) := by decide +kernel
theorem dX10_findNext_18 : decode cX10_findNext 18 = .ok (.iconst 0, 1) := by decide +kernel
theorem dX10_findNext_19 : decode cX10_findNext 19 = .ok (.istore_n 1, 1) := by decide +kernel
theorem dX10_findNext_20 : decode cX10_findNext 20 = .ok (.iconst 0, 1) := by decide +kernel
theorem dX10_findNext_21 : decode cX10_findNext 21 = .ok (.istore_n 2, 1) := by decide +kernel
theorem dX10_findNext_22 : decode cX10_findNext 22 = .ok (.iload_n 2, 1) := by decide +kernel
theorem dX10_findNext_23 : decode cX10_findNext 23 = .ok (.aload_n 0, 1) := by decide +kernel
theorem dX10_findNext_24 : decode cX10_findNext 24 = .ok (.getfield 72, 3) := by decide +kernel
theorem dX10_findNext_27 : decode cX10_findNext 27 = .ok (.if_icmp .ge 28, 3) := by decide +kernel
theorem dX10_findNext_30 : decode cX10_findNext 30 = .ok (.iload_n 1, 1) := by decide +kernel
theorem dX10_findNext_31 : decode cX10_findNext 31 = .ok (.aload_n 0, 1) := by decide +kernel
theorem dX10_findNext_32 : decode cX10_findNext 32 = .ok (.getfield 25, 3) := by decide +kernel
theorem dX10_findNext_35 : decode cX10_findNext 35 = .ok (.iload_n 2, 1) := by decide +kernel
theorem dX10_findNext_36 : decode cX10_findNext 36 = .ok (.iaload, 1) := by decide +kernel
theorem dX10_findNext_37 : decode cX10_findNext 37 = .ok (.ifCond .ne 9, 3) := by decide +kernel
theorem dX10_findNext_40 : decode cX10_findNext 40 = .ok (.iconst 1, 1) := by decide +kernel
theorem dX10_findNext_41 : decode cX10_findNext 41 = .ok (.iload_n 2, 1) := by decide +kernel
theorem dX10_findNext_42 : decode cX10_findNext 42 = .ok (.ishl, 1) := by decide +kernel
theorem dX10_findNext_43 : decode cX10_findNext 43 = .ok (.goto 4, 3) := by decide +kernel
theorem dX10_findNext_46 : decode cX10_findNext 46 = .ok (.iconst 0, 1) := by decide +kernel
theorem dX10_findNext_47 : decode cX10_findNext 47 = .ok (.ior, 1) := by decide +kernel
theorem dX10_findNext_48 : decode cX10_findNext 48 = .ok (.istore_n 1, 1) := by decide +kernel
theorem dX10_findNext_49 : decode cX10_findNext 49 = .ok (.iinc 2 1, 3) := by decide +kernel
theorem dX10_findNext_52 : decode cX10_findNext 52 = .ok (.goto (-30), 3) := by decide +kernel
theorem dX10_findNext_55 : decode cX10_findNext 55 = .ok (.iconst 1, 1) := by decide +kernel
theorem dX10_findNext_56 : decode cX10_findNext 56 = .ok (.istore_n 2, 1) := by decide +kernel
theorem dX10_findNext_57 : decode cX10_findNext 57 = .ok (.iload_n 2, 1) := by decide +kernel
theorem dX10_findNext_58 : decode cX10_findNext 58 = .ok (.sipush 400, 3) := by decide +kernel
theorem dX10_findNext_61 : decode cX10_findNext 61 = .ok (.if_icmp .gt 68, 3) := by decide +kernel
theorem dX10_findNext_64 : decode cX10_findNext 64 = .ok (.aload_n 0, 1) := by decide +kernel
theorem dX10_findNext_65 : decode cX10_findNext 65 = .ok (.getfield 221, 3) := by decide +kernel
theorem dX10_findNext_68 : decode cX10_findNext 68 = .ok (.ifCond .ge 61, 3) := by decide +kernel
theorem dX10_findNext_71 : decode cX10_findNext 71 = .ok (.aload_n 0, 1) := by decide +kernel
theorem dX10_findNext_72 : decode cX10_findNext 72 = .ok (.invokevirtual 189, 3) := by decide +kernel
theorem dX10_findNext_75 : decode cX10_findNext 75 = .ok (.pop, 1) := by decide +kernel
theorem dX10_findNext_76 : decode cX10_findNext 76 = .ok (.aload_n 0, 1) := by decide +kernel
theorem dX10_findNext_77 : decode cX10_findNext 77 = .ok (.getfield 72, 3) := by decide +kernel
theorem dX10_findNext_80 : decode cX10_findNext 80 = .ok (.iconst 1, 1) := by decide +kernel
theorem dX10_findNext_81 : decode cX10_findNext 81 = .ok (.isub, 1) := by decide +kernel
theorem dX10_findNext_82 : decode cX10_findNext 82 = .ok (.istore_n 3, 1) := by decide +kernel
theorem dX10_findNext_83 : decode cX10_findNext 83 = .ok (.iload_n 3, 1) := by decide +kernel
theorem dX10_findNext_84 : decode cX10_findNext 84 = .ok (.ifCond .lt 39, 3) := by decide +kernel
theorem dX10_findNext_87 : decode cX10_findNext 87 = .ok (.iload_n 1, 1) := by decide +kernel
theorem dX10_findNext_88 : decode cX10_findNext 88 = .ok (.iload_n 3, 1) := by decide +kernel
theorem dX10_findNext_89 : decode cX10_findNext 89 = .ok (.ishr, 1) := by decide +kernel
theorem dX10_findNext_90 : decode cX10_findNext 90 = .ok (.iconst 1, 1) := by decide +kernel
theorem dX10_findNext_91 : decode cX10_findNext 91 = .ok (.iand, 1) := by decide +kernel
theorem dX10_findNext_92 : decode cX10_findNext 92 = .ok (.ifCond .eq 25, 3) := by decide +kernel
theorem dX10_findNext_95 : decode cX10_findNext 95 = .ok (.aload_n 0, 1) := by decide +kernel
theorem dX10_findNext_96 : decode cX10_findNext 96 = .ok (.getfield 25, 3) := by decide +kernel
theorem dX10_findNext_99 : decode cX10_findNext 99 = .ok (.iload_n 3, 1) := by decide +kernel
theorem dX10_findNext_100 : decode cX10_findNext 100 = .ok (.iaload, 1) := by decide +kernel
theorem dX10_findNext_101 : decode cX10_findNext 101 = .ok (.ifCond .ne 6, 3) := by decide +kernel
theorem dX10_findNext_104 : decode cX10_findNext 104 = .ok (.goto 13, 3) := by decide +kernel
theorem dX10_findNext_107 : decode cX10_findNext 107 = .ok (.aload_n 0, 1) := by decide +kernel
theorem dX10_findNext_108 : decode cX10_findNext 108 = .ok (.iload_n 3, 1) := by decide +kernel
theorem dX10_findNext_109 : decode cX10_findNext 109 = .ok (.putfield 221, 3) := by decide +kernel
theorem dX10_findNext_112 : decode cX10_findNext 112 = .ok (.aload_n 0, 1) := by decide +kernel
theorem dX10_findNext_113 : decode cX10_findNext 113 = .ok (.iload_n 2, 1) := by decide +kernel
theorem dX10_findNext_114 : decode cX10_findNext 114 = .ok (.putfield 224, 3) := by decide +kernel
theorem dX10_findNext_117 : decode cX10_findNext 117 = .ok (.iinc 3 (-1), 3) := by decide +kernel
theorem dX10_findNext_120 : decode cX10_findNext 120 = .ok (.goto (-37), 3) := by decide +kernel
theorem dX10_findNext_123 : decode cX10_findNext 123 = .ok (.iinc 2 1, 3) := by decide +kernel
theorem dX10_findNext_126 : decode cX10_findNext 126 = .ok (.goto (-69), 3) := by decide +kernel
theorem dX10_findNext_129 : decode cX10_findNext 129 = .ok (.aload_n 0, 1) := by decide +kernel
theorem dX10_findNext_130 : decode cX10_findNext 130 = .ok (.iconst 1, 1) := by decide +kernel
theorem dX10_findNext_131 : decode cX10_findNext 131 = .ok (.iconst 0, 1) := by decide +kernel
theorem dX10_findNext_132 : decode cX10_findNext 132 = .ok (.invokevirtual 119, 3) := by decide +kernel
theorem dX10_findNext_135 : decode cX10_findNext 135 = .ok (.return_, 1) := by decide +kernel
theorem dX10_next_0 : decode cX10_next 0 = .ok (.iload_n 1, 1) := by decide +kernel
theorem dX10_next_1 : decode cX10_next 1 = .ok (.iconst 0, 1) := by decide +kernel
theorem dX10_next_2 : decode cX10_next 2 = .ok (.iconst 1, 1) := by decide +kernel
theorem dX10_next_3 : decode cX10_next 3 = .ok (.invokestatic 94, 3) := by decide +kernel
theorem dX10_next_6 : decode cX10_next 6 = .ok (.ifCond .ne 10, 3) := by decide +kernel
theorem dX10_next_9 : decode cX10_next 9 = .ok (.aload_n 0, 1) := by decide +kernel
theorem dX10_next_10 : decode cX10_next 10 = .ok (.bipush (-2), 2) := by decide +kernel
theorem dX10_next_12 : decode cX10_next 12 = .ok (.invokevirtual 83, 3) := by decide +kernel
theorem dX10_next_15 : decode cX10_next 15 = .ok (.ireturn, 1) := by decide +kernel
theorem dX10_next_16 : decode cX10_next 16 = .ok (.aload_n 0, 1) := by decide +kernel
theorem dX10_next_17 : decode cX10_next 17 = .ok (.invokevirtual 227, 3) := by decide +kernel
theorem dX10_next_20 : decode cX10_next 20 = .ok (.iload_n 1, 1) := by decide +kernel
theorem dX10_next_21 : decode cX10_next 21 = .ok (.ifCond .ne 10, 3) := by decide +kernel
theorem dX10_next_24 : decode cX10_next 24 = .ok (.aload_n 0, 1) := by decide +kernel
theorem dX10_next_25 : decode cX10_next 25 = .ok (.getfield 221, 3) := by decide +kernel
theorem dX10_next_28 : decode cX10_next 28 = .ok (.goto 7, 3) := by decide +kernel
theorem dX10_next_31 : decode cX10_next 31 = .ok (.aload_n 0, 1) := by decide +kernel
theorem dX10_next_32 : decode cX10_next 32 = .ok (.getfield 224, 3) := by decide +kernel
theorem dX10_next_35 : decode cX10_next 35 = .ok (.ireturn, 1) := by decide +kernel
theorem dX10_stateMany_0 : decode cX10_stateMany 0 = .ok (.iconst 0, 1) := by decide +kernel
theorem dX10_stateMany_1 : decode cX10_stateMany 1 = .ok (.istore_n 2, 1) := by decide +kernel
theorem dX10_stateMany_2 : decode cX10_stateMany 2 = .ok (.iconst 0, 1) := by decide +kernel
theorem dX10_stateMany_3 : decode cX10_stateMany 3 = .ok (.istore_n 3, 1) := by decide +kernel
theorem dX10_stateMany_4 : decode cX10_stateMany 4 = .ok (.iload_n 3, 1) := by decide +kernel
theorem dX10_stateMany_5 : decode cX10_stateMany 5 = .ok (.aload_n 0, 1) := by decide +kernel
theorem dX10_stateMany_6 : decode cX10_stateMany 6 = .ok (.getfield 72, 3) := by decide +kernel
theorem dX10_stateMany_9 : decode cX10_stateMany 9 = .ok (.if_icmp .ge 27, 3) := by decide +kernel
theorem dX10_stateMany_12 : decode cX10_stateMany 12 = .ok (.iload_n 2, 1) := by decide +kernel
theorem dX10_stateMany_13 : decode cX10_stateMany 13 = .ok (.aload_n 0, 1) := by decide +kernel
theorem dX10_stateMany_14 : decode cX10_stateMany 14 = .ok (.getfield 25, 3) := by decide +kernel
theorem dX10_stateMany_17 : decode cX10_stateMany 17 = .ok (.iload_n 3, 1) := by decide +kernel
theorem dX10_stateMany_18 : decode cX10_stateMany 18 = .ok (.iaload, 1) := by decide +kernel
theorem dX10_stateMany_19 : decode cX10_stateMany 19 = .ok (.iload_n 1, 1) := by decide +kernel
theorem dX10_stateMany_20 : decode cX10_stateMany 20 = .ok (.if_icmp .ne 7, 3) := by decide +kernel
theorem dX10_stateMany_23 : decode cX10_stateMany 23 = .ok (.iconst 1, 1) := by decide +kernel
theorem dX10_stateMany_24 : decode cX10_stateMany 24 = .ok (.goto 4, 3) := by decide +kernel
theorem dX10_stateMany_27 : decode cX10_stateMany 27 = .ok (.iconst 0, 1) := by decide +kernel
theorem dX10_stateMany_28 : decode cX10_stateMany 28 = .ok (.iadd, 1) := by decide +kernel
theorem dX10_stateMany_29 : decode cX10_stateMany 29 = .ok (.istore_n 2, 1) := by decide +kernel
theorem dX10_stateMany_30 : decode cX10_stateMany 30 = .ok (.iinc 3 1, 3) := by decide +kernel
theorem dX10_stateMany_33 : decode cX10_stateMany 33 = .ok (.goto (-29), 3) := by decide +kernel
theorem dX10_stateMany_36 : decode cX10_stateMany 36 = .ok (.iload_n 2, 1) := by decide +kernel
theorem dX10_stateMany_37 : decode cX10_stateMany 37 = .ok (.ireturn, 1) := by decide +kernel
theorem dX10_bridged_0 : decode cX10_bridged 0 = .ok (.iload_n 1, 1) := by decide +kernel
theorem dX10_bridged_1 : decode cX10_bridged 1 = .ok (.iconst 0, 1) := by decide +kernel
theorem dX10_bridged_2 : decode cX10_bridged 2 = .ok (.bipush 12, 2) := by decide +kernel
theorem dX10_bridged_4 : decode cX10_bridged 4 = .ok (.invokestatic 76, 3) := by decide +kernel
theorem dX10_bridged_7 : decode cX10_bridged 7 = .ok (.istore_n 2, 1) := by decide +kernel
theorem dX10_bridged_8 : decode cX10_bridged 8 = .ok (.iload_n 2, 1) := by decide +kernel
theorem dX10_bridged_9 : decode cX10_bridged 9 = .ok (.ifCond .eq 9, 3) := by decide +kernel
theorem dX10_bridged_12 : decode cX10_bridged 12 = .ok (.aload_n 0, 1) := by decide +kernel
theorem dX10_bridged_13 : decode cX10_bridged 13 = .ok (.iload_n 2, 1) := by decide +kernel
theorem dX10_bridged_14 : decode cX10_bridged 14 = .ok (.invokevirtual 83, 3) := by decide +kernel
theorem dX10_bridged_17 : decode cX10_bridged 17 = .ok (.ireturn, 1) := by decide +kernel
theorem dX10_bridged_18 : decode cX10_bridged 18 = .ok (.aload_n 0, 1) := by decide +kernel
theorem dX10_bridged_19 : decode cX10_bridged 19 = .ok (.iconst 1, 1) := by decide +kernel
theorem dX10_bridged_20 : decode cX10_bridged 20 = .ok (.iconst 1, 1) := by decide +kernel
theorem dX10_bridged_21 : decode cX10_bridged 21 = .ok (.invokevirtual 119, 3) := by decide +kernel
theorem dX10_bridged_24 : decode cX10_bridged 24 = .ok (.bipush (-9), 2) := by decide +kernel
theorem dX10_bridged_26 : decode cX10_bridged 26 = .ok (.istore_n 3, 1) := by decide +kernel
theorem dX10_bridged_27 : decode cX10_bridged 27 = .ok (.iconst 0, 1) := by decide +kernel
theorem dX10_bridged_28 : decode cX10_bridged 28 = .ok (.istore 4, 2) := by decide +kernel
theorem dX10_bridged_30 : decode cX10_bridged 30 = .ok (.iload 4, 2) := by decide +kernel
theorem dX10_bridged_32 : decode cX10_bridged 32 = .ok (.sipush 400, 3) := by decide +kernel
theorem dX10_bridged_35 : decode cX10_bridged 35 = .ok (.if_icmp .gt 30, 3) := by decide +kernel
theorem dX10_bridged_38 : decode cX10_bridged 38 = .ok (.iload_n 3, 1) := by decide +kernel
theorem dX10_bridged_39 : decode cX10_bridged 39 = .ok (.ifCond .ge 26, 3) := by decide +kernel
theorem dX10_bridged_42 : decode cX10_bridged 42 = .ok (.aload_n 0, 1) := by decide +kernel
theorem dX10_bridged_43 : decode cX10_bridged 43 = .ok (.iconst 2, 1) := by decide +kernel
theorem dX10_bridged_44 : decode cX10_bridged 44 = .ok (.invokevirtual 230, 3) := by decide +kernel
theorem dX10_bridged_47 : decode cX10_bridged 47 = .ok (.iload_n 1, 1) := by decide +kernel
theorem dX10_bridged_48 : decode cX10_bridged 48 = .ok (.if_icmp .lt 6, 3) := by decide +kernel
theorem dX10_bridged_51 : decode cX10_bridged 51 = .ok (.iload 4, 2) := by decide +kernel
theorem dX10_bridged_53 : decode cX10_bridged 53 = .ok (.istore_n 3, 1) := by decide +kernel
theorem dX10_bridged_54 : decode cX10_bridged 54 = .ok (.aload_n 0, 1) := by decide +kernel
theorem dX10_bridged_55 : decode cX10_bridged 55 = .ok (.invokevirtual 189, 3) := by decide +kernel
theorem dX10_bridged_58 : decode cX10_bridged 58 = .ok (.pop, 1) := by decide +kernel
theorem dX10_bridged_59 : decode cX10_bridged 59 = .ok (.iinc 4 1, 3) := by decide +kernel
theorem dX10_bridged_62 : decode cX10_bridged 62 = .ok (.goto (-32), 3) := by decide +kernel
theorem dX10_bridged_65 : decode cX10_bridged 65 = .ok (.aload_n 0, 1) := by decide +kernel
theorem dX10_bridged_66 : decode cX10_bridged 66 = .ok (.iconst 1, 1) := by decide +kernel
theorem dX10_bridged_67 : decode cX10_bridged 67 = .ok (.iconst 0, 1) := by decide +kernel
theorem dX10_bridged_68 : decode cX10_bridged 68 = .ok (.invokevirtual 119, 3) := by decide +kernel
theorem dX10_bridged_71 : decode cX10_bridged 71 = .ok (.iload_n 3, 1) := by decide +kernel
theorem dX10_bridged_72 : decode cX10_bridged 72 = .ok (.ireturn, 1) := by decide +kernel
theorem dX10_stop_0 : decode cX10_stop 0 = .ok (.aload_n 0, 1) := by decide +kernel
theorem dX10_stop_1 : decode cX10_stop 1 = .ok (.getfield 72, 3) := by decide +kernel
theorem dX10_stop_4 : decode cX10_stop 4 = .ok (.ifCond .ne 10, 3) := by decide +kernel
theorem dX10_stop_7 : decode cX10_stop 7 = .ok (.aload_n 0, 1) := by decide +kernel
theorem dX10_stop_8 : decode cX10_stop 8 = .ok (.bipush (-3), 2) := by decide +kernel
theorem dX10_stop_10 : decode cX10_stop 10 = .ok (.invokevirtual 83, 3) := by decide +kernel
theorem dX10_stop_13 : decode cX10_stop 13 = .ok (.ireturn, 1) := by decide +kernel
theorem dX10_stop_14 : decode cX10_stop 14 = .ok (.iconst 0, 1) := by decide +kernel
theorem dX10_stop_15 : decode cX10_stop 15 = .ok (.istore_n 1, 1) := by decide +kernel
theorem dX10_stop_16 : decode cX10_stop 16 = .ok (.iload_n 1, 1) := by decide +kernel
theorem dX10_stop_17 : decode cX10_stop 17 = .ok (.aload_n 0, 1) := by decide +kernel
theorem dX10_stop_18 : decode cX10_stop 18 = .ok (.getfield 72, 3) := by decide +kernel
theorem dX10_stop_21 : decode cX10_stop 21 = .ok (.if_icmp .ge 45, 3) := by decide +kernel
theorem dX10_stop_24 : decode cX10_stop 24 = .ok (.sipush 9999, 3) := by decide +kernel
theorem dX10_stop_27 : decode cX10_stop 27 = .ok (.bipush 100, 2) := by decide +kernel
theorem dX10_stop_29 : decode cX10_stop 29 = .ok (.aload_n 0, 1) := by decide +kernel
theorem dX10_stop_30 : decode cX10_stop 30 = .ok (.getfield 28, 3) := by decide +kernel
theorem dX10_stop_33 : decode cX10_stop 33 = .ok (.iconst 0, 1) := by decide +kernel
theorem dX10_stop_34 : decode cX10_stop 34 = .ok (.iaload, 1) := by decide +kernel
theorem dX10_stop_35 : decode cX10_stop 35 = .ok (.imul, 1) := by decide +kernel
theorem dX10_stop_36 : decode cX10_stop 36 = .ok (.bipush 10, 2) := by decide +kernel
theorem dX10_stop_38 : decode cX10_stop 38 = .ok (.aload_n 0, 1) := by decide +kernel
theorem dX10_stop_39 : decode cX10_stop 39 = .ok (.getfield 72, 3) := by decide +kernel
theorem dX10_stop_42 : decode cX10_stop 42 = .ok (.iload_n 1, 1) := by decide +kernel
theorem dX10_stop_43 : decode cX10_stop 43 = .ok (.isub, 1) := by decide +kernel
theorem dX10_stop_44 : decode cX10_stop 44 = .ok (.imul, 1) := by decide +kernel
theorem dX10_stop_45 : decode cX10_stop 45 = .ok (.idiv, 1) := by decide +kernel
theorem dX10_stop_46 : decode cX10_stop 46 = .ok (.invokestatic 158, 3) := by decide +kernel
theorem dX10_stop_49 : decode cX10_stop 49 = .ok (.aload_n 0, 1) := by decide +kernel
theorem dX10_stop_50 : decode cX10_stop 50 = .ok (.getfield 28, 3) := by decide +kernel
theorem dX10_stop_53 : decode cX10_stop 53 = .ok (.iconst 2, 1) := by decide +kernel
theorem dX10_stop_54 : decode cX10_stop 54 = .ok (.iaload, 1) := by decide +kernel
theorem dX10_stop_55 : decode cX10_stop 55 = .ok (.if_icmp .le 5, 3) := by decide +kernel
theorem dX10_stop_58 : decode cX10_stop 58 = .ok (.iload_n 1, 1) := by decide +kernel
theorem dX10_stop_59 : decode cX10_stop 59 = .ok (.ireturn, 1) := by decide +kernel
theorem dX10_stop_60 : decode cX10_stop 60 = .ok (.iinc 1 1, 3) := by decide +kernel
theorem dX10_stop_63 : decode cX10_stop 63 = .ok (.goto (-47), 3) := by decide +kernel
theorem dX10_stop_66 : decode cX10_stop 66 = .ok (.bipush (-9), 2) := by decide +kernel
theorem dX10_stop_68 : decode cX10_stop 68 = .ok (.ireturn, 1) := by decide +kernel
theorem dX10_light_0 : decode cX10_light 0 = .ok (.iload_n 1, 1) := by decide +kernel
theorem dX10_light_1 : decode cX10_light 1 = .ok (.iconst 0, 1) := by decide +kernel
theorem dX10_light_2 : decode cX10_light 2 = .ok (.sipush 200, 3) := by decide +kernel
theorem dX10_light_5 : decode cX10_light 5 = .ok (.invokestatic 76, 3) := by decide +kernel
theorem dX10_light_8 : decode cX10_light 8 = .ok (.istore_n 2, 1) := by decide +kernel
theorem dX10_light_9 : decode cX10_light 9 = .ok (.iload_n 2, 1) := by decide +kernel
theorem dX10_light_10 : decode cX10_light 10 = .ok (.ifCond .eq 9, 3) := by decide +kernel
theorem dX10_light_13 : decode cX10_light 13 = .ok (.aload_n 0, 1) := by decide +kernel
theorem dX10_light_14 : decode cX10_light 14 = .ok (.iload_n 2, 1) := by decide +kernel
theorem dX10_light_15 : decode cX10_light 15 = .ok (.invokevirtual 83, 3) := by decide +kernel
theorem dX10_light_18 : decode cX10_light 18 = .ok (.ireturn, 1) := by decide +kernel
theorem dX10_light_19 : decode cX10_light 19 = .ok (.aload_n 0, 1) := by decide +kernel
theorem dX10_light_20 : decode cX10_light 20 = .ok (.iconst 1, 1) := by decide +kernel
theorem dX10_light_21 : decode cX10_light 21 = .ok (.iconst 1, 1) := by decide +kernel
theorem dX10_light_22 : decode cX10_light 22 = .ok (.invokevirtual 119, 3) := by decide +kernel
theorem dX10_light_25 : decode cX10_light 25 = .ok (.iconst 0, 1) := by decide +kernel
theorem dX10_light_26 : decode cX10_light 26 = .ok (.istore_n 3, 1) := by decide +kernel
theorem dX10_light_27 : decode cX10_light 27 = .ok (.iconst 0, 1) := by decide +kernel
theorem dX10_light_28 : decode cX10_light 28 = .ok (.istore 4, 2) := by decide +kernel
theorem dX10_light_30 : decode cX10_light 30 = .ok (.iload 4, 2) := by decide +kernel
theorem dX10_light_32 : decode cX10_light 32 = .ok (.iload_n 1, 1) := by decide +kernel
theorem dX10_light_33 : decode cX10_light 33 = .ok (.if_icmp .ge 49, 3) := by decide +kernel
theorem dX10_light_36 : decode cX10_light 36 = .ok (.aload_n 0, 1) := by decide +kernel
theorem dX10_light_37 : decode cX10_light 37 = .ok (.invokevirtual 168, 3) := by decide +kernel
theorem dX10_light_40 : decode cX10_light 40 = .ok (.istore 5, 2) := by decide +kernel
theorem dX10_light_42 : decode cX10_light 42 = .ok (.iconst 0, 1) := by decide +kernel
theorem dX10_light_43 : decode cX10_light 43 = .ok (.istore 6, 2) := by decide +kernel
theorem dX10_light_45 : decode cX10_light 45 = .ok (.iload 6, 2) := by decide +kernel
theorem dX10_light_47 : decode cX10_light 47 = .ok (.aload_n 0, 1) := by decide +kernel
theorem dX10_light_48 : decode cX10_light 48 = .ok (.getfield 72, 3) := by decide +kernel
theorem dX10_light_51 : decode cX10_light 51 = .ok (.if_icmp .ge 20, 3) := by decide +kernel
theorem dX10_light_54 : decode cX10_light 54 = .ok (.iload_n 3, 1) := by decide +kernel
theorem dX10_light_55 : decode cX10_light 55 = .ok (.aload_n 0, 1) := by decide +kernel
theorem dX10_light_56 : decode cX10_light 56 = .ok (.iload 6, 2) := by decide +kernel
theorem dX10_light_58 : decode cX10_light 58 = .ok (.iload 5, 2) := by decide +kernel
theorem dX10_light_60 : decode cX10_light 60 = .ok (.invokevirtual 171, 3) := by decide +kernel
theorem dX10_light_63 : decode cX10_light 63 = .ok (.iadd, 1) := by decide +kernel
theorem dX10_light_64 : decode cX10_light 64 = .ok (.istore_n 3, 1) := by decide +kernel
theorem dX10_light_65 : decode cX10_light 65 = .ok (.iinc 6 1, 3) := by decide +kernel
theorem dX10_light_68 : decode cX10_light 68 = .ok (.goto (-23), 3) := by decide +kernel
theorem dX10_light_71 : decode cX10_light 71 = .ok (.aload_n 0, 1) := by decide +kernel
theorem dX10_light_72 : decode cX10_light 72 = .ok (.invokevirtual 189, 3) := by decide +kernel
theorem dX10_light_75 : decode cX10_light 75 = .ok (.pop, 1) := by decide +kernel
theorem dX10_light_76 : decode cX10_light 76 = .ok (.iinc 4 1, 3) := by decide +kernel
theorem dX10_light_79 : decode cX10_light 79 = .ok (.goto (-49), 3) := by decide +kernel
theorem dX10_light_82 : decode cX10_light 82 = .ok (.aload_n 0, 1) := by decide +kernel
theorem dX10_light_83 : decode cX10_light 83 = .ok (.iconst 1, 1) := by decide +kernel
theorem dX10_light_84 : decode cX10_light 84 = .ok (.iconst 0, 1) := by decide +kernel
theorem dX10_light_85 : decode cX10_light 85 = .ok (.invokevirtual 119, 3) := by decide +kernel
theorem dX10_light_88 : decode cX10_light 88 = .ok (.iload_n 3, 1) := by decide +kernel
theorem dX10_light_89 : decode cX10_light 89 = .ok (.ireturn, 1) := by decide +kernel
theorem dX10_keeps_0 : decode cX10_keeps 0 = .ok (.iload_n 1, 1) := by decide +kernel
theorem dX10_keeps_1 : decode cX10_keeps 1 = .ok (.iconst 1, 1) := by decide +kernel
theorem dX10_keeps_2 : decode cX10_keeps 2 = .ok (.sipush 200, 3) := by decide +kernel
theorem dX10_keeps_5 : decode cX10_keeps 5 = .ok (.invokestatic 76, 3) := by decide +kernel
theorem dX10_keeps_8 : decode cX10_keeps 8 = .ok (.istore_n 2, 1) := by decide +kernel
theorem dX10_keeps_9 : decode cX10_keeps 9 = .ok (.iload_n 2, 1) := by decide +kernel
theorem dX10_keeps_10 : decode cX10_keeps 10 = .ok (.ifCond .eq 9, 3) := by decide +kernel
theorem dX10_keeps_13 : decode cX10_keeps 13 = .ok (.aload_n 0, 1) := by decide +kernel
theorem dX10_keeps_14 : decode cX10_keeps 14 = .ok (.iload_n 2, 1) := by decide +kernel
theorem dX10_keeps_15 : decode cX10_keeps 15 = .ok (.invokevirtual 83, 3) := by decide +kernel
theorem dX10_keeps_18 : decode cX10_keeps 18 = .ok (.ireturn, 1) := by decide +kernel
theorem dX10_keeps_19 : decode cX10_keeps 19 = .ok (.aload_n 0, 1) := by decide +kernel
theorem dX10_keeps_20 : decode cX10_keeps 20 = .ok (.iconst 1, 1) := by decide +kernel
theorem dX10_keeps_21 : decode cX10_keeps 21 = .ok (.iconst 1, 1) := by decide +kernel
theorem dX10_keeps_22 : decode cX10_keeps 22 = .ok (.invokevirtual 119, 3) := by decide +kernel
theorem dX10_keeps_25 : decode cX10_keeps 25 = .ok (.iconst 0, 1) := by decide +kernel
theorem dX10_keeps_26 : decode cX10_keeps 26 = .ok (.istore_n 3, 1) := by decide +kernel
theorem dX10_keeps_27 : decode cX10_keeps 27 = .ok (.iconst 0, 1) := by decide +kernel
theorem dX10_keeps_28 : decode cX10_keeps 28 = .ok (.istore 4, 2) := by decide +kernel
theorem dX10_keeps_30 : decode cX10_keeps 30 = .ok (.iload 4, 2) := by decide +kernel
theorem dX10_keeps_32 : decode cX10_keeps 32 = .ok (.iload_n 1, 1) := by decide +kernel
theorem dX10_keeps_33 : decode cX10_keeps 33 = .ok (.if_icmp .ge 54, 3) := by decide +kernel
theorem dX10_keeps_36 : decode cX10_keeps 36 = .ok (.iconst 0, 1) := by decide +kernel
theorem dX10_keeps_37 : decode cX10_keeps 37 = .ok (.istore 5, 2) := by decide +kernel
theorem dX10_keeps_39 : decode cX10_keeps 39 = .ok (.iload 5, 2) := by decide +kernel
theorem dX10_keeps_41 : decode cX10_keeps 41 = .ok (.aload_n 0, 1) := by decide +kernel
theorem dX10_keeps_42 : decode cX10_keeps 42 = .ok (.getfield 72, 3) := by decide +kernel
theorem dX10_keeps_45 : decode cX10_keeps 45 = .ok (.if_icmp .ge 31, 3) := by decide +kernel
theorem dX10_keeps_48 : decode cX10_keeps 48 = .ok (.aload_n 0, 1) := by decide +kernel
theorem dX10_keeps_49 : decode cX10_keeps 49 = .ok (.getfield 25, 3) := by decide +kernel
theorem dX10_keeps_52 : decode cX10_keeps 52 = .ok (.iload 5, 2) := by decide +kernel
theorem dX10_keeps_54 : decode cX10_keeps 54 = .ok (.iaload, 1) := by decide +kernel
theorem dX10_keeps_55 : decode cX10_keeps 55 = .ok (.ifCond .ne 6, 3) := by decide +kernel
theorem dX10_keeps_58 : decode cX10_keeps 58 = .ok (.goto 12, 3) := by decide +kernel
theorem dX10_keeps_61 : decode cX10_keeps 61 = .ok (.aload_n 0, 1) := by decide +kernel
theorem dX10_keeps_62 : decode cX10_keeps 62 = .ok (.iload 5, 2) := by decide +kernel
theorem dX10_keeps_64 : decode cX10_keeps 64 = .ok (.invokevirtual 192, 3) := by decide +kernel
theorem dX10_keeps_67 : decode cX10_keeps 67 = .ok (.iinc 3 1, 3) := by decide +kernel
theorem dX10_keeps_70 : decode cX10_keeps 70 = .ok (.iinc 5 1, 3) := by decide +kernel
theorem dX10_keeps_73 : decode cX10_keeps 73 = .ok (.goto (-34), 3) := by decide +kernel
theorem dX10_keeps_76 : decode cX10_keeps 76 = .ok (.aload_n 0, 1) := by decide +kernel
theorem dX10_keeps_77 : decode cX10_keeps 77 = .ok (.invokevirtual 189, 3) := by decide +kernel
theorem dX10_keeps_80 : decode cX10_keeps 80 = .ok (.pop, 1) := by decide +kernel
theorem dX10_keeps_81 : decode cX10_keeps 81 = .ok (.iinc 4 1, 3) := by decide +kernel
theorem dX10_keeps_84 : decode cX10_keeps 84 = .ok (.goto (-54), 3) := by decide +kernel
theorem dX10_keeps_87 : decode cX10_keeps 87 = .ok (.aload_n 0, 1) := by decide +kernel
theorem dX10_keeps_88 : decode cX10_keeps 88 = .ok (.iconst 1, 1) := by decide +kernel
theorem dX10_keeps_89 : decode cX10_keeps 89 = .ok (.iconst 0, 1) := by decide +kernel
theorem dX10_keeps_90 : decode cX10_keeps 90 = .ok (.invokevirtual 119, 3) := by decide +kernel
theorem dX10_keeps_93 : decode cX10_keeps 93 = .ok (.iload_n 3, 1) := by decide +kernel
theorem dX10_keeps_94 : decode cX10_keeps 94 = .ok (.ireturn, 1) := by decide +kernel
theorem dX10_isLiveBy_0 : decode cX10_isLiveBy 0 = .ok (.aload_n 0, 1) := by decide +kernel
theorem dX10_isLiveBy_1 : decode cX10_isLiveBy 1 = .ok (.iconst 1, 1) := by decide +kernel
theorem dX10_isLiveBy_2 : decode cX10_isLiveBy 2 = .ok (.iconst 1, 1) := by decide +kernel
theorem dX10_isLiveBy_3 : decode cX10_isLiveBy 3 = .ok (.invokevirtual 119, 3) := by decide +kernel
theorem dX10_isLiveBy_6 : decode cX10_isLiveBy 6 = .ok (.iconst 1, 1) := by decide +kernel
theorem dX10_isLiveBy_7 : decode cX10_isLiveBy 7 = .ok (.istore_n 2, 1) := by decide +kernel
theorem dX10_isLiveBy_8 : decode cX10_isLiveBy 8 = .ok (.iconst 0, 1) := by decide +kernel
theorem dX10_isLiveBy_9 : decode cX10_isLiveBy 9 = .ok (.istore_n 3, 1) := by decide +kernel
theorem dX10_isLiveBy_10 : decode cX10_isLiveBy 10 = .ok (.iload_n 3, 1) := by decide +kernel
theorem dX10_isLiveBy_11 : decode cX10_isLiveBy 11 = .ok (.bipush 60, 2) := by decide +kernel
theorem dX10_isLiveBy_13 : decode cX10_isLiveBy 13 = .ok (.if_icmp .ge 53, 3) := by decide +kernel
theorem dX10_isLiveBy_16 : decode cX10_isLiveBy 16 = .ok (.iload_n 2, 1) := by decide +kernel
theorem dX10_isLiveBy_17 : decode cX10_isLiveBy 17 = .ok (.ifCond .eq 49, 3) := by decide +kernel
theorem dX10_isLiveBy_20 : decode cX10_isLiveBy 20 = .ok (.iconst 0, 1) := by decide +kernel
theorem dX10_isLiveBy_21 : decode cX10_isLiveBy 21 = .ok (.istore 4, 2) := by decide +kernel
theorem dX10_isLiveBy_23 : decode cX10_isLiveBy 23 = .ok (.iload 4, 2) := by decide +kernel
theorem dX10_isLiveBy_25 : decode cX10_isLiveBy 25 = .ok (.aload_n 0, 1) := by decide +kernel
theorem dX10_isLiveBy_26 : decode cX10_isLiveBy 26 = .ok (.getfield 72, 3) := by decide +kernel
theorem dX10_isLiveBy_29 : decode cX10_isLiveBy 29 = .ok (.if_icmp .ge 21, 3) := by decide +kernel
theorem dX10_isLiveBy_32 : decode cX10_isLiveBy 32 = .ok (.iload_n 3, 1) := by decide +kernel
theorem dX10_isLiveBy_33 : decode cX10_isLiveBy 33 = .ok (.iload_n 1, 1) := by decide +kernel
theorem dX10_isLiveBy_34 : decode cX10_isLiveBy 34 = .ok (.irem, 1) := by decide +kernel
theorem dX10_isLiveBy_35 : decode cX10_isLiveBy 35 = .ok (.ifCond .ne 15, 3) := by decide +kernel
theorem dX10_isLiveBy_38 : decode cX10_isLiveBy 38 = .ok (.aload_n 0, 1) := by decide +kernel
theorem dX10_isLiveBy_39 : decode cX10_isLiveBy 39 = .ok (.iload 4, 2) := by decide +kernel
theorem dX10_isLiveBy_41 : decode cX10_isLiveBy 41 = .ok (.invokevirtual 192, 3) := by decide +kernel
theorem dX10_isLiveBy_44 : decode cX10_isLiveBy 44 = .ok (.iinc 4 1, 3) := by decide +kernel
theorem dX10_isLiveBy_47 : decode cX10_isLiveBy 47 = .ok (.goto (-24), 3) := by decide +kernel
theorem dX10_isLiveBy_50 : decode cX10_isLiveBy 50 = .ok (.aload_n 0, 1) := by decide +kernel
theorem dX10_isLiveBy_51 : decode cX10_isLiveBy 51 = .ok (.invokevirtual 155, 3) := by decide +kernel
theorem dX10_isLiveBy_54 : decode cX10_isLiveBy 54 = .ok (.istore_n 2, 1) := by decide +kernel
theorem dX10_isLiveBy_55 : decode cX10_isLiveBy 55 = .ok (.aload_n 0, 1) := by decide +kernel
theorem dX10_isLiveBy_56 : decode cX10_isLiveBy 56 = .ok (.invokevirtual 189, 3) := by decide +kernel
theorem dX10_isLiveBy_59 : decode cX10_isLiveBy 59 = .ok (.pop, 1) := by decide +kernel
theorem dX10_isLiveBy_60 : decode cX10_isLiveBy 60 = .ok (.iinc 3 1, 3) := by decide +kernel
theorem dX10_isLiveBy_63 : decode cX10_isLiveBy 63 = .ok (.goto (-53), 3) := by decide +kernel
theorem dX10_isLiveBy_66 : decode cX10_isLiveBy 66 = .ok (.aload_n 0, 1) := by decide +kernel
theorem dX10_isLiveBy_67 : decode cX10_isLiveBy 67 = .ok (.iconst 1, 1) := by decide +kernel
theorem dX10_isLiveBy_68 : decode cX10_isLiveBy 68 = .ok (.iconst 0, 1) := by decide +kernel
theorem dX10_isLiveBy_69 : decode cX10_isLiveBy 69 = .ok (.invokevirtual 119, 3) := by decide +kernel
theorem dX10_isLiveBy_72 : decode cX10_isLiveBy 72 = .ok (.iload_n 2, 1) := by decide +kernel
theorem dX10_isLiveBy_73 : decode cX10_isLiveBy 73 = .ok (.ireturn, 1) := by decide +kernel
theorem dX10_allAnew_0 : decode cX10_allAnew 0 = .ok (.aload_n 0, 1) := by decide +kernel
theorem dX10_allAnew_1 : decode cX10_allAnew 1 = .ok (.getfield 72, 3) := by decide +kernel
theorem dX10_allAnew_4 : decode cX10_allAnew 4 = .ok (.ifCond .ne 10, 3) := by decide +kernel
theorem dX10_allAnew_7 : decode cX10_allAnew 7 = .ok (.aload_n 0, 1) := by decide +kernel
theorem dX10_allAnew_8 : decode cX10_allAnew 8 = .ok (.bipush (-3), 2) := by decide +kernel
theorem dX10_allAnew_10 : decode cX10_allAnew 10 = .ok (.invokevirtual 83, 3) := by decide +kernel
theorem dX10_allAnew_13 : decode cX10_allAnew 13 = .ok (.ireturn, 1) := by decide +kernel
theorem dX10_allAnew_14 : decode cX10_allAnew 14 = .ok (.bipush 50, 2) := by decide +kernel
theorem dX10_allAnew_16 : decode cX10_allAnew 16 = .ok (.istore_n 1, 1) := by decide +kernel
theorem dX10_allAnew_17 : decode cX10_allAnew 17 = .ok (.iload_n 1, 1) := by decide +kernel
theorem dX10_allAnew_18 : decode cX10_allAnew 18 = .ok (.ifCond .le 19, 3) := by decide +kernel
theorem dX10_allAnew_21 : decode cX10_allAnew 21 = .ok (.aload_n 0, 1) := by decide +kernel
theorem dX10_allAnew_22 : decode cX10_allAnew 22 = .ok (.iload_n 1, 1) := by decide +kernel
theorem dX10_allAnew_23 : decode cX10_allAnew 23 = .ok (.invokevirtual 233, 3) := by decide +kernel
theorem dX10_allAnew_26 : decode cX10_allAnew 26 = .ok (.ifCond .eq 5, 3) := by decide +kernel
theorem dX10_allAnew_29 : decode cX10_allAnew 29 = .ok (.iload_n 1, 1) := by decide +kernel
theorem dX10_allAnew_30 : decode cX10_allAnew 30 = .ok (.ireturn, 1) := by decide +kernel
theorem dX10_allAnew_31 : decode cX10_allAnew 31 = .ok (.iinc 1 (-1), 3) := by decide +kernel
theorem dX10_allAnew_34 : decode cX10_allAnew 34 = .ok (.goto (-17), 3) := by decide +kernel
theorem dX10_allAnew_37 : decode cX10_allAnew 37 = .ok (.bipush (-9), 2) := by decide +kernel
theorem dX10_allAnew_39 : decode cX10_allAnew 39 = .ok (.ireturn, 1) := by decide +kernel
theorem dX10_joined_0 : decode cX10_joined 0 = .ok (.aload_n 0, 1) := by decide +kernel
theorem dX10_joined_1 : decode cX10_joined 1 = .ok (.invokevirtual 168, 3) := by decide +kernel
theorem dX10_joined_4 : decode cX10_joined 4 = .ok (.bipush 10, 2) := by decide +kernel
theorem dX10_joined_6 : decode cX10_joined 6 = .ok (.idiv, 1) := by decide +kernel
theorem dX10_joined_7 : decode cX10_joined 7 = .ok (.istore_n 1, 1) := by decide +kernel
theorem dX10_joined_8 : decode cX10_joined 8 = .ok (.aload_n 0, 1) := by decide +kernel
theorem dX10_joined_9 : decode cX10_joined 9 = .ok (.invokevirtual 155, 3) := by decide +kernel
theorem dX10_joined_12 : decode cX10_joined 12 = .ok (.ifCond .eq 23, 3) := by decide +kernel
theorem dX10_joined_15 : decode cX10_joined 15 = .ok (.aload_n 0, 1) := by decide +kernel
theorem dX10_joined_16 : decode cX10_joined 16 = .ok (.getfield 28, 3) := by decide +kernel
theorem dX10_joined_19 : decode cX10_joined 19 = .ok (.iconst 2, 1) := by decide +kernel
theorem dX10_joined_20 : decode cX10_joined 20 = .ok (.iaload, 1) := by decide +kernel
theorem dX10_joined_21 : decode cX10_joined 21 = .ok (.iload_n 1, 1) := by decide +kernel
theorem dX10_joined_22 : decode cX10_joined 22 = .ok (.iconst 1, 1) := by decide +kernel
theorem dX10_joined_23 : decode cX10_joined 23 = .ok (.if_icmp .ge 7, 3) := by decide +kernel
theorem dX10_joined_26 : decode cX10_joined 26 = .ok (.iconst 1, 1) := by decide +kernel
theorem dX10_joined_27 : decode cX10_joined 27 = .ok (.goto 4, 3) := by decide +kernel
theorem dX10_joined_30 : decode cX10_joined 30 = .ok (.iload_n 1, 1) := by decide +kernel
theorem dX10_joined_31 : decode cX10_joined 31 = .ok (.idiv, 1) := by decide +kernel
theorem dX10_joined_32 : decode cX10_joined 32 = .ok (.goto 4, 3) := by decide +kernel
theorem dX10_joined_35 : decode cX10_joined 35 = .ok (.iconst 0, 1) := by decide +kernel
theorem dX10_joined_36 : decode cX10_joined 36 = .ok (.ireturn, 1) := by decide +kernel
theorem dX10_divisor_0 : decode cX10_divisor 0 = .ok (.lload_n 0, 1) := by decide +kernel
theorem dX10_divisor_1 : decode cX10_divisor 1 = .ok (.lstore 4, 2) := by decide +kernel
theorem dX10_divisor_3 : decode cX10_divisor 3 = .ok (.lload_n 2, 1) := by decide +kernel
theorem dX10_divisor_4 : decode cX10_divisor 4 = .ok (.lstore 6, 2) := by decide +kernel
theorem dX10_divisor_6 : decode cX10_divisor 6 = .ok (.lload 6, 2) := by decide +kernel
theorem dX10_divisor_8 : decode cX10_divisor 8 = .ok (.lconst 0, 1) := by decide +kernel
theorem dX10_divisor_9 : decode cX10_divisor 9 = .ok (.lcmp, 1) := by decide +kernel
theorem dX10_divisor_10 : decode cX10_divisor 10 = .ok (.ifCond .eq 21, 3) := by decide +kernel
theorem dX10_divisor_13 : decode cX10_divisor 13 = .ok (.lload 4, 2) := by decide +kernel
theorem dX10_divisor_15 : decode cX10_divisor 15 = .ok (.lload 6, 2) := by decide +kernel
theorem dX10_divisor_17 : decode cX10_divisor 17 = .ok (.lrem, 1) := by decide +kernel
theorem dX10_divisor_18 : decode cX10_divisor 18 = .ok (.lstore 8, 2) := by decide +kernel
theorem dX10_divisor_20 : decode cX10_divisor 20 = .ok (.lload 6, 2) := by decide +kernel
theorem dX10_divisor_22 : decode cX10_divisor 22 = .ok (.lstore 4, 2) := by decide +kernel
theorem dX10_divisor_24 : decode cX10_divisor 24 = .ok (.lload 8, 2) := by decide +kernel
theorem dX10_divisor_26 : decode cX10_divisor 26 = .ok (.lstore 6, 2) := by decide +kernel
theorem dX10_divisor_28 : decode cX10_divisor 28 = .ok (.goto (-22), 3) := by decide +kernel
theorem dX10_divisor_31 : decode cX10_divisor 31 = .ok (.lload 4, 2) := by decide +kernel
theorem dX10_divisor_33 : decode cX10_divisor 33 = .ok (.lreturn, 1) := by decide +kernel
theorem dX10_two_0 : decode cX10_two 0 = .ok (.iload_n 1, 1) := by decide +kernel
theorem dX10_two_1 : decode cX10_two 1 = .ok (.iconst 0, 1) := by decide +kernel
theorem dX10_two_2 : decode cX10_two 2 = .ok (.iconst 1, 1) := by decide +kernel
theorem dX10_two_3 : decode cX10_two 3 = .ok (.invokestatic 94, 3) := by decide +kernel
theorem dX10_two_6 : decode cX10_two 6 = .ok (.ifCond .ne 10, 3) := by decide +kernel
theorem dX10_two_9 : decode cX10_two 9 = .ok (.aload_n 0, 1) := by decide +kernel
theorem dX10_two_10 : decode cX10_two 10 = .ok (.bipush (-2), 2) := by decide +kernel
theorem dX10_two_12 : decode cX10_two 12 = .ok (.invokevirtual 236, 3) := by decide +kernel
theorem dX10_two_15 : decode cX10_two 15 = .ok (.lreturn, 1) := by decide +kernel
theorem dX10_two_16 : decode cX10_two 16 = .ok (.aload_n 0, 1) := by decide +kernel
theorem dX10_two_17 : decode cX10_two 17 = .ok (.getfield 72, 3) := by decide +kernel
theorem dX10_two_20 : decode cX10_two 20 = .ok (.ifCond .ne 10, 3) := by decide +kernel
theorem dX10_two_23 : decode cX10_two 23 = .ok (.aload_n 0, 1) := by decide +kernel
theorem dX10_two_24 : decode cX10_two 24 = .ok (.bipush (-3), 2) := by decide +kernel
theorem dX10_two_26 : decode cX10_two 26 = .ok (.invokevirtual 236, 3) := by decide +kernel
theorem dX10_two_29 : decode cX10_two 29 = .ok (.lreturn, 1) := by decide +kernel
theorem dX10_two_30 : decode cX10_two 30 = .ok (.aload_n 0, 1) := by decide +kernel
theorem dX10_two_31 : decode cX10_two 31 = .ok (.getfield 72, 3) := by decide +kernel
theorem dX10_two_34 : decode cX10_two 34 = .ok (.bipush 8, 2) := by decide +kernel
theorem dX10_two_36 : decode cX10_two 36 = .ok (.if_icmp .le 10, 3) := by decide +kernel
theorem dX10_two_39 : decode cX10_two 39 = .ok (.aload_n 0, 1) := by decide +kernel
theorem dX10_two_40 : decode cX10_two 40 = .ok (.bipush (-6), 2) := by decide +kernel
theorem dX10_two_42 : decode cX10_two 42 = .ok (.invokevirtual 236, 3) := by decide +kernel
theorem dX10_two_45 : decode cX10_two 45 = .ok (.lreturn, 1) := by decide +kernel
theorem dX10_two_46 : decode cX10_two 46 = .ok (.lconst 1, 1) := by decide +kernel
theorem dX10_two_47 : decode cX10_two 47 = .ok (.lstore_n 2, 1) := by decide +kernel
theorem dX10_two_48 : decode cX10_two 48 = .ok (.lconst 1, 1) := by decide +kernel
theorem dX10_two_49 : decode cX10_two 49 = .ok (.lstore 4, 2) := by decide +kernel
theorem dX10_two_51 : decode cX10_two 51 = .ok (.lconst 0, 1) := by decide +kernel
theorem dX10_two_52 : decode cX10_two 52 = .ok (.lstore 6, 2) := by decide +kernel
theorem dX10_two_54 : decode cX10_two 54 = .ok (.iconst 0, 1) := by decide +kernel
theorem dX10_two_55 : decode cX10_two 55 = .ok (.istore 8, 2) := by decide +kernel
theorem dX10_two_57 : decode cX10_two 57 = .ok (.iload 8, 2) := by decide +kernel
theorem dX10_two_59 : decode cX10_two 59 = .ok (.aload_n 0, 1) := by decide +kernel
theorem dX10_two_60 : decode cX10_two 60 = .ok (.getfield 72, 3) := by decide +kernel
theorem dX10_two_63 : decode cX10_two 63 = .ok (.if_icmp .ge 57, 3) := by decide +kernel
theorem dX10_two_66 : decode cX10_two 66 = .ok (.bipush 99, 2) := by decide +kernel
theorem dX10_two_68 : decode cX10_two 68 = .ok (.aload_n 0, 1) := by decide +kernel
theorem dX10_two_69 : decode cX10_two 69 = .ok (.iload 8, 2) := by decide +kernel
theorem dX10_two_71 : decode cX10_two 71 = .ok (.invokevirtual 174, 3) := by decide +kernel
theorem dX10_two_74 : decode cX10_two 74 = .ok (.invokestatic 158, 3) := by decide +kernel
theorem dX10_two_77 : decode cX10_two 77 = .ok (.istore 9, 2) := by decide +kernel
theorem dX10_two_79 : decode cX10_two 79 = .ok (.lload 6, 2) := by decide +kernel
theorem dX10_two_81 : decode cX10_two 81 = .ok (.bipush 100, 2) := by decide +kernel
theorem dX10_two_83 : decode cX10_two 83 = .ok (.iload 9, 2) := by decide +kernel
theorem dX10_two_85 : decode cX10_two 85 = .ok (.isub, 1) := by decide +kernel
theorem dX10_two_86 : decode cX10_two 86 = .ok (.i2l, 1) := by decide +kernel
theorem dX10_two_87 : decode cX10_two 87 = .ok (.lmul, 1) := by decide +kernel
theorem dX10_two_88 : decode cX10_two 88 = .ok (.lload 4, 2) := by decide +kernel
theorem dX10_two_90 : decode cX10_two 90 = .ok (.iload 9, 2) := by decide +kernel
theorem dX10_two_92 : decode cX10_two 92 = .ok (.i2l, 1) := by decide +kernel
theorem dX10_two_93 : decode cX10_two 93 = .ok (.lmul, 1) := by decide +kernel
theorem dX10_two_94 : decode cX10_two 94 = .ok (.ladd, 1) := by decide +kernel
theorem dX10_two_95 : decode cX10_two 95 = .ok (.lstore 6, 2) := by decide +kernel
theorem dX10_two_97 : decode cX10_two 97 = .ok (.lload 4, 2) := by decide +kernel
theorem dX10_two_99 : decode cX10_two 99 = .ok (.bipush 100, 2) := by decide +kernel
theorem dX10_two_101 : decode cX10_two 101 = .ok (.iload 9, 2) := by decide +kernel
theorem dX10_two_103 : decode cX10_two 103 = .ok (.isub, 1) := by decide +kernel
theorem dX10_two_104 : decode cX10_two 104 = .ok (.i2l, 1) := by decide +kernel
theorem dX10_two_105 : decode cX10_two 105 = .ok (.lmul, 1) := by decide +kernel
theorem dX10_two_106 : decode cX10_two 106 = .ok (.lstore 4, 2) := by decide +kernel
theorem dX10_two_108 : decode cX10_two 108 = .ok (.lload_n 2, 1) := by decide +kernel
theorem dX10_two_109 : decode cX10_two 109 = .ok (.ldc2_w 240, 3) := by decide +kernel
theorem dX10_two_112 : decode cX10_two 112 = .ok (.lmul, 1) := by decide +kernel
theorem dX10_two_113 : decode cX10_two 113 = .ok (.lstore_n 2, 1) := by decide +kernel
theorem dX10_two_114 : decode cX10_two 114 = .ok (.iinc 8 1, 3) := by decide +kernel
theorem dX10_two_117 : decode cX10_two 117 = .ok (.goto (-60), 3) := by decide +kernel
theorem dX10_two_120 : decode cX10_two 120 = .ok (.lload_n 2, 1) := by decide +kernel
theorem dX10_two_121 : decode cX10_two 121 = .ok (.lload 4, 2) := by decide +kernel
theorem dX10_two_123 : decode cX10_two 123 = .ok (.lsub, 1) := by decide +kernel
theorem dX10_two_124 : decode cX10_two 124 = .ok (.lload 6, 2) := by decide +kernel
theorem dX10_two_126 : decode cX10_two 126 = .ok (.lsub, 1) := by decide +kernel
theorem dX10_two_127 : decode cX10_two 127 = .ok (.lstore 8, 2) := by decide +kernel
theorem dX10_two_129 : decode cX10_two 129 = .ok (.lload_n 2, 1) := by decide +kernel
theorem dX10_two_130 : decode cX10_two 130 = .ok (.lload 4, 2) := by decide +kernel
theorem dX10_two_132 : decode cX10_two 132 = .ok (.lsub, 1) := by decide +kernel
theorem dX10_two_133 : decode cX10_two 133 = .ok (.lstore 10, 2) := by decide +kernel
theorem dX10_two_135 : decode cX10_two 135 = .ok (.iload_n 1, 1) := by decide +kernel
theorem dX10_two_136 : decode cX10_two 136 = .ok (.ifCond .ne 8, 3) := by decide +kernel
theorem dX10_two_139 : decode cX10_two 139 = .ok (.lload 8, 2) := by decide +kernel
theorem dX10_two_141 : decode cX10_two 141 = .ok (.goto 5, 3) := by decide +kernel
theorem dX10_two_144 : decode cX10_two 144 = .ok (.lload 10, 2) := by decide +kernel
theorem dX10_two_146 : decode cX10_two 146 = .ok (.lload 8, 2) := by decide +kernel
theorem dX10_two_148 : decode cX10_two 148 = .ok (.lload 10, 2) := by decide +kernel
theorem dX10_two_150 : decode cX10_two 150 = .ok (.invokestatic 242, 3) := by decide +kernel
theorem dX10_two_153 : decode cX10_two 153 = .ok (.ldiv, 1) := by decide +kernel
theorem dX10_two_154 : decode cX10_two 154 = .ok (.lreturn, 1) := by decide +kernel
theorem dX10_seeds_0 : decode cX10_seeds 0 = .ok (.iload_n 1, 1) := by decide +kernel
theorem dX10_seeds_1 : decode cX10_seeds 1 = .ok (.iconst 1, 1) := by decide +kernel
theorem dX10_seeds_2 : decode cX10_seeds 2 = .ok (.bipush 50, 2) := by decide +kernel
theorem dX10_seeds_4 : decode cX10_seeds 4 = .ok (.invokestatic 76, 3) := by decide +kernel
theorem dX10_seeds_7 : decode cX10_seeds 7 = .ok (.istore_n 3, 1) := by decide +kernel
theorem dX10_seeds_8 : decode cX10_seeds 8 = .ok (.iload_n 3, 1) := by decide +kernel
theorem dX10_seeds_9 : decode cX10_seeds 9 = .ok (.ifCond .ne 13, 3) := by decide +kernel
theorem dX10_seeds_12 : decode cX10_seeds 12 = .ok (.aload_n 0, 1) := by decide +kernel
theorem dX10_seeds_13 : decode cX10_seeds 13 = .ok (.getfield 72, 3) := by decide +kernel
theorem dX10_seeds_16 : decode cX10_seeds 16 = .ok (.ifCond .ne 6, 3) := by decide +kernel
theorem dX10_seeds_19 : decode cX10_seeds 19 = .ok (.bipush (-3), 2) := by decide +kernel
theorem dX10_seeds_21 : decode cX10_seeds 21 = .ok (.istore_n 3, 1) := by decide +kernel
theorem dX10_seeds_22 : decode cX10_seeds 22 = .ok (.iload_n 3, 1) := by decide +kernel
theorem dX10_seeds_23 : decode cX10_seeds 23 = .ok (.ifCond .eq 9, 3) := by decide +kernel
theorem dX10_seeds_26 : decode cX10_seeds 26 = .ok (.aload_n 0, 1) := by decide +kernel
theorem dX10_seeds_27 : decode cX10_seeds 27 = .ok (.iload_n 3, 1) := by decide +kernel
theorem dX10_seeds_28 : decode cX10_seeds 28 = .ok (.invokevirtual 83, 3) := by decide +kernel
theorem dX10_seeds_31 : decode cX10_seeds 31 = .ok (.ireturn, 1) := by decide +kernel
theorem dX10_seeds_32 : decode cX10_seeds 32 = .ok (.aload_n 0, 1) := by decide +kernel
theorem dX10_seeds_33 : decode cX10_seeds 33 = .ok (.iconst 1, 1) := by decide +kernel
theorem dX10_seeds_34 : decode cX10_seeds 34 = .ok (.iconst 1, 1) := by decide +kernel
theorem dX10_seeds_35 : decode cX10_seeds 35 = .ok (.invokevirtual 119, 3) := by decide +kernel
theorem dX10_seeds_38 : decode cX10_seeds 38 = .ok (.iload_n 2, 1) := by decide +kernel
theorem dX10_seeds_39 : decode cX10_seeds 39 = .ok (.istore 4, 2) := by decide +kernel
theorem dX10_seeds_41 : decode cX10_seeds 41 = .ok (.iconst 0, 1) := by decide +kernel
theorem dX10_seeds_42 : decode cX10_seeds 42 = .ok (.istore 5, 2) := by decide +kernel
theorem dX10_seeds_44 : decode cX10_seeds 44 = .ok (.iload 5, 2) := by decide +kernel
theorem dX10_seeds_46 : decode cX10_seeds 46 = .ok (.iload_n 1, 1) := by decide +kernel
theorem dX10_seeds_47 : decode cX10_seeds 47 = .ok (.if_icmp .ge 42, 3) := by decide +kernel
theorem dX10_seeds_50 : decode cX10_seeds 50 = .ok (.iload 4, 2) := by decide +kernel
theorem dX10_seeds_52 : decode cX10_seeds 52 = .ok (.ldc 246, 2) := by decide +kernel
theorem dX10_seeds_54 : decode cX10_seeds 54 = .ok (.imul, 1) := by decide +kernel
theorem dX10_seeds_55 : decode cX10_seeds 55 = .ok (.sipush 12345, 3) := by decide +kernel
theorem dX10_seeds_58 : decode cX10_seeds 58 = .ok (.iadd, 1) := by decide +kernel
theorem dX10_seeds_59 : decode cX10_seeds 59 = .ok (.istore 4, 2) := by decide +kernel
theorem dX10_seeds_61 : decode cX10_seeds 61 = .ok (.aload_n 0, 1) := by decide +kernel
theorem dX10_seeds_62 : decode cX10_seeds 62 = .ok (.iload 4, 2) := by decide +kernel
theorem dX10_seeds_64 : decode cX10_seeds 64 = .ok (.ldc 247, 2) := by decide +kernel
theorem dX10_seeds_66 : decode cX10_seeds 66 = .ok (.iand, 1) := by decide +kernel
theorem dX10_seeds_67 : decode cX10_seeds 67 = .ok (.ldc 248, 2) := by decide +kernel
theorem dX10_seeds_69 : decode cX10_seeds 69 = .ok (.idiv, 1) := by decide +kernel
theorem dX10_seeds_70 : decode cX10_seeds 70 = .ok (.aload_n 0, 1) := by decide +kernel
theorem dX10_seeds_71 : decode cX10_seeds 71 = .ok (.getfield 72, 3) := by decide +kernel
theorem dX10_seeds_74 : decode cX10_seeds 74 = .ok (.irem, 1) := by decide +kernel
theorem dX10_seeds_75 : decode cX10_seeds 75 = .ok (.invokevirtual 199, 3) := by decide +kernel
theorem dX10_seeds_78 : decode cX10_seeds 78 = .ok (.aload_n 0, 1) := by decide +kernel
theorem dX10_seeds_79 : decode cX10_seeds 79 = .ok (.invokevirtual 189, 3) := by decide +kernel
theorem dX10_seeds_82 : decode cX10_seeds 82 = .ok (.pop, 1) := by decide +kernel
theorem dX10_seeds_83 : decode cX10_seeds 83 = .ok (.iinc 5 1, 3) := by decide +kernel
theorem dX10_seeds_86 : decode cX10_seeds 86 = .ok (.goto (-42), 3) := by decide +kernel
theorem dX10_seeds_89 : decode cX10_seeds 89 = .ok (.aload_n 0, 1) := by decide +kernel
theorem dX10_seeds_90 : decode cX10_seeds 90 = .ok (.iconst 0, 1) := by decide +kernel
theorem dX10_seeds_91 : decode cX10_seeds 91 = .ok (.invokevirtual 230, 3) := by decide +kernel
theorem dX10_seeds_94 : decode cX10_seeds 94 = .ok (.istore 5, 2) := by decide +kernel
theorem dX10_seeds_96 : decode cX10_seeds 96 = .ok (.aload_n 0, 1) := by decide +kernel
theorem dX10_seeds_97 : decode cX10_seeds 97 = .ok (.iconst 1, 1) := by decide +kernel
theorem dX10_seeds_98 : decode cX10_seeds 98 = .ok (.iconst 0, 1) := by decide +kernel
theorem dX10_seeds_99 : decode cX10_seeds 99 = .ok (.invokevirtual 119, 3) := by decide +kernel
theorem dX10_seeds_102 : decode cX10_seeds 102 = .ok (.iload 5, 2) := by decide +kernel
theorem dX10_seeds_104 : decode cX10_seeds 104 = .ok (.ireturn, 1) := by decide +kernel
theorem dX10_count_0 : decode cX10_count 0 = .ok (.iload_n 1, 1) := by decide +kernel
theorem dX10_count_1 : decode cX10_count 1 = .ok (.bipush 11, 2) := by decide +kernel
theorem dX10_count_3 : decode cX10_count 3 = .ok (.bipush 16, 2) := by decide +kernel
theorem dX10_count_5 : decode cX10_count 5 = .ok (.invokestatic 94, 3) := by decide +kernel
theorem dX10_count_8 : decode cX10_count 8 = .ok (.ifCond .eq 13, 3) := by decide +kernel
theorem dX10_count_11 : decode cX10_count 11 = .ok (.aload_n 0, 1) := by decide +kernel
theorem dX10_count_12 : decode cX10_count 12 = .ok (.getfield 7, 3) := by decide +kernel
theorem dX10_count_15 : decode cX10_count 15 = .ok (.iload_n 1, 1) := by decide +kernel
theorem dX10_count_16 : decode cX10_count 16 = .ok (.bipush 10, 2) := by decide +kernel
theorem dX10_count_18 : decode cX10_count 18 = .ok (.isub, 1) := by decide +kernel
theorem dX10_count_19 : decode cX10_count 19 = .ok (.iaload, 1) := by decide +kernel
theorem dX10_count_20 : decode cX10_count 20 = .ok (.ireturn, 1) := by decide +kernel
theorem dX10_count_21 : decode cX10_count 21 = .ok (.iload_n 1, 1) := by decide +kernel
theorem dX10_count_22 : decode cX10_count 22 = .ok (.iconst 1, 1) := by decide +kernel
theorem dX10_count_23 : decode cX10_count 23 = .ok (.iconst 4, 1) := by decide +kernel
theorem dX10_count_24 : decode cX10_count 24 = .ok (.invokestatic 94, 3) := by decide +kernel
theorem dX10_count_27 : decode cX10_count 27 = .ok (.ifCond .eq 11, 3) := by decide +kernel
theorem dX10_count_30 : decode cX10_count 30 = .ok (.aload_n 0, 1) := by decide +kernel
theorem dX10_count_31 : decode cX10_count 31 = .ok (.iload_n 1, 1) := by decide +kernel
theorem dX10_count_32 : decode cX10_count 32 = .ok (.iconst 1, 1) := by decide +kernel
theorem dX10_count_33 : decode cX10_count 33 = .ok (.isub, 1) := by decide +kernel
theorem dX10_count_34 : decode cX10_count 34 = .ok (.invokevirtual 230, 3) := by decide +kernel
theorem dX10_count_37 : decode cX10_count 37 = .ok (.ireturn, 1) := by decide +kernel
theorem dX10_count_38 : decode cX10_count 38 = .ok (.iconst 0, 1) := by decide +kernel
theorem dX10_count_39 : decode cX10_count 39 = .ok (.istore_n 2, 1) := by decide +kernel
theorem dX10_count_40 : decode cX10_count 40 = .ok (.iload_n 1, 1) := by decide +kernel
theorem dX10_count_41 : decode cX10_count 41 = .ok (.tableswitch 115 0 9 #[55, 115, 115, 115, 115, 60, 65, 78, 83, 88], 55) := by decide +kernel
theorem dX10_count_96 : decode cX10_count 96 = .ok (.aload_n 0, 1) := by decide +kernel
theorem dX10_count_97 : decode cX10_count 97 = .ok (.getfield 72, 3) := by decide +kernel
theorem dX10_count_100 : decode cX10_count 100 = .ok (.ireturn, 1) := by decide +kernel
theorem dX10_count_101 : decode cX10_count 101 = .ok (.aload_n 0, 1) := by decide +kernel
theorem dX10_count_102 : decode cX10_count 102 = .ok (.getfield 140, 3) := by decide +kernel
theorem dX10_count_105 : decode cX10_count 105 = .ok (.ireturn, 1) := by decide +kernel
theorem dX10_count_106 : decode cX10_count 106 = .ok (.aload_n 0, 1) := by decide +kernel
theorem dX10_count_107 : decode cX10_count 107 = .ok (.invokevirtual 155, 3) := by decide +kernel
theorem dX10_count_110 : decode cX10_count 110 = .ok (.ifCond .eq 7, 3) := by decide +kernel
theorem dX10_count_113 : decode cX10_count 113 = .ok (.iconst 1, 1) := by decide +kernel
theorem dX10_count_114 : decode cX10_count 114 = .ok (.goto 4, 3) := by decide +kernel
theorem dX10_count_117 : decode cX10_count 117 = .ok (.iconst 0, 1) := by decide +kernel
theorem dX10_count_118 : decode cX10_count 118 = .ok (.ireturn, 1) := by decide +kernel
theorem dX10_count_119 : decode cX10_count 119 = .ok (.aload_n 0, 1) := by decide +kernel
theorem dX10_count_120 : decode cX10_count 120 = .ok (.getfield 80, 3) := by decide +kernel
theorem dX10_count_123 : decode cX10_count 123 = .ok (.ireturn, 1) := by decide +kernel
theorem dX10_count_124 : decode cX10_count 124 = .ok (.aload_n 0, 1) := by decide +kernel
theorem dX10_count_125 : decode cX10_count 125 = .ok (.getfield 215, 3) := by decide +kernel
theorem dX10_count_128 : decode cX10_count 128 = .ok (.ireturn, 1) := by decide +kernel
theorem dX10_count_129 : decode cX10_count 129 = .ok (.iconst 0, 1) := by decide +kernel
theorem dX10_count_130 : decode cX10_count 130 = .ok (.istore_n 3, 1) := by decide +kernel
theorem dX10_count_131 : decode cX10_count 131 = .ok (.iload_n 3, 1) := by decide +kernel
theorem dX10_count_132 : decode cX10_count 132 = .ok (.aload_n 0, 1) := by decide +kernel
theorem dX10_count_133 : decode cX10_count 133 = .ok (.getfield 72, 3) := by decide +kernel
theorem dX10_count_136 : decode cX10_count 136 = .ok (.if_icmp .ge 18, 3) := by decide +kernel
theorem dX10_count_139 : decode cX10_count 139 = .ok (.iload_n 2, 1) := by decide +kernel
theorem dX10_count_140 : decode cX10_count 140 = .ok (.aload_n 0, 1) := by decide +kernel
theorem dX10_count_141 : decode cX10_count 141 = .ok (.getfield 22, 3) := by decide +kernel
theorem dX10_count_144 : decode cX10_count 144 = .ok (.iload_n 3, 1) := by decide +kernel
theorem dX10_count_145 : decode cX10_count 145 = .ok (.iaload, 1) := by decide +kernel
theorem dX10_count_146 : decode cX10_count 146 = .ok (.iadd, 1) := by decide +kernel
theorem dX10_count_147 : decode cX10_count 147 = .ok (.istore_n 2, 1) := by decide +kernel
theorem dX10_count_148 : decode cX10_count 148 = .ok (.iinc 3 1, 3) := by decide +kernel
theorem dX10_count_151 : decode cX10_count 151 = .ok (.goto (-20), 3) := by decide +kernel
theorem dX10_count_154 : decode cX10_count 154 = .ok (.iload_n 2, 1) := by decide +kernel
theorem dX10_count_155 : decode cX10_count 155 = .ok (.ireturn, 1) := by decide +kernel
theorem dX10_count_156 : decode cX10_count 156 = .ok (.bipush (-9), 2) := by decide +kernel
theorem dX10_count_158 : decode cX10_count 158 = .ok (.ireturn, 1) := by decide +kernel
theorem dL_law_0 : decode cL_law 0 = .ok (.new 7, 3) := by decide +kernel
theorem dL_law_3 : decode cL_law 3 = .ok (.dup, 1) := by decide +kernel
theorem dL_law_4 : decode cL_law 4 = .ok (.invokespecial 9, 3) := by decide +kernel
theorem dL_law_7 : decode cL_law 7 = .ok (.astore_n 1, 1) := by decide +kernel
theorem dL_law_8 : decode cL_law 8 = .ok (.new 10, 3) := by decide +kernel
theorem dL_law_11 : decode cL_law 11 = .ok (.dup, 1) := by decide +kernel
theorem dL_law_12 : decode cL_law 12 = .ok (.invokespecial 12, 3) := by decide +kernel
theorem dL_law_15 : decode cL_law 15 = .ok (.astore_n 2, 1) := by decide +kernel
theorem dL_law_16 : decode cL_law 16 = .ok (.iconst 0, 1) := by decide +kernel
theorem dL_law_17 : decode cL_law 17 = .ok (.istore_n 3, 1) := by decide +kernel
theorem dL_law_18 : decode cL_law 18 = .ok (.iload_n 3, 1) := by decide +kernel
theorem dL_law_19 : decode cL_law 19 = .ok (.aload_n 0, 1) := by decide +kernel
theorem dL_law_20 : decode cL_law 20 = .ok (.arraylength, 1) := by decide +kernel
theorem dL_law_21 : decode cL_law 21 = .ok (.iconst 4, 1) := by decide +kernel
theorem dL_law_22 : decode cL_law 22 = .ok (.isub, 1) := by decide +kernel
theorem dL_law_23 : decode cL_law 23 = .ok (.if_icmp .gt 812, 3) := by decide +kernel
theorem dL_law_26 : decode cL_law 26 = .ok (.aload_n 0, 1) := by decide +kernel
theorem dL_law_27 : decode cL_law 27 = .ok (.iload_n 3, 1) := by decide +kernel
theorem dL_law_28 : decode cL_law 28 = .ok (.iaload, 1) := by decide +kernel
theorem dL_law_29 : decode cL_law 29 = .ok (.bipush 31, 2) := by decide +kernel
theorem dL_law_31 : decode cL_law 31 = .ok (.iand, 1) := by decide +kernel
theorem dL_law_32 : decode cL_law 32 = .ok (.tableswitch 797 0 29 #[136, 159, 172, 205, 238, 251, 264, 287, 320, 343, 366, 409, 452, 475, 488, 521, 534, 547, 560, 583, 606, 619, 642, 665, 678, 691, 715, 748, 761, 774], 136) := by decide +kernel
theorem dL_law_168 : decode cL_law 168 = .ok (.aload_n 1, 1) := by decide +kernel
theorem dL_law_169 : decode cL_law 169 = .ok (.aload_n 0, 1) := by decide +kernel
theorem dL_law_170 : decode cL_law 170 = .ok (.iload_n 3, 1) := by decide +kernel
theorem dL_law_171 : decode cL_law 171 = .ok (.iconst 1, 1) := by decide +kernel
theorem dL_law_172 : decode cL_law 172 = .ok (.iadd, 1) := by decide +kernel
theorem dL_law_173 : decode cL_law 173 = .ok (.iaload, 1) := by decide +kernel
theorem dL_law_174 : decode cL_law 174 = .ok (.invokevirtual 13, 3) := by decide +kernel
theorem dL_law_177 : decode cL_law 177 = .ok (.aload_n 2, 1) := by decide +kernel
theorem dL_law_178 : decode cL_law 178 = .ok (.aload_n 0, 1) := by decide +kernel
theorem dL_law_179 : decode cL_law 179 = .ok (.iload_n 3, 1) := by decide +kernel
theorem dL_law_180 : decode cL_law 180 = .ok (.iconst 1, 1) := by decide +kernel
theorem dL_law_181 : decode cL_law 181 = .ok (.iadd, 1) := by decide +kernel
theorem dL_law_182 : decode cL_law 182 = .ok (.iaload, 1) := by decide +kernel
theorem dL_law_183 : decode cL_law 183 = .ok (.invokevirtual 17, 3) := by decide +kernel
theorem dL_law_186 : decode cL_law 186 = .ok (.if_icmp .eq 643, 3) := by decide +kernel
theorem dL_law_189 : decode cL_law 189 = .ok (.iconst 0, 1) := by decide +kernel
theorem dL_law_190 : decode cL_law 190 = .ok (.ireturn, 1) := by decide +kernel
theorem dL_law_191 : decode cL_law 191 = .ok (.aload_n 1, 1) := by decide +kernel
theorem dL_law_192 : decode cL_law 192 = .ok (.invokevirtual 18, 3) := by decide +kernel
theorem dL_law_195 : decode cL_law 195 = .ok (.aload_n 2, 1) := by decide +kernel
theorem dL_law_196 : decode cL_law 196 = .ok (.invokevirtual 22, 3) := by decide +kernel
theorem dL_law_199 : decode cL_law 199 = .ok (.if_icmp .eq 630, 3) := by decide +kernel
theorem dL_law_202 : decode cL_law 202 = .ok (.iconst 0, 1) := by decide +kernel
theorem dL_law_203 : decode cL_law 203 = .ok (.ireturn, 1) := by decide +kernel
theorem dL_law_204 : decode cL_law 204 = .ok (.aload_n 1, 1) := by decide +kernel
theorem dL_law_205 : decode cL_law 205 = .ok (.aload_n 0, 1) := by decide +kernel
theorem dL_law_206 : decode cL_law 206 = .ok (.iload_n 3, 1) := by decide +kernel
theorem dL_law_207 : decode cL_law 207 = .ok (.iconst 1, 1) := by decide +kernel
theorem dL_law_208 : decode cL_law 208 = .ok (.iadd, 1) := by decide +kernel
theorem dL_law_209 : decode cL_law 209 = .ok (.iaload, 1) := by decide +kernel
theorem dL_law_210 : decode cL_law 210 = .ok (.aload_n 0, 1) := by decide +kernel
theorem dL_law_211 : decode cL_law 211 = .ok (.iload_n 3, 1) := by decide +kernel
theorem dL_law_212 : decode cL_law 212 = .ok (.iconst 2, 1) := by decide +kernel
theorem dL_law_213 : decode cL_law 213 = .ok (.iadd, 1) := by decide +kernel
theorem dL_law_214 : decode cL_law 214 = .ok (.iaload, 1) := by decide +kernel
theorem dL_law_215 : decode cL_law 215 = .ok (.invokevirtual 23, 3) := by decide +kernel
theorem dL_law_218 : decode cL_law 218 = .ok (.aload_n 2, 1) := by decide +kernel
theorem dL_law_219 : decode cL_law 219 = .ok (.aload_n 0, 1) := by decide +kernel
theorem dL_law_220 : decode cL_law 220 = .ok (.iload_n 3, 1) := by decide +kernel
theorem dL_law_221 : decode cL_law 221 = .ok (.iconst 1, 1) := by decide +kernel
theorem dL_law_222 : decode cL_law 222 = .ok (.iadd, 1) := by decide +kernel
theorem dL_law_223 : decode cL_law 223 = .ok (.iaload, 1) := by decide +kernel
theorem dL_law_224 : decode cL_law 224 = .ok (.aload_n 0, 1) := by decide +kernel
theorem dL_law_225 : decode cL_law 225 = .ok (.iload_n 3, 1) := by decide +kernel
theorem dL_law_226 : decode cL_law 226 = .ok (.iconst 2, 1) := by decide +kernel
theorem dL_law_227 : decode cL_law 227 = .ok (.iadd, 1) := by decide +kernel
theorem dL_law_228 : decode cL_law 228 = .ok (.iaload, 1) := by decide +kernel
theorem dL_law_229 : decode cL_law 229 = .ok (.invokevirtual 27, 3) := by decide +kernel
theorem dL_law_232 : decode cL_law 232 = .ok (.if_icmp .eq 597, 3) := by decide +kernel
theorem dL_law_235 : decode cL_law 235 = .ok (.iconst 0, 1) := by decide +kernel
theorem dL_law_236 : decode cL_law 236 = .ok (.ireturn, 1) := by decide +kernel
theorem dL_law_237 : decode cL_law 237 = .ok (.aload_n 1, 1) := by decide +kernel
theorem dL_law_238 : decode cL_law 238 = .ok (.aload_n 0, 1) := by decide +kernel
theorem dL_law_239 : decode cL_law 239 = .ok (.iload_n 3, 1) := by decide +kernel
theorem dL_law_240 : decode cL_law 240 = .ok (.iconst 1, 1) := by decide +kernel
theorem dL_law_241 : decode cL_law 241 = .ok (.iadd, 1) := by decide +kernel
theorem dL_law_242 : decode cL_law 242 = .ok (.iaload, 1) := by decide +kernel
theorem dL_law_243 : decode cL_law 243 = .ok (.aload_n 0, 1) := by decide +kernel
theorem dL_law_244 : decode cL_law 244 = .ok (.iload_n 3, 1) := by decide +kernel
theorem dL_law_245 : decode cL_law 245 = .ok (.iconst 2, 1) := by decide +kernel
theorem dL_law_246 : decode cL_law 246 = .ok (.iadd, 1) := by decide +kernel
theorem dL_law_247 : decode cL_law 247 = .ok (.iaload, 1) := by decide +kernel
theorem dL_law_248 : decode cL_law 248 = .ok (.invokevirtual 28, 3) := by decide +kernel
theorem dL_law_251 : decode cL_law 251 = .ok (.aload_n 2, 1) := by decide +kernel
theorem dL_law_252 : decode cL_law 252 = .ok (.aload_n 0, 1) := by decide +kernel
theorem dL_law_253 : decode cL_law 253 = .ok (.iload_n 3, 1) := by decide +kernel
theorem dL_law_254 : decode cL_law 254 = .ok (.iconst 1, 1) := by decide +kernel
theorem dL_law_255 : decode cL_law 255 = .ok (.iadd, 1) := by decide +kernel
theorem dL_law_256 : decode cL_law 256 = .ok (.iaload, 1) := by decide +kernel
theorem dL_law_257 : decode cL_law 257 = .ok (.aload_n 0, 1) := by decide +kernel
theorem dL_law_258 : decode cL_law 258 = .ok (.iload_n 3, 1) := by decide +kernel
theorem dL_law_259 : decode cL_law 259 = .ok (.iconst 2, 1) := by decide +kernel
theorem dL_law_260 : decode cL_law 260 = .ok (.iadd, 1) := by decide +kernel
theorem dL_law_261 : decode cL_law 261 = .ok (.iaload, 1) := by decide +kernel
theorem dL_law_262 : decode cL_law 262 = .ok (.invokevirtual 31, 3) := by decide +kernel
theorem dL_law_265 : decode cL_law 265 = .ok (.if_icmp .eq 564, 3) := by decide +kernel
theorem dL_law_268 : decode cL_law 268 = .ok (.iconst 0, 1) := by decide +kernel
theorem dL_law_269 : decode cL_law 269 = .ok (.ireturn, 1) := by decide +kernel
theorem dL_law_270 : decode cL_law 270 = .ok (.aload_n 1, 1) := by decide +kernel
theorem dL_law_271 : decode cL_law 271 = .ok (.invokevirtual 32, 3) := by decide +kernel
theorem dL_law_274 : decode cL_law 274 = .ok (.aload_n 2, 1) := by decide +kernel
theorem dL_law_275 : decode cL_law 275 = .ok (.invokevirtual 35, 3) := by decide +kernel
theorem dL_law_278 : decode cL_law 278 = .ok (.if_icmp .eq 551, 3) := by decide +kernel
theorem dL_law_281 : decode cL_law 281 = .ok (.iconst 0, 1) := by decide +kernel
theorem dL_law_282 : decode cL_law 282 = .ok (.ireturn, 1) := by decide +kernel
theorem dL_law_283 : decode cL_law 283 = .ok (.aload_n 1, 1) := by decide +kernel
theorem dL_law_284 : decode cL_law 284 = .ok (.invokevirtual 36, 3) := by decide +kernel
theorem dL_law_287 : decode cL_law 287 = .ok (.aload_n 2, 1) := by decide +kernel
theorem dL_law_288 : decode cL_law 288 = .ok (.invokevirtual 39, 3) := by decide +kernel
theorem dL_law_291 : decode cL_law 291 = .ok (.if_icmp .eq 538, 3) := by decide +kernel
theorem dL_law_294 : decode cL_law 294 = .ok (.iconst 0, 1) := by decide +kernel
theorem dL_law_295 : decode cL_law 295 = .ok (.ireturn, 1) := by decide +kernel
theorem dL_law_296 : decode cL_law 296 = .ok (.aload_n 1, 1) := by decide +kernel
theorem dL_law_297 : decode cL_law 297 = .ok (.aload_n 0, 1) := by decide +kernel
theorem dL_law_298 : decode cL_law 298 = .ok (.iload_n 3, 1) := by decide +kernel
theorem dL_law_299 : decode cL_law 299 = .ok (.iconst 1, 1) := by decide +kernel
theorem dL_law_300 : decode cL_law 300 = .ok (.iadd, 1) := by decide +kernel
theorem dL_law_301 : decode cL_law 301 = .ok (.iaload, 1) := by decide +kernel
theorem dL_law_302 : decode cL_law 302 = .ok (.invokevirtual 40, 3) := by decide +kernel
theorem dL_law_305 : decode cL_law 305 = .ok (.aload_n 2, 1) := by decide +kernel
theorem dL_law_306 : decode cL_law 306 = .ok (.aload_n 0, 1) := by decide +kernel
theorem dL_law_307 : decode cL_law 307 = .ok (.iload_n 3, 1) := by decide +kernel
theorem dL_law_308 : decode cL_law 308 = .ok (.iconst 1, 1) := by decide +kernel
theorem dL_law_309 : decode cL_law 309 = .ok (.iadd, 1) := by decide +kernel
theorem dL_law_310 : decode cL_law 310 = .ok (.iaload, 1) := by decide +kernel
theorem dL_law_311 : decode cL_law 311 = .ok (.invokevirtual 43, 3) := by decide +kernel
theorem dL_law_314 : decode cL_law 314 = .ok (.if_icmp .eq 515, 3) := by decide +kernel
theorem dL_law_317 : decode cL_law 317 = .ok (.iconst 0, 1) := by decide +kernel
theorem dL_law_318 : decode cL_law 318 = .ok (.ireturn, 1) := by decide +kernel
theorem dL_law_319 : decode cL_law 319 = .ok (.aload_n 1, 1) := by decide +kernel
theorem dL_law_320 : decode cL_law 320 = .ok (.aload_n 0, 1) := by decide +kernel
theorem dL_law_321 : decode cL_law 321 = .ok (.iload_n 3, 1) := by decide +kernel
theorem dL_law_322 : decode cL_law 322 = .ok (.iconst 1, 1) := by decide +kernel
theorem dL_law_323 : decode cL_law 323 = .ok (.iadd, 1) := by decide +kernel
theorem dL_law_324 : decode cL_law 324 = .ok (.iaload, 1) := by decide +kernel
theorem dL_law_325 : decode cL_law 325 = .ok (.aload_n 0, 1) := by decide +kernel
theorem dL_law_326 : decode cL_law 326 = .ok (.iload_n 3, 1) := by decide +kernel
theorem dL_law_327 : decode cL_law 327 = .ok (.iconst 2, 1) := by decide +kernel
theorem dL_law_328 : decode cL_law 328 = .ok (.iadd, 1) := by decide +kernel
theorem dL_law_329 : decode cL_law 329 = .ok (.iaload, 1) := by decide +kernel
theorem dL_law_330 : decode cL_law 330 = .ok (.invokevirtual 44, 3) := by decide +kernel
theorem dL_law_333 : decode cL_law 333 = .ok (.aload_n 2, 1) := by decide +kernel
theorem dL_law_334 : decode cL_law 334 = .ok (.aload_n 0, 1) := by decide +kernel
theorem dL_law_335 : decode cL_law 335 = .ok (.iload_n 3, 1) := by decide +kernel
theorem dL_law_336 : decode cL_law 336 = .ok (.iconst 1, 1) := by decide +kernel
theorem dL_law_337 : decode cL_law 337 = .ok (.iadd, 1) := by decide +kernel
theorem dL_law_338 : decode cL_law 338 = .ok (.iaload, 1) := by decide +kernel
theorem dL_law_339 : decode cL_law 339 = .ok (.aload_n 0, 1) := by decide +kernel
theorem dL_law_340 : decode cL_law 340 = .ok (.iload_n 3, 1) := by decide +kernel
theorem dL_law_341 : decode cL_law 341 = .ok (.iconst 2, 1) := by decide +kernel
theorem dL_law_342 : decode cL_law 342 = .ok (.iadd, 1) := by decide +kernel
theorem dL_law_343 : decode cL_law 343 = .ok (.iaload, 1) := by decide +kernel
theorem dL_law_344 : decode cL_law 344 = .ok (.invokevirtual 47, 3) := by decide +kernel
theorem dL_law_347 : decode cL_law 347 = .ok (.if_icmp .eq 482, 3) := by decide +kernel
theorem dL_law_350 : decode cL_law 350 = .ok (.iconst 0, 1) := by decide +kernel
theorem dL_law_351 : decode cL_law 351 = .ok (.ireturn, 1) := by decide +kernel
theorem dL_law_352 : decode cL_law 352 = .ok (.aload_n 1, 1) := by decide +kernel
theorem dL_law_353 : decode cL_law 353 = .ok (.aload_n 0, 1) := by decide +kernel
theorem dL_law_354 : decode cL_law 354 = .ok (.iload_n 3, 1) := by decide +kernel
theorem dL_law_355 : decode cL_law 355 = .ok (.iconst 1, 1) := by decide +kernel
theorem dL_law_356 : decode cL_law 356 = .ok (.iadd, 1) := by decide +kernel
theorem dL_law_357 : decode cL_law 357 = .ok (.iaload, 1) := by decide +kernel
theorem dL_law_358 : decode cL_law 358 = .ok (.invokevirtual 48, 3) := by decide +kernel
theorem dL_law_361 : decode cL_law 361 = .ok (.aload_n 2, 1) := by decide +kernel
theorem dL_law_362 : decode cL_law 362 = .ok (.aload_n 0, 1) := by decide +kernel
theorem dL_law_363 : decode cL_law 363 = .ok (.iload_n 3, 1) := by decide +kernel
theorem dL_law_364 : decode cL_law 364 = .ok (.iconst 1, 1) := by decide +kernel
theorem dL_law_365 : decode cL_law 365 = .ok (.iadd, 1) := by decide +kernel
theorem dL_law_366 : decode cL_law 366 = .ok (.iaload, 1) := by decide +kernel
theorem dL_law_367 : decode cL_law 367 = .ok (.invokevirtual 51, 3) := by decide +kernel
theorem dL_law_370 : decode cL_law 370 = .ok (.if_icmp .eq 459, 3) := by decide +kernel
theorem dL_law_373 : decode cL_law 373 = .ok (.iconst 0, 1) := by decide +kernel
theorem dL_law_374 : decode cL_law 374 = .ok (.ireturn, 1) := by decide +kernel
theorem dL_law_375 : decode cL_law 375 = .ok (.aload_n 1, 1) := by decide +kernel
theorem dL_law_376 : decode cL_law 376 = .ok (.aload_n 0, 1) := by decide +kernel
theorem dL_law_377 : decode cL_law 377 = .ok (.iload_n 3, 1) := by decide +kernel
theorem dL_law_378 : decode cL_law 378 = .ok (.iconst 1, 1) := by decide +kernel
theorem dL_law_379 : decode cL_law 379 = .ok (.iadd, 1) := by decide +kernel
theorem dL_law_380 : decode cL_law 380 = .ok (.iaload, 1) := by decide +kernel
theorem dL_law_381 : decode cL_law 381 = .ok (.invokevirtual 52, 3) := by decide +kernel
theorem dL_law_384 : decode cL_law 384 = .ok (.aload_n 2, 1) := by decide +kernel
theorem dL_law_385 : decode cL_law 385 = .ok (.aload_n 0, 1) := by decide +kernel
theorem dL_law_386 : decode cL_law 386 = .ok (.iload_n 3, 1) := by decide +kernel
theorem dL_law_387 : decode cL_law 387 = .ok (.iconst 1, 1) := by decide +kernel
theorem dL_law_388 : decode cL_law 388 = .ok (.iadd, 1) := by decide +kernel
theorem dL_law_389 : decode cL_law 389 = .ok (.iaload, 1) := by decide +kernel
theorem dL_law_390 : decode cL_law 390 = .ok (.invokevirtual 55, 3) := by decide +kernel
theorem dL_law_393 : decode cL_law 393 = .ok (.if_icmp .eq 436, 3) := by decide +kernel
theorem dL_law_396 : decode cL_law 396 = .ok (.iconst 0, 1) := by decide +kernel
theorem dL_law_397 : decode cL_law 397 = .ok (.ireturn, 1) := by decide +kernel
theorem dL_law_398 : decode cL_law 398 = .ok (.aload_n 1, 1) := by decide +kernel
theorem dL_law_399 : decode cL_law 399 = .ok (.aload_n 0, 1) := by decide +kernel
theorem dL_law_400 : decode cL_law 400 = .ok (.iload_n 3, 1) := by decide +kernel
theorem dL_law_401 : decode cL_law 401 = .ok (.iconst 1, 1) := by decide +kernel
theorem dL_law_402 : decode cL_law 402 = .ok (.iadd, 1) := by decide +kernel
theorem dL_law_403 : decode cL_law 403 = .ok (.iaload, 1) := by decide +kernel
theorem dL_law_404 : decode cL_law 404 = .ok (.aload_n 0, 1) := by decide +kernel
theorem dL_law_405 : decode cL_law 405 = .ok (.iload_n 3, 1) := by decide +kernel
theorem dL_law_406 : decode cL_law 406 = .ok (.iconst 2, 1) := by decide +kernel
theorem dL_law_407 : decode cL_law 407 = .ok (.iadd, 1) := by decide +kernel
theorem dL_law_408 : decode cL_law 408 = .ok (.iaload, 1) := by decide +kernel
theorem dL_law_409 : decode cL_law 409 = .ok (.aload_n 0, 1) := by decide +kernel
theorem dL_law_410 : decode cL_law 410 = .ok (.iload_n 3, 1) := by decide +kernel
theorem dL_law_411 : decode cL_law 411 = .ok (.iconst 3, 1) := by decide +kernel
theorem dL_law_412 : decode cL_law 412 = .ok (.iadd, 1) := by decide +kernel
theorem dL_law_413 : decode cL_law 413 = .ok (.iaload, 1) := by decide +kernel
theorem dL_law_414 : decode cL_law 414 = .ok (.invokevirtual 56, 3) := by decide +kernel
theorem dL_law_417 : decode cL_law 417 = .ok (.aload_n 2, 1) := by decide +kernel
theorem dL_law_418 : decode cL_law 418 = .ok (.aload_n 0, 1) := by decide +kernel
theorem dL_law_419 : decode cL_law 419 = .ok (.iload_n 3, 1) := by decide +kernel
theorem dL_law_420 : decode cL_law 420 = .ok (.iconst 1, 1) := by decide +kernel
theorem dL_law_421 : decode cL_law 421 = .ok (.iadd, 1) := by decide +kernel
theorem dL_law_422 : decode cL_law 422 = .ok (.iaload, 1) := by decide +kernel
theorem dL_law_423 : decode cL_law 423 = .ok (.aload_n 0, 1) := by decide +kernel
theorem dL_law_424 : decode cL_law 424 = .ok (.iload_n 3, 1) := by decide +kernel
theorem dL_law_425 : decode cL_law 425 = .ok (.iconst 2, 1) := by decide +kernel
theorem dL_law_426 : decode cL_law 426 = .ok (.iadd, 1) := by decide +kernel
theorem dL_law_427 : decode cL_law 427 = .ok (.iaload, 1) := by decide +kernel
theorem dL_law_428 : decode cL_law 428 = .ok (.aload_n 0, 1) := by decide +kernel
theorem dL_law_429 : decode cL_law 429 = .ok (.iload_n 3, 1) := by decide +kernel
theorem dL_law_430 : decode cL_law 430 = .ok (.iconst 3, 1) := by decide +kernel
theorem dL_law_431 : decode cL_law 431 = .ok (.iadd, 1) := by decide +kernel
theorem dL_law_432 : decode cL_law 432 = .ok (.iaload, 1) := by decide +kernel
theorem dL_law_433 : decode cL_law 433 = .ok (.invokevirtual 60, 3) := by decide +kernel
theorem dL_law_436 : decode cL_law 436 = .ok (.if_icmp .eq 393, 3) := by decide +kernel
theorem dL_law_439 : decode cL_law 439 = .ok (.iconst 0, 1) := by decide +kernel
theorem dL_law_440 : decode cL_law 440 = .ok (.ireturn, 1) := by decide +kernel
theorem dL_law_441 : decode cL_law 441 = .ok (.aload_n 1, 1) := by decide +kernel
theorem dL_law_442 : decode cL_law 442 = .ok (.aload_n 0, 1) := by decide +kernel
theorem dL_law_443 : decode cL_law 443 = .ok (.iload_n 3, 1) := by decide +kernel
theorem dL_law_444 : decode cL_law 444 = .ok (.iconst 1, 1) := by decide +kernel
theorem dL_law_445 : decode cL_law 445 = .ok (.iadd, 1) := by decide +kernel
theorem dL_law_446 : decode cL_law 446 = .ok (.iaload, 1) := by decide +kernel
theorem dL_law_447 : decode cL_law 447 = .ok (.aload_n 0, 1) := by decide +kernel
theorem dL_law_448 : decode cL_law 448 = .ok (.iload_n 3, 1) := by decide +kernel
theorem dL_law_449 : decode cL_law 449 = .ok (.iconst 2, 1) := by decide +kernel
theorem dL_law_450 : decode cL_law 450 = .ok (.iadd, 1) := by decide +kernel
theorem dL_law_451 : decode cL_law 451 = .ok (.iaload, 1) := by decide +kernel
theorem dL_law_452 : decode cL_law 452 = .ok (.aload_n 0, 1) := by decide +kernel
theorem dL_law_453 : decode cL_law 453 = .ok (.iload_n 3, 1) := by decide +kernel
theorem dL_law_454 : decode cL_law 454 = .ok (.iconst 3, 1) := by decide +kernel
theorem dL_law_455 : decode cL_law 455 = .ok (.iadd, 1) := by decide +kernel
theorem dL_law_456 : decode cL_law 456 = .ok (.iaload, 1) := by decide +kernel
theorem dL_law_457 : decode cL_law 457 = .ok (.invokevirtual 61, 3) := by decide +kernel
theorem dL_law_460 : decode cL_law 460 = .ok (.aload_n 2, 1) := by decide +kernel
theorem dL_law_461 : decode cL_law 461 = .ok (.aload_n 0, 1) := by decide +kernel
theorem dL_law_462 : decode cL_law 462 = .ok (.iload_n 3, 1) := by decide +kernel
theorem dL_law_463 : decode cL_law 463 = .ok (.iconst 1, 1) := by decide +kernel
theorem dL_law_464 : decode cL_law 464 = .ok (.iadd, 1) := by decide +kernel
theorem dL_law_465 : decode cL_law 465 = .ok (.iaload, 1) := by decide +kernel
theorem dL_law_466 : decode cL_law 466 = .ok (.aload_n 0, 1) := by decide +kernel
theorem dL_law_467 : decode cL_law 467 = .ok (.iload_n 3, 1) := by decide +kernel
theorem dL_law_468 : decode cL_law 468 = .ok (.iconst 2, 1) := by decide +kernel
theorem dL_law_469 : decode cL_law 469 = .ok (.iadd, 1) := by decide +kernel
theorem dL_law_470 : decode cL_law 470 = .ok (.iaload, 1) := by decide +kernel
theorem dL_law_471 : decode cL_law 471 = .ok (.aload_n 0, 1) := by decide +kernel
theorem dL_law_472 : decode cL_law 472 = .ok (.iload_n 3, 1) := by decide +kernel
theorem dL_law_473 : decode cL_law 473 = .ok (.iconst 3, 1) := by decide +kernel
theorem dL_law_474 : decode cL_law 474 = .ok (.iadd, 1) := by decide +kernel
theorem dL_law_475 : decode cL_law 475 = .ok (.iaload, 1) := by decide +kernel
theorem dL_law_476 : decode cL_law 476 = .ok (.invokevirtual 64, 3) := by decide +kernel
theorem dL_law_479 : decode cL_law 479 = .ok (.if_icmp .eq 350, 3) := by decide +kernel
theorem dL_law_482 : decode cL_law 482 = .ok (.iconst 0, 1) := by decide +kernel
theorem dL_law_483 : decode cL_law 483 = .ok (.ireturn, 1) := by decide +kernel
theorem dL_law_484 : decode cL_law 484 = .ok (.aload_n 1, 1) := by decide +kernel
theorem dL_law_485 : decode cL_law 485 = .ok (.aload_n 0, 1) := by decide +kernel
theorem dL_law_486 : decode cL_law 486 = .ok (.iload_n 3, 1) := by decide +kernel
theorem dL_law_487 : decode cL_law 487 = .ok (.iconst 1, 1) := by decide +kernel
theorem dL_law_488 : decode cL_law 488 = .ok (.iadd, 1) := by decide +kernel
theorem dL_law_489 : decode cL_law 489 = .ok (.iaload, 1) := by decide +kernel
theorem dL_law_490 : decode cL_law 490 = .ok (.invokevirtual 65, 3) := by decide +kernel
theorem dL_law_493 : decode cL_law 493 = .ok (.aload_n 2, 1) := by decide +kernel
theorem dL_law_494 : decode cL_law 494 = .ok (.aload_n 0, 1) := by decide +kernel
theorem dL_law_495 : decode cL_law 495 = .ok (.iload_n 3, 1) := by decide +kernel
theorem dL_law_496 : decode cL_law 496 = .ok (.iconst 1, 1) := by decide +kernel
theorem dL_law_497 : decode cL_law 497 = .ok (.iadd, 1) := by decide +kernel
theorem dL_law_498 : decode cL_law 498 = .ok (.iaload, 1) := by decide +kernel
theorem dL_law_499 : decode cL_law 499 = .ok (.invokevirtual 68, 3) := by decide +kernel
theorem dL_law_502 : decode cL_law 502 = .ok (.if_icmp .eq 327, 3) := by decide +kernel
theorem dL_law_505 : decode cL_law 505 = .ok (.iconst 0, 1) := by decide +kernel
theorem dL_law_506 : decode cL_law 506 = .ok (.ireturn, 1) := by decide +kernel
theorem dL_law_507 : decode cL_law 507 = .ok (.aload_n 1, 1) := by decide +kernel
theorem dL_law_508 : decode cL_law 508 = .ok (.invokevirtual 69, 3) := by decide +kernel
theorem dL_law_511 : decode cL_law 511 = .ok (.aload_n 2, 1) := by decide +kernel
theorem dL_law_512 : decode cL_law 512 = .ok (.invokevirtual 72, 3) := by decide +kernel
theorem dL_law_515 : decode cL_law 515 = .ok (.if_icmp .eq 314, 3) := by decide +kernel
theorem dL_law_518 : decode cL_law 518 = .ok (.iconst 0, 1) := by decide +kernel
theorem dL_law_519 : decode cL_law 519 = .ok (.ireturn, 1) := by decide +kernel
theorem dL_law_520 : decode cL_law 520 = .ok (.aload_n 1, 1) := by decide +kernel
theorem dL_law_521 : decode cL_law 521 = .ok (.aload_n 0, 1) := by decide +kernel
theorem dL_law_522 : decode cL_law 522 = .ok (.iload_n 3, 1) := by decide +kernel
theorem dL_law_523 : decode cL_law 523 = .ok (.iconst 1, 1) := by decide +kernel
theorem dL_law_524 : decode cL_law 524 = .ok (.iadd, 1) := by decide +kernel
theorem dL_law_525 : decode cL_law 525 = .ok (.iaload, 1) := by decide +kernel
theorem dL_law_526 : decode cL_law 526 = .ok (.aload_n 0, 1) := by decide +kernel
theorem dL_law_527 : decode cL_law 527 = .ok (.iload_n 3, 1) := by decide +kernel
theorem dL_law_528 : decode cL_law 528 = .ok (.iconst 2, 1) := by decide +kernel
theorem dL_law_529 : decode cL_law 529 = .ok (.iadd, 1) := by decide +kernel
theorem dL_law_530 : decode cL_law 530 = .ok (.iaload, 1) := by decide +kernel
theorem dL_law_531 : decode cL_law 531 = .ok (.invokevirtual 73, 3) := by decide +kernel
theorem dL_law_534 : decode cL_law 534 = .ok (.aload_n 2, 1) := by decide +kernel
theorem dL_law_535 : decode cL_law 535 = .ok (.aload_n 0, 1) := by decide +kernel
theorem dL_law_536 : decode cL_law 536 = .ok (.iload_n 3, 1) := by decide +kernel
theorem dL_law_537 : decode cL_law 537 = .ok (.iconst 1, 1) := by decide +kernel
theorem dL_law_538 : decode cL_law 538 = .ok (.iadd, 1) := by decide +kernel
theorem dL_law_539 : decode cL_law 539 = .ok (.iaload, 1) := by decide +kernel
theorem dL_law_540 : decode cL_law 540 = .ok (.aload_n 0, 1) := by decide +kernel
theorem dL_law_541 : decode cL_law 541 = .ok (.iload_n 3, 1) := by decide +kernel
theorem dL_law_542 : decode cL_law 542 = .ok (.iconst 2, 1) := by decide +kernel
theorem dL_law_543 : decode cL_law 543 = .ok (.iadd, 1) := by decide +kernel
theorem dL_law_544 : decode cL_law 544 = .ok (.iaload, 1) := by decide +kernel
theorem dL_law_545 : decode cL_law 545 = .ok (.invokevirtual 76, 3) := by decide +kernel
theorem dL_law_548 : decode cL_law 548 = .ok (.if_icmp .eq 281, 3) := by decide +kernel
theorem dL_law_551 : decode cL_law 551 = .ok (.iconst 0, 1) := by decide +kernel
theorem dL_law_552 : decode cL_law 552 = .ok (.ireturn, 1) := by decide +kernel
theorem dL_law_553 : decode cL_law 553 = .ok (.aload_n 1, 1) := by decide +kernel
theorem dL_law_554 : decode cL_law 554 = .ok (.invokevirtual 77, 3) := by decide +kernel
theorem dL_law_557 : decode cL_law 557 = .ok (.aload_n 2, 1) := by decide +kernel
theorem dL_law_558 : decode cL_law 558 = .ok (.invokevirtual 80, 3) := by decide +kernel
theorem dL_law_561 : decode cL_law 561 = .ok (.if_icmp .eq 268, 3) := by decide +kernel
theorem dL_law_564 : decode cL_law 564 = .ok (.iconst 0, 1) := by decide +kernel
theorem dL_law_565 : decode cL_law 565 = .ok (.ireturn, 1) := by decide +kernel
theorem dL_law_566 : decode cL_law 566 = .ok (.aload_n 1, 1) := by decide +kernel
theorem dL_law_567 : decode cL_law 567 = .ok (.invokevirtual 81, 3) := by decide +kernel
theorem dL_law_570 : decode cL_law 570 = .ok (.aload_n 2, 1) := by decide +kernel
theorem dL_law_571 : decode cL_law 571 = .ok (.invokevirtual 84, 3) := by decide +kernel
theorem dL_law_574 : decode cL_law 574 = .ok (.if_icmp .eq 255, 3) := by decide +kernel
theorem dL_law_577 : decode cL_law 577 = .ok (.iconst 0, 1) := by decide +kernel
theorem dL_law_578 : decode cL_law 578 = .ok (.ireturn, 1) := by decide +kernel
theorem dL_law_579 : decode cL_law 579 = .ok (.aload_n 1, 1) := by decide +kernel
theorem dL_law_580 : decode cL_law 580 = .ok (.invokevirtual 85, 3) := by decide +kernel
theorem dL_law_583 : decode cL_law 583 = .ok (.aload_n 2, 1) := by decide +kernel
theorem dL_law_584 : decode cL_law 584 = .ok (.invokevirtual 88, 3) := by decide +kernel
theorem dL_law_587 : decode cL_law 587 = .ok (.if_icmp .eq 242, 3) := by decide +kernel
theorem dL_law_590 : decode cL_law 590 = .ok (.iconst 0, 1) := by decide +kernel
theorem dL_law_591 : decode cL_law 591 = .ok (.ireturn, 1) := by decide +kernel
theorem dL_law_592 : decode cL_law 592 = .ok (.aload_n 1, 1) := by decide +kernel
theorem dL_law_593 : decode cL_law 593 = .ok (.aload_n 0, 1) := by decide +kernel
theorem dL_law_594 : decode cL_law 594 = .ok (.iload_n 3, 1) := by decide +kernel
theorem dL_law_595 : decode cL_law 595 = .ok (.iconst 1, 1) := by decide +kernel
theorem dL_law_596 : decode cL_law 596 = .ok (.iadd, 1) := by decide +kernel
theorem dL_law_597 : decode cL_law 597 = .ok (.iaload, 1) := by decide +kernel
theorem dL_law_598 : decode cL_law 598 = .ok (.invokevirtual 89, 3) := by decide +kernel
theorem dL_law_601 : decode cL_law 601 = .ok (.aload_n 2, 1) := by decide +kernel
theorem dL_law_602 : decode cL_law 602 = .ok (.aload_n 0, 1) := by decide +kernel
theorem dL_law_603 : decode cL_law 603 = .ok (.iload_n 3, 1) := by decide +kernel
theorem dL_law_604 : decode cL_law 604 = .ok (.iconst 1, 1) := by decide +kernel
theorem dL_law_605 : decode cL_law 605 = .ok (.iadd, 1) := by decide +kernel
theorem dL_law_606 : decode cL_law 606 = .ok (.iaload, 1) := by decide +kernel
theorem dL_law_607 : decode cL_law 607 = .ok (.invokevirtual 92, 3) := by decide +kernel
theorem dL_law_610 : decode cL_law 610 = .ok (.if_icmp .eq 219, 3) := by decide +kernel
theorem dL_law_613 : decode cL_law 613 = .ok (.iconst 0, 1) := by decide +kernel
theorem dL_law_614 : decode cL_law 614 = .ok (.ireturn, 1) := by decide +kernel
theorem dL_law_615 : decode cL_law 615 = .ok (.aload_n 1, 1) := by decide +kernel
theorem dL_law_616 : decode cL_law 616 = .ok (.aload_n 0, 1) := by decide +kernel
theorem dL_law_617 : decode cL_law 617 = .ok (.iload_n 3, 1) := by decide +kernel
theorem dL_law_618 : decode cL_law 618 = .ok (.iconst 1, 1) := by decide +kernel
theorem dL_law_619 : decode cL_law 619 = .ok (.iadd, 1) := by decide +kernel
theorem dL_law_620 : decode cL_law 620 = .ok (.iaload, 1) := by decide +kernel
theorem dL_law_621 : decode cL_law 621 = .ok (.invokevirtual 93, 3) := by decide +kernel
theorem dL_law_624 : decode cL_law 624 = .ok (.aload_n 2, 1) := by decide +kernel
theorem dL_law_625 : decode cL_law 625 = .ok (.aload_n 0, 1) := by decide +kernel
theorem dL_law_626 : decode cL_law 626 = .ok (.iload_n 3, 1) := by decide +kernel
theorem dL_law_627 : decode cL_law 627 = .ok (.iconst 1, 1) := by decide +kernel
theorem dL_law_628 : decode cL_law 628 = .ok (.iadd, 1) := by decide +kernel
theorem dL_law_629 : decode cL_law 629 = .ok (.iaload, 1) := by decide +kernel
theorem dL_law_630 : decode cL_law 630 = .ok (.invokevirtual 96, 3) := by decide +kernel
theorem dL_law_633 : decode cL_law 633 = .ok (.if_icmp .eq 196, 3) := by decide +kernel
theorem dL_law_636 : decode cL_law 636 = .ok (.iconst 0, 1) := by decide +kernel
theorem dL_law_637 : decode cL_law 637 = .ok (.ireturn, 1) := by decide +kernel
theorem dL_law_638 : decode cL_law 638 = .ok (.aload_n 1, 1) := by decide +kernel
theorem dL_law_639 : decode cL_law 639 = .ok (.invokevirtual 97, 3) := by decide +kernel
theorem dL_law_642 : decode cL_law 642 = .ok (.aload_n 2, 1) := by decide +kernel
theorem dL_law_643 : decode cL_law 643 = .ok (.invokevirtual 100, 3) := by decide +kernel
theorem dL_law_646 : decode cL_law 646 = .ok (.if_icmp .eq 183, 3) := by decide +kernel
theorem dL_law_649 : decode cL_law 649 = .ok (.iconst 0, 1) := by decide +kernel
theorem dL_law_650 : decode cL_law 650 = .ok (.ireturn, 1) := by decide +kernel
theorem dL_law_651 : decode cL_law 651 = .ok (.aload_n 1, 1) := by decide +kernel
theorem dL_law_652 : decode cL_law 652 = .ok (.aload_n 0, 1) := by decide +kernel
theorem dL_law_653 : decode cL_law 653 = .ok (.iload_n 3, 1) := by decide +kernel
theorem dL_law_654 : decode cL_law 654 = .ok (.iconst 1, 1) := by decide +kernel
theorem dL_law_655 : decode cL_law 655 = .ok (.iadd, 1) := by decide +kernel
theorem dL_law_656 : decode cL_law 656 = .ok (.iaload, 1) := by decide +kernel
theorem dL_law_657 : decode cL_law 657 = .ok (.invokevirtual 101, 3) := by decide +kernel
theorem dL_law_660 : decode cL_law 660 = .ok (.aload_n 2, 1) := by decide +kernel
theorem dL_law_661 : decode cL_law 661 = .ok (.aload_n 0, 1) := by decide +kernel
theorem dL_law_662 : decode cL_law 662 = .ok (.iload_n 3, 1) := by decide +kernel
theorem dL_law_663 : decode cL_law 663 = .ok (.iconst 1, 1) := by decide +kernel
theorem dL_law_664 : decode cL_law 664 = .ok (.iadd, 1) := by decide +kernel
theorem dL_law_665 : decode cL_law 665 = .ok (.iaload, 1) := by decide +kernel
theorem dL_law_666 : decode cL_law 666 = .ok (.invokevirtual 104, 3) := by decide +kernel
theorem dL_law_669 : decode cL_law 669 = .ok (.if_icmp .eq 160, 3) := by decide +kernel
theorem dL_law_672 : decode cL_law 672 = .ok (.iconst 0, 1) := by decide +kernel
theorem dL_law_673 : decode cL_law 673 = .ok (.ireturn, 1) := by decide +kernel
theorem dL_law_674 : decode cL_law 674 = .ok (.aload_n 1, 1) := by decide +kernel
theorem dL_law_675 : decode cL_law 675 = .ok (.aload_n 0, 1) := by decide +kernel
theorem dL_law_676 : decode cL_law 676 = .ok (.iload_n 3, 1) := by decide +kernel
theorem dL_law_677 : decode cL_law 677 = .ok (.iconst 1, 1) := by decide +kernel
theorem dL_law_678 : decode cL_law 678 = .ok (.iadd, 1) := by decide +kernel
theorem dL_law_679 : decode cL_law 679 = .ok (.iaload, 1) := by decide +kernel
theorem dL_law_680 : decode cL_law 680 = .ok (.invokevirtual 105, 3) := by decide +kernel
theorem dL_law_683 : decode cL_law 683 = .ok (.aload_n 2, 1) := by decide +kernel
theorem dL_law_684 : decode cL_law 684 = .ok (.aload_n 0, 1) := by decide +kernel
theorem dL_law_685 : decode cL_law 685 = .ok (.iload_n 3, 1) := by decide +kernel
theorem dL_law_686 : decode cL_law 686 = .ok (.iconst 1, 1) := by decide +kernel
theorem dL_law_687 : decode cL_law 687 = .ok (.iadd, 1) := by decide +kernel
theorem dL_law_688 : decode cL_law 688 = .ok (.iaload, 1) := by decide +kernel
theorem dL_law_689 : decode cL_law 689 = .ok (.invokevirtual 108, 3) := by decide +kernel
theorem dL_law_692 : decode cL_law 692 = .ok (.if_icmp .eq 137, 3) := by decide +kernel
theorem dL_law_695 : decode cL_law 695 = .ok (.iconst 0, 1) := by decide +kernel
theorem dL_law_696 : decode cL_law 696 = .ok (.ireturn, 1) := by decide +kernel
theorem dL_law_697 : decode cL_law 697 = .ok (.aload_n 1, 1) := by decide +kernel
theorem dL_law_698 : decode cL_law 698 = .ok (.invokevirtual 109, 3) := by decide +kernel
theorem dL_law_701 : decode cL_law 701 = .ok (.aload_n 2, 1) := by decide +kernel
theorem dL_law_702 : decode cL_law 702 = .ok (.invokevirtual 112, 3) := by decide +kernel
theorem dL_law_705 : decode cL_law 705 = .ok (.if_icmp .eq 124, 3) := by decide +kernel
theorem dL_law_708 : decode cL_law 708 = .ok (.iconst 0, 1) := by decide +kernel
theorem dL_law_709 : decode cL_law 709 = .ok (.ireturn, 1) := by decide +kernel
theorem dL_law_710 : decode cL_law 710 = .ok (.aload_n 1, 1) := by decide +kernel
theorem dL_law_711 : decode cL_law 711 = .ok (.invokevirtual 113, 3) := by decide +kernel
theorem dL_law_714 : decode cL_law 714 = .ok (.aload_n 2, 1) := by decide +kernel
theorem dL_law_715 : decode cL_law 715 = .ok (.invokevirtual 116, 3) := by decide +kernel
theorem dL_law_718 : decode cL_law 718 = .ok (.if_icmp .eq 111, 3) := by decide +kernel
theorem dL_law_721 : decode cL_law 721 = .ok (.iconst 0, 1) := by decide +kernel
theorem dL_law_722 : decode cL_law 722 = .ok (.ireturn, 1) := by decide +kernel
theorem dL_law_723 : decode cL_law 723 = .ok (.aload_n 1, 1) := by decide +kernel
theorem dL_law_724 : decode cL_law 724 = .ok (.aload_n 0, 1) := by decide +kernel
theorem dL_law_725 : decode cL_law 725 = .ok (.iload_n 3, 1) := by decide +kernel
theorem dL_law_726 : decode cL_law 726 = .ok (.iconst 1, 1) := by decide +kernel
theorem dL_law_727 : decode cL_law 727 = .ok (.iadd, 1) := by decide +kernel
theorem dL_law_728 : decode cL_law 728 = .ok (.iaload, 1) := by decide +kernel
theorem dL_law_729 : decode cL_law 729 = .ok (.invokevirtual 117, 3) := by decide +kernel
theorem dL_law_732 : decode cL_law 732 = .ok (.aload_n 2, 1) := by decide +kernel
theorem dL_law_733 : decode cL_law 733 = .ok (.aload_n 0, 1) := by decide +kernel
theorem dL_law_734 : decode cL_law 734 = .ok (.iload_n 3, 1) := by decide +kernel
theorem dL_law_735 : decode cL_law 735 = .ok (.iconst 1, 1) := by decide +kernel
theorem dL_law_736 : decode cL_law 736 = .ok (.iadd, 1) := by decide +kernel
theorem dL_law_737 : decode cL_law 737 = .ok (.iaload, 1) := by decide +kernel
theorem dL_law_738 : decode cL_law 738 = .ok (.invokevirtual 121, 3) := by decide +kernel
theorem dL_law_741 : decode cL_law 741 = .ok (.lcmp, 1) := by decide +kernel
theorem dL_law_742 : decode cL_law 742 = .ok (.ifCond .eq 87, 3) := by decide +kernel
theorem dL_law_745 : decode cL_law 745 = .ok (.iconst 0, 1) := by decide +kernel
theorem dL_law_746 : decode cL_law 746 = .ok (.ireturn, 1) := by decide +kernel
theorem dL_law_747 : decode cL_law 747 = .ok (.aload_n 1, 1) := by decide +kernel
theorem dL_law_748 : decode cL_law 748 = .ok (.aload_n 0, 1) := by decide +kernel
theorem dL_law_749 : decode cL_law 749 = .ok (.iload_n 3, 1) := by decide +kernel
theorem dL_law_750 : decode cL_law 750 = .ok (.iconst 1, 1) := by decide +kernel
theorem dL_law_751 : decode cL_law 751 = .ok (.iadd, 1) := by decide +kernel
theorem dL_law_752 : decode cL_law 752 = .ok (.iaload, 1) := by decide +kernel
theorem dL_law_753 : decode cL_law 753 = .ok (.aload_n 0, 1) := by decide +kernel
theorem dL_law_754 : decode cL_law 754 = .ok (.iload_n 3, 1) := by decide +kernel
theorem dL_law_755 : decode cL_law 755 = .ok (.iconst 2, 1) := by decide +kernel
theorem dL_law_756 : decode cL_law 756 = .ok (.iadd, 1) := by decide +kernel
theorem dL_law_757 : decode cL_law 757 = .ok (.iaload, 1) := by decide +kernel
theorem dL_law_758 : decode cL_law 758 = .ok (.invokevirtual 122, 3) := by decide +kernel
theorem dL_law_761 : decode cL_law 761 = .ok (.aload_n 2, 1) := by decide +kernel
theorem dL_law_762 : decode cL_law 762 = .ok (.aload_n 0, 1) := by decide +kernel
theorem dL_law_763 : decode cL_law 763 = .ok (.iload_n 3, 1) := by decide +kernel
theorem dL_law_764 : decode cL_law 764 = .ok (.iconst 1, 1) := by decide +kernel
theorem dL_law_765 : decode cL_law 765 = .ok (.iadd, 1) := by decide +kernel
theorem dL_law_766 : decode cL_law 766 = .ok (.iaload, 1) := by decide +kernel
theorem dL_law_767 : decode cL_law 767 = .ok (.aload_n 0, 1) := by decide +kernel
theorem dL_law_768 : decode cL_law 768 = .ok (.iload_n 3, 1) := by decide +kernel
theorem dL_law_769 : decode cL_law 769 = .ok (.iconst 2, 1) := by decide +kernel
theorem dL_law_770 : decode cL_law 770 = .ok (.iadd, 1) := by decide +kernel
theorem dL_law_771 : decode cL_law 771 = .ok (.iaload, 1) := by decide +kernel
theorem dL_law_772 : decode cL_law 772 = .ok (.invokevirtual 125, 3) := by decide +kernel
theorem dL_law_775 : decode cL_law 775 = .ok (.if_icmp .eq 54, 3) := by decide +kernel
theorem dL_law_778 : decode cL_law 778 = .ok (.iconst 0, 1) := by decide +kernel
theorem dL_law_779 : decode cL_law 779 = .ok (.ireturn, 1) := by decide +kernel
theorem dL_law_780 : decode cL_law 780 = .ok (.aload_n 1, 1) := by decide +kernel
theorem dL_law_781 : decode cL_law 781 = .ok (.invokevirtual 126, 3) := by decide +kernel
theorem dL_law_784 : decode cL_law 784 = .ok (.aload_n 2, 1) := by decide +kernel
theorem dL_law_785 : decode cL_law 785 = .ok (.invokevirtual 129, 3) := by decide +kernel
theorem dL_law_788 : decode cL_law 788 = .ok (.if_icmp .eq 41, 3) := by decide +kernel
theorem dL_law_791 : decode cL_law 791 = .ok (.iconst 0, 1) := by decide +kernel
theorem dL_law_792 : decode cL_law 792 = .ok (.ireturn, 1) := by decide +kernel
theorem dL_law_793 : decode cL_law 793 = .ok (.aload_n 1, 1) := by decide +kernel
theorem dL_law_794 : decode cL_law 794 = .ok (.invokevirtual 130, 3) := by decide +kernel
theorem dL_law_797 : decode cL_law 797 = .ok (.aload_n 2, 1) := by decide +kernel
theorem dL_law_798 : decode cL_law 798 = .ok (.invokevirtual 133, 3) := by decide +kernel
theorem dL_law_801 : decode cL_law 801 = .ok (.if_icmp .eq 28, 3) := by decide +kernel
theorem dL_law_804 : decode cL_law 804 = .ok (.iconst 0, 1) := by decide +kernel
theorem dL_law_805 : decode cL_law 805 = .ok (.ireturn, 1) := by decide +kernel
theorem dL_law_806 : decode cL_law 806 = .ok (.aload_n 1, 1) := by decide +kernel
theorem dL_law_807 : decode cL_law 807 = .ok (.aload_n 0, 1) := by decide +kernel
theorem dL_law_808 : decode cL_law 808 = .ok (.iload_n 3, 1) := by decide +kernel
theorem dL_law_809 : decode cL_law 809 = .ok (.iconst 1, 1) := by decide +kernel
theorem dL_law_810 : decode cL_law 810 = .ok (.iadd, 1) := by decide +kernel
theorem dL_law_811 : decode cL_law 811 = .ok (.iaload, 1) := by decide +kernel
theorem dL_law_812 : decode cL_law 812 = .ok (.invokevirtual 134, 3) := by decide +kernel
theorem dL_law_815 : decode cL_law 815 = .ok (.aload_n 2, 1) := by decide +kernel
theorem dL_law_816 : decode cL_law 816 = .ok (.aload_n 0, 1) := by decide +kernel
theorem dL_law_817 : decode cL_law 817 = .ok (.iload_n 3, 1) := by decide +kernel
theorem dL_law_818 : decode cL_law 818 = .ok (.iconst 1, 1) := by decide +kernel
theorem dL_law_819 : decode cL_law 819 = .ok (.iadd, 1) := by decide +kernel
theorem dL_law_820 : decode cL_law 820 = .ok (.iaload, 1) := by decide +kernel
theorem dL_law_821 : decode cL_law 821 = .ok (.invokevirtual 137, 3) := by decide +kernel
theorem dL_law_824 : decode cL_law 824 = .ok (.if_icmp .eq 5, 3) := by decide +kernel
theorem dL_law_827 : decode cL_law 827 = .ok (.iconst 0, 1) := by decide +kernel
theorem dL_law_828 : decode cL_law 828 = .ok (.ireturn, 1) := by decide +kernel
theorem dL_law_829 : decode cL_law 829 = .ok (.iinc 3 4, 3) := by decide +kernel
theorem dL_law_832 : decode cL_law 832 = .ok (.goto (-814), 3) := by decide +kernel
theorem dL_law_835 : decode cL_law 835 = .ok (.iconst 1, 1) := by decide +kernel
theorem dL_law_836 : decode cL_law 836 = .ok (.ireturn, 1) := by decide +kernel

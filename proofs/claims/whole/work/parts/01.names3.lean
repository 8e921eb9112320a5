theorem dX9_lamp_100 : decode cX9_lamp 100 = .ok (.ireturn, 1) := by decide +kernel
theorem dX9_lamp_101 : decode cX9_lamp 101 = .ok (.aload_n 3, 1) := by decide +kernel
theorem dX9_lamp_102 : decode cX9_lamp 102 = .ok (.invokevirtual 118, 3) := by decide +kernel
theorem dX9_lamp_105 : decode cX9_lamp 105 = .ok (.ireturn, 1) := by decide +kernel
theorem dX9_lamp_106 : decode cX9_lamp 106 = .ok (.aload_n 3, 1) := by decide +kernel
theorem dX9_lamp_107 : decode cX9_lamp 107 = .ok (.aload_n 0, 1) := by decide +kernel
theorem dX9_lamp_108 : decode cX9_lamp 108 = .ok (.getfield 10, 3) := by decide +kernel
theorem dX9_lamp_111 : decode cX9_lamp 111 = .ok (.invokevirtual 121, 3) := by decide +kernel
theorem dX9_lamp_114 : decode cX9_lamp 114 = .ok (.invokevirtual 124, 3) := by decide +kernel
theorem dX9_lamp_117 : decode cX9_lamp 117 = .ok (.ireturn, 1) := by decide +kernel
theorem dX9_lamp_118 : decode cX9_lamp 118 = .ok (.aload_n 3, 1) := by decide +kernel
theorem dX9_lamp_119 : decode cX9_lamp 119 = .ok (.invokevirtual 127, 3) := by decide +kernel
theorem dX9_lamp_122 : decode cX9_lamp 122 = .ok (.ireturn, 1) := by decide +kernel
theorem dX9_lamp_123 : decode cX9_lamp 123 = .ok (.aload_n 0, 1) := by decide +kernel
theorem dX9_lamp_124 : decode cX9_lamp 124 = .ok (.bipush (-2), 2) := by decide +kernel
theorem dX9_lamp_126 : decode cX9_lamp 126 = .ok (.invokevirtual 65, 3) := by decide +kernel
theorem dX9_lamp_129 : decode cX9_lamp 129 = .ok (.ireturn, 1) := by decide +kernel
theorem dX9_set_0 : decode cX9_set 0 = .ok (.iload_n 1, 1) := by decide +kernel
theorem dX9_set_1 : decode cX9_set 1 = .ok (.ifCond .lt 8, 3) := by decide +kernel
theorem dX9_set_4 : decode cX9_set 4 = .ok (.iload_n 1, 1) := by decide +kernel
theorem dX9_set_5 : decode cX9_set 5 = .ok (.iconst 3, 1) := by decide +kernel
theorem dX9_set_6 : decode cX9_set 6 = .ok (.if_icmp .le 10, 3) := by decide +kernel
theorem dX9_set_9 : decode cX9_set 9 = .ok (.aload_n 0, 1) := by decide +kernel
theorem dX9_set_10 : decode cX9_set 10 = .ok (.bipush (-2), 2) := by decide +kernel
theorem dX9_set_12 : decode cX9_set 12 = .ok (.invokevirtual 65, 3) := by decide +kernel
theorem dX9_set_15 : decode cX9_set 15 = .ok (.ireturn, 1) := by decide +kernel
theorem dX9_set_16 : decode cX9_set 16 = .ok (.iload_n 2, 1) := by decide +kernel
theorem dX9_set_17 : decode cX9_set 17 = .ok (.getstatic 130, 3) := by decide +kernel
theorem dX9_set_20 : decode cX9_set 20 = .ok (.iload_n 1, 1) := by decide +kernel
theorem dX9_set_21 : decode cX9_set 21 = .ok (.iaload, 1) := by decide +kernel
theorem dX9_set_22 : decode cX9_set 22 = .ok (.if_icmp .ge 10, 3) := by decide +kernel
theorem dX9_set_25 : decode cX9_set 25 = .ok (.aload_n 0, 1) := by decide +kernel
theorem dX9_set_26 : decode cX9_set 26 = .ok (.bipush (-4), 2) := by decide +kernel
theorem dX9_set_28 : decode cX9_set 28 = .ok (.invokevirtual 65, 3) := by decide +kernel
theorem dX9_set_31 : decode cX9_set 31 = .ok (.ireturn, 1) := by decide +kernel
theorem dX9_set_32 : decode cX9_set 32 = .ok (.iload_n 2, 1) := by decide +kernel
theorem dX9_set_33 : decode cX9_set 33 = .ok (.getstatic 133, 3) := by decide +kernel
theorem dX9_set_36 : decode cX9_set 36 = .ok (.iload_n 1, 1) := by decide +kernel
theorem dX9_set_37 : decode cX9_set 37 = .ok (.iaload, 1) := by decide +kernel
theorem dX9_set_38 : decode cX9_set 38 = .ok (.if_icmp .le 10, 3) := by decide +kernel
theorem dX9_set_41 : decode cX9_set 41 = .ok (.aload_n 0, 1) := by decide +kernel
theorem dX9_set_42 : decode cX9_set 42 = .ok (.bipush (-6), 2) := by decide +kernel
theorem dX9_set_44 : decode cX9_set 44 = .ok (.invokevirtual 65, 3) := by decide +kernel
theorem dX9_set_47 : decode cX9_set 47 = .ok (.ireturn, 1) := by decide +kernel
theorem dX9_set_48 : decode cX9_set 48 = .ok (.aload_n 0, 1) := by decide +kernel
theorem dX9_set_49 : decode cX9_set 49 = .ok (.getfield 10, 3) := by decide +kernel
theorem dX9_set_52 : decode cX9_set 52 = .ok (.getfield 136, 3) := by decide +kernel
theorem dX9_set_55 : decode cX9_set 55 = .ok (.iload_n 1, 1) := by decide +kernel
theorem dX9_set_56 : decode cX9_set 56 = .ok (.iaload, 1) := by decide +kernel
theorem dX9_set_57 : decode cX9_set 57 = .ok (.istore_n 3, 1) := by decide +kernel
theorem dX9_set_58 : decode cX9_set 58 = .ok (.aload_n 0, 1) := by decide +kernel
theorem dX9_set_59 : decode cX9_set 59 = .ok (.getfield 10, 3) := by decide +kernel
theorem dX9_set_62 : decode cX9_set 62 = .ok (.getfield 136, 3) := by decide +kernel
theorem dX9_set_65 : decode cX9_set 65 = .ok (.iload_n 1, 1) := by decide +kernel
theorem dX9_set_66 : decode cX9_set 66 = .ok (.iload_n 2, 1) := by decide +kernel
theorem dX9_set_67 : decode cX9_set 67 = .ok (.iastore, 1) := by decide +kernel
theorem dX9_set_68 : decode cX9_set 68 = .ok (.iload_n 3, 1) := by decide +kernel
theorem dX9_set_69 : decode cX9_set 69 = .ok (.ireturn, 1) := by decide +kernel
theorem dX9_flow_0 : decode cX9_flow 0 = .ok (.aload_n 0, 1) := by decide +kernel
theorem dX9_flow_1 : decode cX9_flow 1 = .ok (.getfield 10, 3) := by decide +kernel
theorem dX9_flow_4 : decode cX9_flow 4 = .ok (.invokevirtual 121, 3) := by decide +kernel
theorem dX9_flow_7 : decode cX9_flow 7 = .ok (.ireturn, 1) := by decide +kernel
theorem dX9_hour_0 : decode cX9_hour 0 = .ok (.aload_n 0, 1) := by decide +kernel
theorem dX9_hour_1 : decode cX9_hour 1 = .ok (.getfield 10, 3) := by decide +kernel
theorem dX9_hour_4 : decode cX9_hour 4 = .ok (.getfield 139, 3) := by decide +kernel
theorem dX9_hour_7 : decode cX9_hour 7 = .ok (.sipush 9999, 3) := by decide +kernel
theorem dX9_hour_10 : decode cX9_hour 10 = .ok (.if_icmp .lt 10, 3) := by decide +kernel
theorem dX9_hour_13 : decode cX9_hour 13 = .ok (.aload_n 0, 1) := by decide +kernel
theorem dX9_hour_14 : decode cX9_hour 14 = .ok (.bipush (-6), 2) := by decide +kernel
theorem dX9_hour_16 : decode cX9_hour 16 = .ok (.invokevirtual 65, 3) := by decide +kernel
theorem dX9_hour_19 : decode cX9_hour 19 = .ok (.ireturn, 1) := by decide +kernel
theorem dX9_hour_20 : decode cX9_hour 20 = .ok (.aload_n 0, 1) := by decide +kernel
theorem dX9_hour_21 : decode cX9_hour 21 = .ok (.getfield 10, 3) := by decide +kernel
theorem dX9_hour_24 : decode cX9_hour 24 = .ok (.invokevirtual 142, 3) := by decide +kernel
theorem dX9_hour_27 : decode cX9_hour 27 = .ok (.ireturn, 1) := by decide +kernel
theorem dX9_swap_0 : decode cX9_swap 0 = .ok (.aload_n 0, 1) := by decide +kernel
theorem dX9_swap_1 : decode cX9_swap 1 = .ok (.getfield 10, 3) := by decide +kernel
theorem dX9_swap_4 : decode cX9_swap 4 = .ok (.iload_n 1, 1) := by decide +kernel
theorem dX9_swap_5 : decode cX9_swap 5 = .ok (.invokevirtual 93, 3) := by decide +kernel
theorem dX9_swap_8 : decode cX9_swap 8 = .ok (.ifCond .ne 9, 3) := by decide +kernel
theorem dX9_swap_11 : decode cX9_swap 11 = .ok (.aload_n 0, 1) := by decide +kernel
theorem dX9_swap_12 : decode cX9_swap 12 = .ok (.iconst (-1), 1) := by decide +kernel
theorem dX9_swap_13 : decode cX9_swap 13 = .ok (.invokevirtual 65, 3) := by decide +kernel
theorem dX9_swap_16 : decode cX9_swap 16 = .ok (.ireturn, 1) := by decide +kernel
theorem dX9_swap_17 : decode cX9_swap 17 = .ok (.aload_n 0, 1) := by decide +kernel
theorem dX9_swap_18 : decode cX9_swap 18 = .ok (.getfield 10, 3) := by decide +kernel
theorem dX9_swap_21 : decode cX9_swap 21 = .ok (.getfield 136, 3) := by decide +kernel
theorem dX9_swap_24 : decode cX9_swap 24 = .ok (.iconst 1, 1) := by decide +kernel
theorem dX9_swap_25 : decode cX9_swap 25 = .ok (.iaload, 1) := by decide +kernel
theorem dX9_swap_26 : decode cX9_swap 26 = .ok (.ifCond .gt 10, 3) := by decide +kernel
theorem dX9_swap_29 : decode cX9_swap 29 = .ok (.aload_n 0, 1) := by decide +kernel
theorem dX9_swap_30 : decode cX9_swap 30 = .ok (.bipush (-3), 2) := by decide +kernel
theorem dX9_swap_32 : decode cX9_swap 32 = .ok (.invokevirtual 65, 3) := by decide +kernel
theorem dX9_swap_35 : decode cX9_swap 35 = .ok (.ireturn, 1) := by decide +kernel
theorem dX9_swap_36 : decode cX9_swap 36 = .ok (.aload_n 0, 1) := by decide +kernel
theorem dX9_swap_37 : decode cX9_swap 37 = .ok (.getfield 10, 3) := by decide +kernel
theorem dX9_swap_40 : decode cX9_swap 40 = .ok (.getfield 136, 3) := by decide +kernel
theorem dX9_swap_43 : decode cX9_swap 43 = .ok (.iconst 1, 1) := by decide +kernel
theorem dX9_swap_44 : decode cX9_swap 44 = .ok (.dup2, 1) := by decide +kernel
theorem dX9_swap_45 : decode cX9_swap 45 = .ok (.iaload, 1) := by decide +kernel
theorem dX9_swap_46 : decode cX9_swap 46 = .ok (.iconst 1, 1) := by decide +kernel
theorem dX9_swap_47 : decode cX9_swap 47 = .ok (.isub, 1) := by decide +kernel
theorem dX9_swap_48 : decode cX9_swap 48 = .ok (.iastore, 1) := by decide +kernel
theorem dX9_swap_49 : decode cX9_swap 49 = .ok (.aload_n 0, 1) := by decide +kernel
theorem dX9_swap_50 : decode cX9_swap 50 = .ok (.getfield 10, 3) := by decide +kernel
theorem dX9_swap_53 : decode cX9_swap 53 = .ok (.getfield 97, 3) := by decide +kernel
theorem dX9_swap_56 : decode cX9_swap 56 = .ok (.iload_n 1, 1) := by decide +kernel
theorem dX9_swap_57 : decode cX9_swap 57 = .ok (.aaload, 1) := by decide +kernel
theorem dX9_swap_58 : decode cX9_swap 58 = .ok (.invokevirtual 145, 3) := by decide +kernel
theorem dX9_swap_61 : decode cX9_swap 61 = .ok (.aload_n 0, 1) := by decide +kernel
theorem dX9_swap_62 : decode cX9_swap 62 = .ok (.getfield 10, 3) := by decide +kernel
theorem dX9_swap_65 : decode cX9_swap 65 = .ok (.invokevirtual 148, 3) := by decide +kernel
theorem dX9_swap_68 : decode cX9_swap 68 = .ok (.invokestatic 152, 3) := by decide +kernel
theorem dX9_swap_71 : decode cX9_swap 71 = .ok (.ireturn, 1) := by decide +kernel
theorem dX9_meter_0 : decode cX9_meter 0 = .ok (.aload_n 0, 1) := by decide +kernel
theorem dX9_meter_1 : decode cX9_meter 1 = .ok (.getfield 10, 3) := by decide +kernel
theorem dX9_meter_4 : decode cX9_meter 4 = .ok (.iload_n 1, 1) := by decide +kernel
theorem dX9_meter_5 : decode cX9_meter 5 = .ok (.iload_n 2, 1) := by decide +kernel
theorem dX9_meter_6 : decode cX9_meter 6 = .ok (.invokevirtual 156, 3) := by decide +kernel
theorem dX9_meter_9 : decode cX9_meter 9 = .ok (.ifCond .ne 9, 3) := by decide +kernel
theorem dX9_meter_12 : decode cX9_meter 12 = .ok (.aload_n 0, 1) := by decide +kernel
theorem dX9_meter_13 : decode cX9_meter 13 = .ok (.iconst (-1), 1) := by decide +kernel
theorem dX9_meter_14 : decode cX9_meter 14 = .ok (.invokevirtual 65, 3) := by decide +kernel
theorem dX9_meter_17 : decode cX9_meter 17 = .ok (.ireturn, 1) := by decide +kernel
theorem dX9_meter_18 : decode cX9_meter 18 = .ok (.aload_n 0, 1) := by decide +kernel
theorem dX9_meter_19 : decode cX9_meter 19 = .ok (.getfield 10, 3) := by decide +kernel
theorem dX9_meter_22 : decode cX9_meter 22 = .ok (.iload_n 1, 1) := by decide +kernel
theorem dX9_meter_23 : decode cX9_meter 23 = .ok (.iload_n 2, 1) := by decide +kernel
theorem dX9_meter_24 : decode cX9_meter 24 = .ok (.invokevirtual 160, 3) := by decide +kernel
theorem dX9_meter_27 : decode cX9_meter 27 = .ok (.invokestatic 152, 3) := by decide +kernel
theorem dX9_meter_30 : decode cX9_meter 30 = .ok (.ireturn, 1) := by decide +kernel
theorem dX9_finder_0 : decode cX9_finder 0 = .ok (.aload_n 0, 1) := by decide +kernel
theorem dX9_finder_1 : decode cX9_finder 1 = .ok (.getfield 10, 3) := by decide +kernel
theorem dX9_finder_4 : decode cX9_finder 4 = .ok (.iload_n 1, 1) := by decide +kernel
theorem dX9_finder_5 : decode cX9_finder 5 = .ok (.invokevirtual 93, 3) := by decide +kernel
theorem dX9_finder_8 : decode cX9_finder 8 = .ok (.ifCond .ne 9, 3) := by decide +kernel
theorem dX9_finder_11 : decode cX9_finder 11 = .ok (.aload_n 0, 1) := by decide +kernel
theorem dX9_finder_12 : decode cX9_finder 12 = .ok (.iconst (-1), 1) := by decide +kernel
theorem dX9_finder_13 : decode cX9_finder 13 = .ok (.invokevirtual 65, 3) := by decide +kernel
theorem dX9_finder_16 : decode cX9_finder 16 = .ok (.ireturn, 1) := by decide +kernel
theorem dX9_finder_17 : decode cX9_finder 17 = .ok (.aload_n 0, 1) := by decide +kernel
theorem dX9_finder_18 : decode cX9_finder 18 = .ok (.getfield 10, 3) := by decide +kernel
theorem dX9_finder_21 : decode cX9_finder 21 = .ok (.iconst 0, 1) := by decide +kernel
theorem dX9_finder_22 : decode cX9_finder 22 = .ok (.iload_n 1, 1) := by decide +kernel
theorem dX9_finder_23 : decode cX9_finder 23 = .ok (.iconst 1, 1) := by decide +kernel
theorem dX9_finder_24 : decode cX9_finder 24 = .ok (.isub, 1) := by decide +kernel
theorem dX9_finder_25 : decode cX9_finder 25 = .ok (.invokevirtual 160, 3) := by decide +kernel
theorem dX9_finder_28 : decode cX9_finder 28 = .ok (.invokestatic 152, 3) := by decide +kernel
theorem dX9_finder_31 : decode cX9_finder 31 = .ok (.ireturn, 1) := by decide +kernel
theorem dX9_touch_0 : decode cX9_touch 0 = .ok (.aload_n 0, 1) := by decide +kernel
theorem dX9_touch_1 : decode cX9_touch 1 = .ok (.getfield 10, 3) := by decide +kernel
theorem dX9_touch_4 : decode cX9_touch 4 = .ok (.iload_n 1, 1) := by decide +kernel
theorem dX9_touch_5 : decode cX9_touch 5 = .ok (.invokevirtual 93, 3) := by decide +kernel
theorem dX9_touch_8 : decode cX9_touch 8 = .ok (.ifCond .ne 9, 3) := by decide +kernel
theorem dX9_touch_11 : decode cX9_touch 11 = .ok (.aload_n 0, 1) := by decide +kernel
theorem dX9_touch_12 : decode cX9_touch 12 = .ok (.iconst (-1), 1) := by decide +kernel
theorem dX9_touch_13 : decode cX9_touch 13 = .ok (.invokevirtual 65, 3) := by decide +kernel
theorem dX9_touch_16 : decode cX9_touch 16 = .ok (.ireturn, 1) := by decide +kernel
theorem dX9_touch_17 : decode cX9_touch 17 = .ok (.aload_n 0, 1) := by decide +kernel
theorem dX9_touch_18 : decode cX9_touch 18 = .ok (.getfield 10, 3) := by decide +kernel
theorem dX9_touch_21 : decode cX9_touch 21 = .ok (.iload_n 1, 1) := by decide +kernel
theorem dX9_touch_22 : decode cX9_touch 22 = .ok (.invokevirtual 163, 3) := by decide +kernel
theorem dX9_touch_25 : decode cX9_touch 25 = .ok (.aload_n 0, 1) := by decide +kernel
theorem dX9_touch_26 : decode cX9_touch 26 = .ok (.getfield 10, 3) := by decide +kernel
theorem dX9_touch_29 : decode cX9_touch 29 = .ok (.getfield 97, 3) := by decide +kernel
theorem dX9_touch_32 : decode cX9_touch 32 = .ok (.iload_n 1, 1) := by decide +kernel
theorem dX9_touch_33 : decode cX9_touch 33 = .ok (.aaload, 1) := by decide +kernel
theorem dX9_touch_34 : decode cX9_touch 34 = .ok (.getfield 115, 3) := by decide +kernel
theorem dX9_touch_37 : decode cX9_touch 37 = .ok (.ireturn, 1) := by decide +kernel
theorem dX9_find_0 : decode cX9_find 0 = .ok (.aload_n 0, 1) := by decide +kernel
theorem dX9_find_1 : decode cX9_find 1 = .ok (.getfield 10, 3) := by decide +kernel
theorem dX9_find_4 : decode cX9_find 4 = .ok (.iload_n 1, 1) := by decide +kernel
theorem dX9_find_5 : decode cX9_find 5 = .ok (.iload_n 2, 1) := by decide +kernel
theorem dX9_find_6 : decode cX9_find 6 = .ok (.invokevirtual 156, 3) := by decide +kernel
theorem dX9_find_9 : decode cX9_find 9 = .ok (.ifCond .ne 9, 3) := by decide +kernel
theorem dX9_find_12 : decode cX9_find 12 = .ok (.aload_n 0, 1) := by decide +kernel
theorem dX9_find_13 : decode cX9_find 13 = .ok (.iconst (-1), 1) := by decide +kernel
theorem dX9_find_14 : decode cX9_find 14 = .ok (.invokevirtual 65, 3) := by decide +kernel
theorem dX9_find_17 : decode cX9_find 17 = .ok (.ireturn, 1) := by decide +kernel
theorem dX9_find_18 : decode cX9_find 18 = .ok (.iload_n 3, 1) := by decide +kernel
theorem dX9_find_19 : decode cX9_find 19 = .ok (.ifCond .eq 15, 3) := by decide +kernel
theorem dX9_find_22 : decode cX9_find 22 = .ok (.iload_n 3, 1) := by decide +kernel
theorem dX9_find_23 : decode cX9_find 23 = .ok (.iconst 1, 1) := by decide +kernel
theorem dX9_find_24 : decode cX9_find 24 = .ok (.if_icmp .eq 10, 3) := by decide +kernel
theorem dX9_find_27 : decode cX9_find 27 = .ok (.aload_n 0, 1) := by decide +kernel
theorem dX9_find_28 : decode cX9_find 28 = .ok (.bipush (-2), 2) := by decide +kernel
theorem dX9_find_30 : decode cX9_find 30 = .ok (.invokevirtual 65, 3) := by decide +kernel
theorem dX9_find_33 : decode cX9_find 33 = .ok (.ireturn, 1) := by decide +kernel
theorem dX9_find_34 : decode cX9_find 34 = .ok (.aload_n 0, 1) := by decide +kernel
theorem dX9_find_35 : decode cX9_find 35 = .ok (.getfield 50, 3) := by decide +kernel
theorem dX9_find_38 : decode cX9_find 38 = .ok (.aload_n 0, 1) := by decide +kernel
theorem dX9_find_39 : decode cX9_find 39 = .ok (.getfield 10, 3) := by decide +kernel
theorem dX9_find_42 : decode cX9_find 42 = .ok (.iload_n 1, 1) := by decide +kernel
theorem dX9_find_43 : decode cX9_find 43 = .ok (.iload_n 2, 1) := by decide +kernel
theorem dX9_find_44 : decode cX9_find 44 = .ok (.iload_n 3, 1) := by decide +kernel
theorem dX9_find_45 : decode cX9_find 45 = .ok (.invokevirtual 166, 3) := by decide +kernel
theorem dX9_find_48 : decode cX9_find 48 = .ok (.ireturn, 1) := by decide +kernel
theorem dX9_look_0 : decode cX9_look 0 = .ok (.aload_n 0, 1) := by decide +kernel
theorem dX9_look_1 : decode cX9_look 1 = .ok (.getfield 10, 3) := by decide +kernel
theorem dX9_look_4 : decode cX9_look 4 = .ok (.iload_n 1, 1) := by decide +kernel
theorem dX9_look_5 : decode cX9_look 5 = .ok (.iload_n 2, 1) := by decide +kernel
theorem dX9_look_6 : decode cX9_look 6 = .ok (.invokevirtual 156, 3) := by decide +kernel
theorem dX9_look_9 : decode cX9_look 9 = .ok (.ifCond .ne 9, 3) := by decide +kernel
theorem dX9_look_12 : decode cX9_look 12 = .ok (.aload_n 0, 1) := by decide +kernel
theorem dX9_look_13 : decode cX9_look 13 = .ok (.iconst (-1), 1) := by decide +kernel
theorem dX9_look_14 : decode cX9_look 14 = .ok (.invokevirtual 65, 3) := by decide +kernel
theorem dX9_look_17 : decode cX9_look 17 = .ok (.ireturn, 1) := by decide +kernel
theorem dX9_look_18 : decode cX9_look 18 = .ok (.iload_n 3, 1) := by decide +kernel
theorem dX9_look_19 : decode cX9_look 19 = .ok (.ifCond .eq 15, 3) := by decide +kernel
theorem dX9_look_22 : decode cX9_look 22 = .ok (.iload_n 3, 1) := by decide +kernel
theorem dX9_look_23 : decode cX9_look 23 = .ok (.iconst 1, 1) := by decide +kernel
theorem dX9_look_24 : decode cX9_look 24 = .ok (.if_icmp .eq 10, 3) := by decide +kernel
theorem dX9_look_27 : decode cX9_look 27 = .ok (.aload_n 0, 1) := by decide +kernel
theorem dX9_look_28 : decode cX9_look 28 = .ok (.bipush (-2), 2) := by decide +kernel
theorem dX9_look_30 : decode cX9_look 30 = .ok (.invokevirtual 65, 3) := by decide +kernel
theorem dX9_look_33 : decode cX9_look 33 = .ok (.ireturn, 1) := by decide +kernel
theorem dX9_look_34 : decode cX9_look 34 = .ok (.aload_n 0, 1) := by decide +kernel
theorem dX9_look_35 : decode cX9_look 35 = .ok (.getfield 50, 3) := by decide +kernel
theorem dX9_look_38 : decode cX9_look 38 = .ok (.aload_n 0, 1) := by decide +kernel
theorem dX9_look_39 : decode cX9_look 39 = .ok (.getfield 10, 3) := by decide +kernel
theorem dX9_look_42 : decode cX9_look 42 = .ok (.iload_n 1, 1) := by decide +kernel
theorem dX9_look_43 : decode cX9_look 43 = .ok (.iload_n 2, 1) := by decide +kernel
theorem dX9_look_44 : decode cX9_look 44 = .ok (.iload_n 3, 1) := by decide +kernel
theorem dX9_look_45 : decode cX9_look 45 = .ok (.invokevirtual 170, 3) := by decide +kernel
theorem dX9_look_48 : decode cX9_look 48 = .ok (.ireturn, 1) := by decide +kernel
theorem dX9_order_0 : decode cX9_order 0 = .ok (.iload_n 1, 1) := by decide +kernel
theorem dX9_order_1 : decode cX9_order 1 = .ok (.ifCond .ge 10, 3) := by decide +kernel
theorem dX9_order_4 : decode cX9_order 4 = .ok (.aload_n 0, 1) := by decide +kernel
theorem dX9_order_5 : decode cX9_order 5 = .ok (.bipush (-4), 2) := by decide +kernel
theorem dX9_order_7 : decode cX9_order 7 = .ok (.invokevirtual 65, 3) := by decide +kernel
theorem dX9_order_10 : decode cX9_order 10 = .ok (.ireturn, 1) := by decide +kernel
theorem dX9_order_11 : decode cX9_order 11 = .ok (.aload_n 0, 1) := by decide +kernel
theorem dX9_order_12 : decode cX9_order 12 = .ok (.getfield 10, 3) := by decide +kernel
theorem dX9_order_15 : decode cX9_order 15 = .ok (.iload_n 1, 1) := by decide +kernel
theorem dX9_order_16 : decode cX9_order 16 = .ok (.invokevirtual 93, 3) := by decide +kernel
theorem dX9_order_19 : decode cX9_order 19 = .ok (.ifCond .ne 6, 3) := by decide +kernel
theorem dX9_order_22 : decode cX9_order 22 = .ok (.bipush (-9), 2) := by decide +kernel
theorem dX9_order_24 : decode cX9_order 24 = .ok (.ireturn, 1) := by decide +kernel
theorem dX9_order_25 : decode cX9_order 25 = .ok (.aload_n 0, 1) := by decide +kernel
theorem dX9_order_26 : decode cX9_order 26 = .ok (.getfield 57, 3) := by decide +kernel
theorem dX9_order_29 : decode cX9_order 29 = .ok (.aload_n 0, 1) := by decide +kernel
theorem dX9_order_30 : decode cX9_order 30 = .ok (.getfield 10, 3) := by decide +kernel
theorem dX9_order_33 : decode cX9_order 33 = .ok (.invokevirtual 173, 3) := by decide +kernel
theorem dX9_order_36 : decode cX9_order 36 = .ok (.aload_n 0, 1) := by decide +kernel
theorem dX9_order_37 : decode cX9_order 37 = .ok (.getfield 57, 3) := by decide +kernel
theorem dX9_order_40 : decode cX9_order 40 = .ok (.getfield 176, 3) := by decide +kernel
theorem dX9_order_43 : decode cX9_order 43 = .ok (.iload_n 1, 1) := by decide +kernel
theorem dX9_order_44 : decode cX9_order 44 = .ok (.iaload, 1) := by decide +kernel
theorem dX9_order_45 : decode cX9_order 45 = .ok (.ireturn, 1) := by decide +kernel
theorem dX9_orderSum_0 : decode cX9_orderSum 0 = .ok (.aload_n 0, 1) := by decide +kernel
theorem dX9_orderSum_1 : decode cX9_orderSum 1 = .ok (.getfield 10, 3) := by decide +kernel
theorem dX9_orderSum_4 : decode cX9_orderSum 4 = .ok (.getfield 179, 3) := by decide +kernel
theorem dX9_orderSum_7 : decode cX9_orderSum 7 = .ok (.ifCond .ne 10, 3) := by decide +kernel
theorem dX9_orderSum_10 : decode cX9_orderSum 10 = .ok (.aload_n 0, 1) := by decide +kernel
theorem dX9_orderSum_11 : decode cX9_orderSum 11 = .ok (.bipush (-3), 2) := by decide +kernel
theorem dX9_orderSum_13 : decode cX9_orderSum 13 = .ok (.invokevirtual 65, 3) := by decide +kernel
theorem dX9_orderSum_16 : decode cX9_orderSum 16 = .ok (.ireturn, 1) := by decide +kernel
theorem dX9_orderSum_17 : decode cX9_orderSum 17 = .ok (.aload_n 0, 1) := by decide +kernel
theorem dX9_orderSum_18 : decode cX9_orderSum 18 = .ok (.getfield 57, 3) := by decide +kernel
theorem dX9_orderSum_21 : decode cX9_orderSum 21 = .ok (.aload_n 0, 1) := by decide +kernel
theorem dX9_orderSum_22 : decode cX9_orderSum 22 = .ok (.getfield 10, 3) := by decide +kernel
theorem dX9_orderSum_25 : decode cX9_orderSum 25 = .ok (.invokevirtual 173, 3) := by decide +kernel
theorem dX9_orderSum_28 : decode cX9_orderSum 28 = .ok (.aload_n 0, 1) := by decide +kernel
theorem dX9_orderSum_29 : decode cX9_orderSum 29 = .ok (.getfield 57, 3) := by decide +kernel
theorem dX9_orderSum_32 : decode cX9_orderSum 32 = .ok (.aload_n 0, 1) := by decide +kernel
theorem dX9_orderSum_33 : decode cX9_orderSum 33 = .ok (.getfield 10, 3) := by decide +kernel
theorem dX9_orderSum_36 : decode cX9_orderSum 36 = .ok (.invokevirtual 180, 3) := by decide +kernel
theorem dX9_orderSum_39 : decode cX9_orderSum 39 = .ok (.ireturn, 1) := by decide +kernel
theorem dX9_told_0 : decode cX9_told 0 = .ok (.aload_n 0, 1) := by decide +kernel
theorem dX9_told_1 : decode cX9_told 1 = .ok (.getfield 10, 3) := by decide +kernel
theorem dX9_told_4 : decode cX9_told 4 = .ok (.iload_n 1, 1) := by decide +kernel
theorem dX9_told_5 : decode cX9_told 5 = .ok (.invokevirtual 93, 3) := by decide +kernel
theorem dX9_told_8 : decode cX9_told 8 = .ok (.ifCond .ne 9, 3) := by decide +kernel
theorem dX9_told_11 : decode cX9_told 11 = .ok (.aload_n 0, 1) := by decide +kernel
theorem dX9_told_12 : decode cX9_told 12 = .ok (.iconst (-1), 1) := by decide +kernel
theorem dX9_told_13 : decode cX9_told 13 = .ok (.invokevirtual 65, 3) := by decide +kernel
theorem dX9_told_16 : decode cX9_told 16 = .ok (.ireturn, 1) := by decide +kernel
theorem dX9_told_17 : decode cX9_told 17 = .ok (.iload_n 2, 1) := by decide +kernel
theorem dX9_told_18 : decode cX9_told 18 = .ok (.ifCond .eq 15, 3) := by decide +kernel
theorem dX9_told_21 : decode cX9_told 21 = .ok (.iload_n 2, 1) := by decide +kernel
theorem dX9_told_22 : decode cX9_told 22 = .ok (.iconst 1, 1) := by decide +kernel
theorem dX9_told_23 : decode cX9_told 23 = .ok (.if_icmp .eq 10, 3) := by decide +kernel
theorem dX9_told_26 : decode cX9_told 26 = .ok (.aload_n 0, 1) := by decide +kernel
theorem dX9_told_27 : decode cX9_told 27 = .ok (.bipush (-2), 2) := by decide +kernel
theorem dX9_told_29 : decode cX9_told 29 = .ok (.invokevirtual 65, 3) := by decide +kernel
theorem dX9_told_32 : decode cX9_told 32 = .ok (.ireturn, 1) := by decide +kernel
theorem dX9_told_33 : decode cX9_told 33 = .ok (.aload_n 0, 1) := by decide +kernel
theorem dX9_told_34 : decode cX9_told 34 = .ok (.getfield 43, 3) := by decide +kernel
theorem dX9_told_37 : decode cX9_told 37 = .ok (.getfield 183, 3) := by decide +kernel
theorem dX9_told_40 : decode cX9_told 40 = .ok (.bipush 6, 2) := by decide +kernel
theorem dX9_told_42 : decode cX9_told 42 = .ok (.if_icmp .lt 10, 3) := by decide +kernel
theorem dX9_told_45 : decode cX9_told 45 = .ok (.aload_n 0, 1) := by decide +kernel
theorem dX9_told_46 : decode cX9_told 46 = .ok (.bipush (-6), 2) := by decide +kernel
theorem dX9_told_48 : decode cX9_told 48 = .ok (.invokevirtual 65, 3) := by decide +kernel
theorem dX9_told_51 : decode cX9_told 51 = .ok (.ireturn, 1) := by decide +kernel
theorem dX9_told_52 : decode cX9_told 52 = .ok (.aload_n 0, 1) := by decide +kernel
theorem dX9_told_53 : decode cX9_told 53 = .ok (.getfield 43, 3) := by decide +kernel
theorem dX9_told_56 : decode cX9_told 56 = .ok (.iload_n 1, 1) := by decide +kernel
theorem dX9_told_57 : decode cX9_told 57 = .ok (.iload_n 2, 1) := by decide +kernel
theorem dX9_told_58 : decode cX9_told 58 = .ok (.invokevirtual 184, 3) := by decide +kernel
theorem dX9_told_61 : decode cX9_told 61 = .ok (.aload_n 0, 1) := by decide +kernel
theorem dX9_told_62 : decode cX9_told 62 = .ok (.getfield 43, 3) := by decide +kernel
theorem dX9_told_65 : decode cX9_told 65 = .ok (.getfield 183, 3) := by decide +kernel
theorem dX9_told_68 : decode cX9_told 68 = .ok (.ireturn, 1) := by decide +kernel
theorem dX9_openTo_0 : decode cX9_openTo 0 = .ok (.aload_n 0, 1) := by decide +kernel
theorem dX9_openTo_1 : decode cX9_openTo 1 = .ok (.getfield 43, 3) := by decide +kernel
theorem dX9_openTo_4 : decode cX9_openTo 4 = .ok (.aload_n 0, 1) := by decide +kernel
theorem dX9_openTo_5 : decode cX9_openTo 5 = .ok (.getfield 43, 3) := by decide +kernel
theorem dX9_openTo_8 : decode cX9_openTo 8 = .ok (.getfield 183, 3) := by decide +kernel
theorem dX9_openTo_11 : decode cX9_openTo 11 = .ok (.aload_n 0, 1) := by decide +kernel
theorem dX9_openTo_12 : decode cX9_openTo 12 = .ok (.getfield 10, 3) := by decide +kernel
theorem dX9_openTo_15 : decode cX9_openTo 15 = .ok (.getfield 179, 3) := by decide +kernel
theorem dX9_openTo_18 : decode cX9_openTo 18 = .ok (.invokevirtual 187, 3) := by decide +kernel
theorem dX9_openTo_21 : decode cX9_openTo 21 = .ok (.ireturn, 1) := by decide +kernel
theorem dX9_judge_0 : decode cX9_judge 0 = .ok (.aload_n 0, 1) := by decide +kernel
theorem dX9_judge_1 : decode cX9_judge 1 = .ok (.getfield 43, 3) := by decide +kernel
theorem dX9_judge_4 : decode cX9_judge 4 = .ok (.aload_n 0, 1) := by decide +kernel
theorem dX9_judge_5 : decode cX9_judge 5 = .ok (.getfield 10, 3) := by decide +kernel
theorem dX9_judge_8 : decode cX9_judge 8 = .ok (.getfield 179, 3) := by decide +kernel
theorem dX9_judge_11 : decode cX9_judge 11 = .ok (.invokevirtual 191, 3) := by decide +kernel
theorem dX9_judge_14 : decode cX9_judge 14 = .ok (.istore_n 1, 1) := by decide +kernel
theorem dX9_judge_15 : decode cX9_judge 15 = .ok (.aload_n 0, 1) := by decide +kernel
theorem dX9_judge_16 : decode cX9_judge 16 = .ok (.getfield 43, 3) := by decide +kernel
theorem dX9_judge_19 : decode cX9_judge 19 = .ok (.iconst 0, 1) := by decide +kernel
theorem dX9_judge_20 : decode cX9_judge 20 = .ok (.putfield 183, 3) := by decide +kernel
theorem dX9_judge_23 : decode cX9_judge 23 = .ok (.iload_n 1, 1) := by decide +kernel
theorem dX9_judge_24 : decode cX9_judge 24 = .ok (.ireturn, 1) := by decide +kernel
theorem dX9_lasts_0 : decode cX9_lasts 0 = .ok (.aload_n 0, 1) := by decide +kernel
theorem dX9_lasts_1 : decode cX9_lasts 1 = .ok (.getfield 22, 3) := by decide +kernel
theorem dX9_lasts_4 : decode cX9_lasts 4 = .ok (.aload_n 0, 1) := by decide +kernel
theorem dX9_lasts_5 : decode cX9_lasts 5 = .ok (.getfield 10, 3) := by decide +kernel
theorem dX9_lasts_8 : decode cX9_lasts 8 = .ok (.invokevirtual 194, 3) := by decide +kernel
theorem dX9_lasts_11 : decode cX9_lasts 11 = .ok (.ireturn, 1) := by decide +kernel
theorem dX9_next_0 : decode cX9_next 0 = .ok (.iload_n 1, 1) := by decide +kernel
theorem dX9_next_1 : decode cX9_next 1 = .ok (.ifCond .eq 15, 3) := by decide +kernel
theorem dX9_next_4 : decode cX9_next 4 = .ok (.iload_n 1, 1) := by decide +kernel
theorem dX9_next_5 : decode cX9_next 5 = .ok (.iconst 1, 1) := by decide +kernel
theorem dX9_next_6 : decode cX9_next 6 = .ok (.if_icmp .eq 10, 3) := by decide +kernel
theorem dX9_next_9 : decode cX9_next 9 = .ok (.aload_n 0, 1) := by decide +kernel
theorem dX9_next_10 : decode cX9_next 10 = .ok (.bipush (-2), 2) := by decide +kernel
theorem dX9_next_12 : decode cX9_next 12 = .ok (.invokevirtual 65, 3) := by decide +kernel
theorem dX9_next_15 : decode cX9_next 15 = .ok (.ireturn, 1) := by decide +kernel
theorem dX9_next_16 : decode cX9_next 16 = .ok (.aload_n 0, 1) := by decide +kernel
theorem dX9_next_17 : decode cX9_next 17 = .ok (.getfield 22, 3) := by decide +kernel
theorem dX9_next_20 : decode cX9_next 20 = .ok (.aload_n 0, 1) := by decide +kernel
theorem dX9_next_21 : decode cX9_next 21 = .ok (.getfield 10, 3) := by decide +kernel
theorem dX9_next_24 : decode cX9_next 24 = .ok (.iload_n 1, 1) := by decide +kernel
theorem dX9_next_25 : decode cX9_next 25 = .ok (.ifCond .ne 7, 3) := by decide +kernel
theorem dX9_next_28 : decode cX9_next 28 = .ok (.iconst 1, 1) := by decide +kernel
theorem dX9_next_29 : decode cX9_next 29 = .ok (.goto 4, 3) := by decide +kernel
theorem dX9_next_32 : decode cX9_next 32 = .ok (.iconst 0, 1) := by decide +kernel
theorem dX9_next_33 : decode cX9_next 33 = .ok (.invokevirtual 197, 3) := by decide +kernel
theorem dX9_next_36 : decode cX9_next 36 = .ok (.ireturn, 1) := by decide +kernel
theorem dX9_bridged_0 : decode cX9_bridged 0 = .ok (.iload_n 1, 1) := by decide +kernel
theorem dX9_bridged_1 : decode cX9_bridged 1 = .ok (.ifCond .ge 10, 3) := by decide +kernel
theorem dX9_bridged_4 : decode cX9_bridged 4 = .ok (.aload_n 0, 1) := by decide +kernel
theorem dX9_bridged_5 : decode cX9_bridged 5 = .ok (.bipush (-4), 2) := by decide +kernel
theorem dX9_bridged_7 : decode cX9_bridged 7 = .ok (.invokevirtual 65, 3) := by decide +kernel
theorem dX9_bridged_10 : decode cX9_bridged 10 = .ok (.ireturn, 1) := by decide +kernel
theorem dX9_bridged_11 : decode cX9_bridged 11 = .ok (.iload_n 1, 1) := by decide +kernel
theorem dX9_bridged_12 : decode cX9_bridged 12 = .ok (.bipush 12, 2) := by decide +kernel
theorem dX9_bridged_14 : decode cX9_bridged 14 = .ok (.if_icmp .le 10, 3) := by decide +kernel
theorem dX9_bridged_17 : decode cX9_bridged 17 = .ok (.aload_n 0, 1) := by decide +kernel
theorem dX9_bridged_18 : decode cX9_bridged 18 = .ok (.bipush (-6), 2) := by decide +kernel
theorem dX9_bridged_20 : decode cX9_bridged 20 = .ok (.invokevirtual 65, 3) := by decide +kernel
theorem dX9_bridged_23 : decode cX9_bridged 23 = .ok (.ireturn, 1) := by decide +kernel
theorem dX9_bridged_24 : decode cX9_bridged 24 = .ok (.aload_n 0, 1) := by decide +kernel
theorem dX9_bridged_25 : decode cX9_bridged 25 = .ok (.getfield 22, 3) := by decide +kernel
theorem dX9_bridged_28 : decode cX9_bridged 28 = .ok (.aload_n 0, 1) := by decide +kernel
theorem dX9_bridged_29 : decode cX9_bridged 29 = .ok (.getfield 10, 3) := by decide +kernel
theorem dX9_bridged_32 : decode cX9_bridged 32 = .ok (.iload_n 1, 1) := by decide +kernel
theorem dX9_bridged_33 : decode cX9_bridged 33 = .ok (.invokevirtual 201, 3) := by decide +kernel
theorem dX9_bridged_36 : decode cX9_bridged 36 = .ok (.ireturn, 1) := by decide +kernel
theorem dX9_stop_0 : decode cX9_stop 0 = .ok (.aload_n 0, 1) := by decide +kernel
theorem dX9_stop_1 : decode cX9_stop 1 = .ok (.getfield 10, 3) := by decide +kernel
theorem dX9_stop_4 : decode cX9_stop 4 = .ok (.getfield 179, 3) := by decide +kernel
theorem dX9_stop_7 : decode cX9_stop 7 = .ok (.ifCond .ne 10, 3) := by decide +kernel
theorem dX9_stop_10 : decode cX9_stop 10 = .ok (.aload_n 0, 1) := by decide +kernel
theorem dX9_stop_11 : decode cX9_stop 11 = .ok (.bipush (-3), 2) := by decide +kernel
theorem dX9_stop_13 : decode cX9_stop 13 = .ok (.invokevirtual 65, 3) := by decide +kernel
theorem dX9_stop_16 : decode cX9_stop 16 = .ok (.ireturn, 1) := by decide +kernel
theorem dX9_stop_17 : decode cX9_stop 17 = .ok (.aload_n 0, 1) := by decide +kernel
theorem dX9_stop_18 : decode cX9_stop 18 = .ok (.getfield 10, 3) := by decide +kernel
theorem dX9_stop_21 : decode cX9_stop 21 = .ok (.invokevirtual 205, 3) := by decide +kernel
theorem dX9_stop_24 : decode cX9_stop 24 = .ok (.ireturn, 1) := by decide +kernel
theorem dX9_light_0 : decode cX9_light 0 = .ok (.iload_n 1, 1) := by decide +kernel
theorem dX9_light_1 : decode cX9_light 1 = .ok (.ifCond .ge 10, 3) := by decide +kernel
theorem dX9_light_4 : decode cX9_light 4 = .ok (.aload_n 0, 1) := by decide +kernel
theorem dX9_light_5 : decode cX9_light 5 = .ok (.bipush (-4), 2) := by decide +kernel
theorem dX9_light_7 : decode cX9_light 7 = .ok (.invokevirtual 65, 3) := by decide +kernel
theorem dX9_light_10 : decode cX9_light 10 = .ok (.ireturn, 1) := by decide +kernel
theorem dX9_light_11 : decode cX9_light 11 = .ok (.iload_n 1, 1) := by decide +kernel
theorem dX9_light_12 : decode cX9_light 12 = .ok (.sipush 200, 3) := by decide +kernel
theorem dX9_light_15 : decode cX9_light 15 = .ok (.if_icmp .le 10, 3) := by decide +kernel
theorem dX9_light_18 : decode cX9_light 18 = .ok (.aload_n 0, 1) := by decide +kernel
theorem dX9_light_19 : decode cX9_light 19 = .ok (.bipush (-6), 2) := by decide +kernel
theorem dX9_light_21 : decode cX9_light 21 = .ok (.invokevirtual 65, 3) := by decide +kernel
theorem dX9_light_24 : decode cX9_light 24 = .ok (.ireturn, 1) := by decide +kernel
theorem dX9_light_25 : decode cX9_light 25 = .ok (.aload_n 0, 1) := by decide +kernel
theorem dX9_light_26 : decode cX9_light 26 = .ok (.getfield 22, 3) := by decide +kernel
theorem dX9_light_29 : decode cX9_light 29 = .ok (.aload_n 0, 1) := by decide +kernel
theorem dX9_light_30 : decode cX9_light 30 = .ok (.getfield 10, 3) := by decide +kernel
theorem dX9_light_33 : decode cX9_light 33 = .ok (.iload_n 1, 1) := by decide +kernel
theorem dX9_light_34 : decode cX9_light 34 = .ok (.invokevirtual 208, 3) := by decide +kernel
theorem dX9_light_37 : decode cX9_light 37 = .ok (.ireturn, 1) := by decide +kernel
theorem dX9_keeps_0 : decode cX9_keeps 0 = .ok (.iload_n 1, 1) := by decide +kernel
theorem dX9_keeps_1 : decode cX9_keeps 1 = .ok (.iconst 1, 1) := by decide +kernel
theorem dX9_keeps_2 : decode cX9_keeps 2 = .ok (.if_icmp .ge 10, 3) := by decide +kernel
theorem dX9_keeps_5 : decode cX9_keeps 5 = .ok (.aload_n 0, 1) := by decide +kernel
theorem dX9_keeps_6 : decode cX9_keeps 6 = .ok (.bipush (-4), 2) := by decide +kernel
theorem dX9_keeps_8 : decode cX9_keeps 8 = .ok (.invokevirtual 65, 3) := by decide +kernel
theorem dX9_keeps_11 : decode cX9_keeps 11 = .ok (.ireturn, 1) := by decide +kernel
theorem dX9_keeps_12 : decode cX9_keeps 12 = .ok (.iload_n 1, 1) := by decide +kernel
theorem dX9_keeps_13 : decode cX9_keeps 13 = .ok (.sipush 200, 3) := by decide +kernel
theorem dX9_keeps_16 : decode cX9_keeps 16 = .ok (.if_icmp .le 10, 3) := by decide +kernel
theorem dX9_keeps_19 : decode cX9_keeps 19 = .ok (.aload_n 0, 1) := by decide +kernel
theorem dX9_keeps_20 : decode cX9_keeps 20 = .ok (.bipush (-6), 2) := by decide +kernel
theorem dX9_keeps_22 : decode cX9_keeps 22 = .ok (.invokevirtual 65, 3) := by decide +kernel
theorem dX9_keeps_25 : decode cX9_keeps 25 = .ok (.ireturn, 1) := by decide +kernel
theorem dX9_keeps_26 : decode cX9_keeps 26 = .ok (.aload_n 0, 1) := by decide +kernel
theorem dX9_keeps_27 : decode cX9_keeps 27 = .ok (.getfield 22, 3) := by decide +kernel
theorem dX9_keeps_30 : decode cX9_keeps 30 = .ok (.aload_n 0, 1) := by decide +kernel
theorem dX9_keeps_31 : decode cX9_keeps 31 = .ok (.getfield 10, 3) := by decide +kernel
theorem dX9_keeps_34 : decode cX9_keeps 34 = .ok (.iload_n 1, 1) := by decide +kernel
theorem dX9_keeps_35 : decode cX9_keeps 35 = .ok (.invokevirtual 211, 3) := by decide +kernel
theorem dX9_keeps_38 : decode cX9_keeps 38 = .ok (.ireturn, 1) := by decide +kernel
theorem dX9_allAnew_0 : decode cX9_allAnew 0 = .ok (.aload_n 0, 1) := by decide +kernel
theorem dX9_allAnew_1 : decode cX9_allAnew 1 = .ok (.getfield 10, 3) := by decide +kernel
theorem dX9_allAnew_4 : decode cX9_allAnew 4 = .ok (.getfield 179, 3) := by decide +kernel
theorem dX9_allAnew_7 : decode cX9_allAnew 7 = .ok (.ifCond .ne 10, 3) := by decide +kernel
theorem dX9_allAnew_10 : decode cX9_allAnew 10 = .ok (.aload_n 0, 1) := by decide +kernel
theorem dX9_allAnew_11 : decode cX9_allAnew 11 = .ok (.bipush (-3), 2) := by decide +kernel
theorem dX9_allAnew_13 : decode cX9_allAnew 13 = .ok (.invokevirtual 65, 3) := by decide +kernel
theorem dX9_allAnew_16 : decode cX9_allAnew 16 = .ok (.ireturn, 1) := by decide +kernel
theorem dX9_allAnew_17 : decode cX9_allAnew 17 = .ok (.aload_n 0, 1) := by decide +kernel
theorem dX9_allAnew_18 : decode cX9_allAnew 18 = .ok (.getfield 22, 3) := by decide +kernel
theorem dX9_allAnew_21 : decode cX9_allAnew 21 = .ok (.aload_n 0, 1) := by decide +kernel
theorem dX9_allAnew_22 : decode cX9_allAnew 22 = .ok (.getfield 10, 3) := by decide +kernel
theorem dX9_allAnew_25 : decode cX9_allAnew 25 = .ok (.invokevirtual 214, 3) := by decide +kernel
theorem dX9_allAnew_28 : decode cX9_allAnew 28 = .ok (.ireturn, 1) := by decide +kernel
theorem dX9_joined_0 : decode cX9_joined 0 = .ok (.aload_n 0, 1) := by decide +kernel
theorem dX9_joined_1 : decode cX9_joined 1 = .ok (.getfield 10, 3) := by decide +kernel
theorem dX9_joined_4 : decode cX9_joined 4 = .ok (.invokevirtual 217, 3) := by decide +kernel
theorem dX9_joined_7 : decode cX9_joined 7 = .ok (.ireturn, 1) := by decide +kernel
theorem dX9_two_0 : decode cX9_two 0 = .ok (.iload_n 1, 1) := by decide +kernel
theorem dX9_two_1 : decode cX9_two 1 = .ok (.ifCond .eq 20, 3) := by decide +kernel
theorem dX9_two_4 : decode cX9_two 4 = .ok (.iload_n 1, 1) := by decide +kernel
theorem dX9_two_5 : decode cX9_two 5 = .ok (.iconst 1, 1) := by decide +kernel
theorem dX9_two_6 : decode cX9_two 6 = .ok (.if_icmp .eq 15, 3) := by decide +kernel
theorem dX9_two_9 : decode cX9_two 9 = .ok (.ldc2_w 220, 3) := by decide +kernel
theorem dX9_two_12 : decode cX9_two 12 = .ok (.aload_n 0, 1) := by decide +kernel
theorem dX9_two_13 : decode cX9_two 13 = .ok (.bipush (-2), 2) := by decide +kernel
theorem dX9_two_15 : decode cX9_two 15 = .ok (.invokevirtual 65, 3) := by decide +kernel
theorem dX9_two_18 : decode cX9_two 18 = .ok (.i2l, 1) := by decide +kernel
theorem dX9_two_19 : decode cX9_two 19 = .ok (.lsub, 1) := by decide +kernel
theorem dX9_two_20 : decode cX9_two 20 = .ok (.lreturn, 1) := by decide +kernel
theorem dX9_two_21 : decode cX9_two 21 = .ok (.aload_n 0, 1) := by decide +kernel
theorem dX9_two_22 : decode cX9_two 22 = .ok (.getfield 10, 3) := by decide +kernel
theorem dX9_two_25 : decode cX9_two 25 = .ok (.getfield 179, 3) := by decide +kernel
theorem dX9_two_28 : decode cX9_two 28 = .ok (.ifCond .ne 15, 3) := by decide +kernel
theorem dX9_two_31 : decode cX9_two 31 = .ok (.ldc2_w 220, 3) := by decide +kernel
theorem dX9_two_34 : decode cX9_two 34 = .ok (.aload_n 0, 1) := by decide +kernel
theorem dX9_two_35 : decode cX9_two 35 = .ok (.bipush (-3), 2) := by decide +kernel
theorem dX9_two_37 : decode cX9_two 37 = .ok (.invokevirtual 65, 3) := by decide +kernel
theorem dX9_two_40 : decode cX9_two 40 = .ok (.i2l, 1) := by decide +kernel
theorem dX9_two_41 : decode cX9_two 41 = .ok (.lsub, 1) := by decide +kernel
theorem dX9_two_42 : decode cX9_two 42 = .ok (.lreturn, 1) := by decide +kernel
theorem dX9_two_43 : decode cX9_two 43 = .ok (.aload_n 0, 1) := by decide +kernel
theorem dX9_two_44 : decode cX9_two 44 = .ok (.getfield 10, 3) := by decide +kernel
theorem dX9_two_47 : decode cX9_two 47 = .ok (.getfield 179, 3) := by decide +kernel
theorem dX9_two_50 : decode cX9_two 50 = .ok (.bipush 8, 2) := by decide +kernel
theorem dX9_two_52 : decode cX9_two 52 = .ok (.if_icmp .le 15, 3) := by decide +kernel
theorem dX9_two_55 : decode cX9_two 55 = .ok (.ldc2_w 220, 3) := by decide +kernel
theorem dX9_two_58 : decode cX9_two 58 = .ok (.aload_n 0, 1) := by decide +kernel
theorem dX9_two_59 : decode cX9_two 59 = .ok (.bipush (-6), 2) := by decide +kernel
theorem dX9_two_61 : decode cX9_two 61 = .ok (.invokevirtual 65, 3) := by decide +kernel
theorem dX9_two_64 : decode cX9_two 64 = .ok (.i2l, 1) := by decide +kernel
theorem dX9_two_65 : decode cX9_two 65 = .ok (.lsub, 1) := by decide +kernel
theorem dX9_two_66 : decode cX9_two 66 = .ok (.lreturn, 1) := by decide +kernel
theorem dX9_two_67 : decode cX9_two 67 = .ok (.aload_n 0, 1) := by decide +kernel
theorem dX9_two_68 : decode cX9_two 68 = .ok (.getfield 10, 3) := by decide +kernel
theorem dX9_two_71 : decode cX9_two 71 = .ok (.iload_n 1, 1) := by decide +kernel
theorem dX9_two_72 : decode cX9_two 72 = .ok (.ifCond .ne 7, 3) := by decide +kernel
theorem dX9_two_75 : decode cX9_two 75 = .ok (.iconst 1, 1) := by decide +kernel
theorem dX9_two_76 : decode cX9_two 76 = .ok (.goto 4, 3) := by decide +kernel
theorem dX9_two_79 : decode cX9_two 79 = .ok (.iconst 0, 1) := by decide +kernel
theorem dX9_two_80 : decode cX9_two 80 = .ok (.invokestatic 222, 3) := by decide +kernel
theorem dX9_two_83 : decode cX9_two 83 = .ok (.lreturn, 1) := by decide +kernel
theorem dX9_seeds_0 : decode cX9_seeds 0 = .ok (.iload_n 1, 1) := by decide +kernel
theorem dX9_seeds_1 : decode cX9_seeds 1 = .ok (.iconst 1, 1) := by decide +kernel
theorem dX9_seeds_2 : decode cX9_seeds 2 = .ok (.if_icmp .ge 10, 3) := by decide +kernel
theorem dX9_seeds_5 : decode cX9_seeds 5 = .ok (.aload_n 0, 1) := by decide +kernel
theorem dX9_seeds_6 : decode cX9_seeds 6 = .ok (.bipush (-4), 2) := by decide +kernel
theorem dX9_seeds_8 : decode cX9_seeds 8 = .ok (.invokevirtual 65, 3) := by decide +kernel
theorem dX9_seeds_11 : decode cX9_seeds 11 = .ok (.ireturn, 1) := by decide +kernel
theorem dX9_seeds_12 : decode cX9_seeds 12 = .ok (.iload_n 1, 1) := by decide +kernel
theorem dX9_seeds_13 : decode cX9_seeds 13 = .ok (.bipush 50, 2) := by decide +kernel
theorem dX9_seeds_15 : decode cX9_seeds 15 = .ok (.if_icmp .le 10, 3) := by decide +kernel
theorem dX9_seeds_18 : decode cX9_seeds 18 = .ok (.aload_n 0, 1) := by decide +kernel
theorem dX9_seeds_19 : decode cX9_seeds 19 = .ok (.bipush (-6), 2) := by decide +kernel
theorem dX9_seeds_21 : decode cX9_seeds 21 = .ok (.invokevirtual 65, 3) := by decide +kernel
theorem dX9_seeds_24 : decode cX9_seeds 24 = .ok (.ireturn, 1) := by decide +kernel
theorem dX9_seeds_25 : decode cX9_seeds 25 = .ok (.aload_n 0, 1) := by decide +kernel
theorem dX9_seeds_26 : decode cX9_seeds 26 = .ok (.getfield 10, 3) := by decide +kernel
theorem dX9_seeds_29 : decode cX9_seeds 29 = .ok (.getfield 179, 3) := by decide +kernel
theorem dX9_seeds_32 : decode cX9_seeds 32 = .ok (.ifCond .ne 10, 3) := by decide +kernel
theorem dX9_seeds_35 : decode cX9_seeds 35 = .ok (.aload_n 0, 1) := by decide +kernel
theorem dX9_seeds_36 : decode cX9_seeds 36 = .ok (.bipush (-3), 2) := by decide +kernel
theorem dX9_seeds_38 : decode cX9_seeds 38 = .ok (.invokevirtual 65, 3) := by decide +kernel
theorem dX9_seeds_41 : decode cX9_seeds 41 = .ok (.ireturn, 1) := by decide +kernel
theorem dX9_seeds_42 : decode cX9_seeds 42 = .ok (.aload_n 0, 1) := by decide +kernel
theorem dX9_seeds_43 : decode cX9_seeds 43 = .ok (.getfield 22, 3) := by decide +kernel
theorem dX9_seeds_46 : decode cX9_seeds 46 = .ok (.aload_n 0, 1) := by decide +kernel
theorem dX9_seeds_47 : decode cX9_seeds 47 = .ok (.getfield 10, 3) := by decide +kernel
theorem dX9_seeds_50 : decode cX9_seeds 50 = .ok (.iload_n 1, 1) := by decide +kernel
theorem dX9_seeds_51 : decode cX9_seeds 51 = .ok (.iload_n 2, 1) := by decide +kernel
theorem dX9_seeds_52 : decode cX9_seeds 52 = .ok (.invokevirtual 228, 3) := by decide +kernel
theorem dX9_seeds_55 : decode cX9_seeds 55 = .ok (.ireturn, 1) := by decide +kernel
theorem dX9_image_0 : decode cX9_image 0 = .ok (.aload_n 0, 1) := by decide +kernel
theorem dX9_image_1 : decode cX9_image 1 = .ok (.getfield 16, 3) := by decide +kernel
theorem dX9_image_4 : decode cX9_image 4 = .ok (.aload_n 0, 1) := by decide +kernel
theorem dX9_image_5 : decode cX9_image 5 = .ok (.getfield 10, 3) := by decide +kernel
theorem dX9_image_8 : decode cX9_image 8 = .ok (.invokevirtual 89, 3) := by decide +kernel
theorem dX9_image_11 : decode cX9_image 11 = .ok (.aload_n 0, 1) := by decide +kernel
theorem dX9_image_12 : decode cX9_image 12 = .ok (.iconst 1, 1) := by decide +kernel
theorem dX9_image_13 : decode cX9_image 13 = .ok (.putfield 232, 3) := by decide +kernel
theorem dX9_image_16 : decode cX9_image 16 = .ok (.aload_n 0, 1) := by decide +kernel
theorem dX9_image_17 : decode cX9_image 17 = .ok (.getfield 10, 3) := by decide +kernel
theorem dX9_image_20 : decode cX9_image 20 = .ok (.getfield 139, 3) := by decide +kernel
theorem dX9_image_23 : decode cX9_image 23 = .ok (.ireturn, 1) := by decide +kernel
theorem dX9_restore_0 : decode cX9_restore 0 = .ok (.aload_n 0, 1) := by decide +kernel
theorem dX9_restore_1 : decode cX9_restore 1 = .ok (.getfield 232, 3) := by decide +kernel
theorem dX9_restore_4 : decode cX9_restore 4 = .ok (.ifCond .ne 10, 3) := by decide +kernel
theorem dX9_restore_7 : decode cX9_restore 7 = .ok (.aload_n 0, 1) := by decide +kernel
theorem dX9_restore_8 : decode cX9_restore 8 = .ok (.bipush (-3), 2) := by decide +kernel
theorem dX9_restore_10 : decode cX9_restore 10 = .ok (.invokevirtual 65, 3) := by decide +kernel
theorem dX9_restore_13 : decode cX9_restore 13 = .ok (.ireturn, 1) := by decide +kernel
theorem dX9_restore_14 : decode cX9_restore 14 = .ok (.aload_n 0, 1) := by decide +kernel
theorem dX9_restore_15 : decode cX9_restore 15 = .ok (.getfield 10, 3) := by decide +kernel
theorem dX9_restore_18 : decode cX9_restore 18 = .ok (.aload_n 0, 1) := by decide +kernel
theorem dX9_restore_19 : decode cX9_restore 19 = .ok (.getfield 16, 3) := by decide +kernel
theorem dX9_restore_22 : decode cX9_restore 22 = .ok (.invokevirtual 89, 3) := by decide +kernel
theorem dX9_restore_25 : decode cX9_restore 25 = .ok (.aload_n 0, 1) := by decide +kernel
theorem dX9_restore_26 : decode cX9_restore 26 = .ok (.getfield 10, 3) := by decide +kernel
theorem dX9_restore_29 : decode cX9_restore 29 = .ok (.getfield 139, 3) := by decide +kernel
theorem dX9_restore_32 : decode cX9_restore 32 = .ok (.ireturn, 1) := by decide +kernel
theorem dX9_count_0 : decode cX9_count 0 = .ok (.iload_n 1, 1) := by decide +kernel
theorem dX9_count_1 : decode cX9_count 1 = .ok (.tableswitch 142 0 9 #[55, 63, 72, 81, 90, 99, 107, 118, 126, 134], 55) := by decide +kernel
theorem dX9_count_56 : decode cX9_count 56 = .ok (.aload_n 0, 1) := by decide +kernel
theorem dX9_count_57 : decode cX9_count 57 = .ok (.getfield 10, 3) := by decide +kernel
theorem dX9_count_60 : decode cX9_count 60 = .ok (.getfield 179, 3) := by decide +kernel
theorem dX9_count_63 : decode cX9_count 63 = .ok (.ireturn, 1) := by decide +kernel
theorem dX9_count_64 : decode cX9_count 64 = .ok (.aload_n 0, 1) := by decide +kernel
theorem dX9_count_65 : decode cX9_count 65 = .ok (.getfield 10, 3) := by decide +kernel
theorem dX9_count_68 : decode cX9_count 68 = .ok (.iconst 0, 1) := by decide +kernel
theorem dX9_count_69 : decode cX9_count 69 = .ok (.invokevirtual 236, 3) := by decide +kernel
theorem dX9_count_72 : decode cX9_count 72 = .ok (.ireturn, 1) := by decide +kernel
theorem dX9_count_73 : decode cX9_count 73 = .ok (.aload_n 0, 1) := by decide +kernel
theorem dX9_count_74 : decode cX9_count 74 = .ok (.getfield 10, 3) := by decide +kernel
theorem dX9_count_77 : decode cX9_count 77 = .ok (.iconst 1, 1) := by decide +kernel
theorem dX9_count_78 : decode cX9_count 78 = .ok (.invokevirtual 236, 3) := by decide +kernel
theorem dX9_count_81 : decode cX9_count 81 = .ok (.ireturn, 1) := by decide +kernel
theorem dX9_count_82 : decode cX9_count 82 = .ok (.aload_n 0, 1) := by decide +kernel
theorem dX9_count_83 : decode cX9_count 83 = .ok (.getfield 10, 3) := by decide +kernel
theorem dX9_count_86 : decode cX9_count 86 = .ok (.iconst 2, 1) := by decide +kernel
theorem dX9_count_87 : decode cX9_count 87 = .ok (.invokevirtual 236, 3) := by decide +kernel
theorem dX9_count_90 : decode cX9_count 90 = .ok (.ireturn, 1) := by decide +kernel
theorem dX9_count_91 : decode cX9_count 91 = .ok (.aload_n 0, 1) := by decide +kernel
theorem dX9_count_92 : decode cX9_count 92 = .ok (.getfield 10, 3) := by decide +kernel
theorem dX9_count_95 : decode cX9_count 95 = .ok (.iconst 3, 1) := by decide +kernel
theorem dX9_count_96 : decode cX9_count 96 = .ok (.invokevirtual 236, 3) := by decide +kernel
theorem dX9_count_99 : decode cX9_count 99 = .ok (.ireturn, 1) := by decide +kernel
theorem dX9_count_100 : decode cX9_count 100 = .ok (.aload_n 0, 1) := by decide +kernel
theorem dX9_count_101 : decode cX9_count 101 = .ok (.getfield 10, 3) := by decide +kernel
theorem dX9_count_104 : decode cX9_count 104 = .ok (.getfield 139, 3) := by decide +kernel
theorem dX9_count_107 : decode cX9_count 107 = .ok (.ireturn, 1) := by decide +kernel
theorem dX9_count_108 : decode cX9_count 108 = .ok (.aload_n 0, 1) := by decide +kernel
theorem dX9_count_109 : decode cX9_count 109 = .ok (.getfield 10, 3) := by decide +kernel
theorem dX9_count_112 : decode cX9_count 112 = .ok (.invokevirtual 148, 3) := by decide +kernel
theorem dX9_count_115 : decode cX9_count 115 = .ok (.invokestatic 152, 3) := by decide +kernel
theorem dX9_count_118 : decode cX9_count 118 = .ok (.ireturn, 1) := by decide +kernel
theorem dX9_count_119 : decode cX9_count 119 = .ok (.aload_n 0, 1) := by decide +kernel
theorem dX9_count_120 : decode cX9_count 120 = .ok (.getfield 29, 3) := by decide +kernel
theorem dX9_count_123 : decode cX9_count 123 = .ok (.getfield 69, 3) := by decide +kernel
theorem dX9_count_126 : decode cX9_count 126 = .ok (.ireturn, 1) := by decide +kernel
theorem dX9_count_127 : decode cX9_count 127 = .ok (.aload_n 0, 1) := by decide +kernel
theorem dX9_count_128 : decode cX9_count 128 = .ok (.getfield 43, 3) := by decide +kernel
theorem dX9_count_131 : decode cX9_count 131 = .ok (.getfield 183, 3) := by decide +kernel
theorem dX9_count_134 : decode cX9_count 134 = .ok (.ireturn, 1) := by decide +kernel
theorem dX9_count_135 : decode cX9_count 135 = .ok (.aload_n 0, 1) := by decide +kernel
theorem dX9_count_136 : decode cX9_count 136 = .ok (.getfield 10, 3) := by decide +kernel
theorem dX9_count_139 : decode cX9_count 139 = .ok (.invokevirtual 239, 3) := by decide +kernel
theorem dX9_count_142 : decode cX9_count 142 = .ok (.ireturn, 1) := by decide +kernel
theorem dX9_count_143 : decode cX9_count 143 = .ok (.aload_n 0, 1) := by decide +kernel
theorem dX9_count_144 : decode cX9_count 144 = .ok (.iload_n 1, 1) := by decide +kernel
theorem dX9_count_145 : decode cX9_count 145 = .ok (.invokevirtual 242, 3) := by decide +kernel
theorem dX9_count_148 : decode cX9_count 148 = .ok (.ireturn, 1) := by decide +kernel
theorem dX9_refusalsOf_0 : decode cX9_refusalsOf 0 = .ok (.iload_n 1, 1) := by decide +kernel
theorem dX9_refusalsOf_1 : decode cX9_refusalsOf 1 = .ok (.bipush 11, 2) := by decide +kernel
theorem dX9_refusalsOf_3 : decode cX9_refusalsOf 3 = .ok (.if_icmp .lt 9, 3) := by decide +kernel
theorem dX9_refusalsOf_6 : decode cX9_refusalsOf 6 = .ok (.iload_n 1, 1) := by decide +kernel
theorem dX9_refusalsOf_7 : decode cX9_refusalsOf 7 = .ok (.bipush 17, 2) := by decide +kernel
theorem dX9_refusalsOf_9 : decode cX9_refusalsOf 9 = .ok (.if_icmp .lt 6, 3) := by decide +kernel
theorem dX9_refusalsOf_12 : decode cX9_refusalsOf 12 = .ok (.bipush (-9), 2) := by decide +kernel
theorem dX9_refusalsOf_14 : decode cX9_refusalsOf 14 = .ok (.ireturn, 1) := by decide +kernel
theorem dX9_refusalsOf_15 : decode cX9_refusalsOf 15 = .ok (.aload_n 0, 1) := by decide +kernel
theorem dX9_refusalsOf_16 : decode cX9_refusalsOf 16 = .ok (.getfield 61, 3) := by decide +kernel
theorem dX9_refusalsOf_19 : decode cX9_refusalsOf 19 = .ok (.iload_n 1, 1) := by decide +kernel
theorem dX9_refusalsOf_20 : decode cX9_refusalsOf 20 = .ok (.bipush 11, 2) := by decide +kernel
theorem dX9_refusalsOf_22 : decode cX9_refusalsOf 22 = .ok (.isub, 1) := by decide +kernel
theorem dX9_refusalsOf_23 : decode cX9_refusalsOf 23 = .ok (.iaload, 1) := by decide +kernel
theorem dX9_refusalsOf_24 : decode cX9_refusalsOf 24 = .ok (.ireturn, 1) := by decide +kernel
theorem dX9_refuse_0 : decode cX9_refuse 0 = .ok (.iconst (-1), 1) := by decide +kernel
theorem dX9_refuse_1 : decode cX9_refuse 1 = .ok (.iload_n 1, 1) := by decide +kernel
theorem dX9_refuse_2 : decode cX9_refuse 2 = .ok (.isub, 1) := by decide +kernel
theorem dX9_refuse_3 : decode cX9_refuse 3 = .ok (.istore_n 2, 1) := by decide +kernel
theorem dX9_refuse_4 : decode cX9_refuse 4 = .ok (.iload_n 2, 1) := by decide +kernel
theorem dX9_refuse_5 : decode cX9_refuse 5 = .ok (.ifCond .lt 19, 3) := by decide +kernel
theorem dX9_refuse_8 : decode cX9_refuse 8 = .ok (.iload_n 2, 1) := by decide +kernel
theorem dX9_refuse_9 : decode cX9_refuse 9 = .ok (.bipush 6, 2) := by decide +kernel
theorem dX9_refuse_11 : decode cX9_refuse 11 = .ok (.if_icmp .ge 13, 3) := by decide +kernel
theorem dX9_refuse_14 : decode cX9_refuse 14 = .ok (.aload_n 0, 1) := by decide +kernel
theorem dX9_refuse_15 : decode cX9_refuse 15 = .ok (.getfield 61, 3) := by decide +kernel
theorem dX9_refuse_18 : decode cX9_refuse 18 = .ok (.iload_n 2, 1) := by decide +kernel
theorem dX9_refuse_19 : decode cX9_refuse 19 = .ok (.dup2, 1) := by decide +kernel
theorem dX9_refuse_20 : decode cX9_refuse 20 = .ok (.iaload, 1) := by decide +kernel
theorem dX9_refuse_21 : decode cX9_refuse 21 = .ok (.iconst 1, 1) := by decide +kernel
theorem dX9_refuse_22 : decode cX9_refuse 22 = .ok (.iadd, 1) := by decide +kernel
theorem dX9_refuse_23 : decode cX9_refuse 23 = .ok (.iastore, 1) := by decide +kernel
theorem dX9_refuse_24 : decode cX9_refuse 24 = .ok (.iload_n 1, 1) := by decide +kernel
theorem dX9_refuse_25 : decode cX9_refuse 25 = .ok (.ireturn, 1) := by decide +kernel
theorem dX9_asNumber_0 : decode cX9_asNumber 0 = .ok (.iload_n 0, 1) := by decide +kernel
theorem dX9_asNumber_1 : decode cX9_asNumber 1 = .ok (.ifCond .eq 7, 3) := by decide +kernel
theorem dX9_asNumber_4 : decode cX9_asNumber 4 = .ok (.iconst 1, 1) := by decide +kernel
theorem dX9_asNumber_5 : decode cX9_asNumber 5 = .ok (.goto 4, 3) := by decide +kernel
theorem dX9_asNumber_8 : decode cX9_asNumber 8 = .ok (.iconst 0, 1) := by decide +kernel
theorem dX9_asNumber_9 : decode cX9_asNumber 9 = .ok (.ireturn, 1) := by decide +kernel
theorem dX9_formOfLetters_0 : decode cX9_formOfLetters 0 = .ok (.iconst 0, 1) := by decide +kernel
theorem dX9_formOfLetters_1 : decode cX9_formOfLetters 1 = .ok (.istore_n 1, 1) := by decide +kernel
theorem dX9_formOfLetters_2 : decode cX9_formOfLetters 2 = .ok (.iconst 0, 1) := by decide +kernel
theorem dX9_formOfLetters_3 : decode cX9_formOfLetters 3 = .ok (.istore_n 2, 1) := by decide +kernel
theorem dX9_formOfLetters_4 : decode cX9_formOfLetters 4 = .ok (.iload_n 1, 1) := by decide +kernel
theorem dX9_formOfLetters_5 : decode cX9_formOfLetters 5 = .ok (.aload_n 0, 1) := by decide +kernel
theorem dX9_formOfLetters_6 : decode cX9_formOfLetters 6 = .ok (.getfield 29, 3) := by decide +kernel
theorem dX9_formOfLetters_9 : decode cX9_formOfLetters 9 = .ok (.getfield 69, 3) := by decide +kernel
theorem dX9_formOfLetters_12 : decode cX9_formOfLetters 12 = .ok (.if_icmp .ge 51, 3) := by decide +kernel
theorem dX9_formOfLetters_15 : decode cX9_formOfLetters 15 = .ok (.iload_n 2, 1) := by decide +kernel
theorem dX9_formOfLetters_16 : decode cX9_formOfLetters 16 = .ok (.bipush 64, 2) := by decide +kernel
theorem dX9_formOfLetters_18 : decode cX9_formOfLetters 18 = .ok (.if_icmp .ge 45, 3) := by decide +kernel
theorem dX9_formOfLetters_21 : decode cX9_formOfLetters 21 = .ok (.aload_n 0, 1) := by decide +kernel
theorem dX9_formOfLetters_22 : decode cX9_formOfLetters 22 = .ok (.getfield 36, 3) := by decide +kernel
theorem dX9_formOfLetters_25 : decode cX9_formOfLetters 25 = .ok (.aload_n 0, 1) := by decide +kernel
theorem dX9_formOfLetters_26 : decode cX9_formOfLetters 26 = .ok (.getfield 29, 3) := by decide +kernel
theorem dX9_formOfLetters_29 : decode cX9_formOfLetters 29 = .ok (.iload_n 1, 1) := by decide +kernel
theorem dX9_formOfLetters_30 : decode cX9_formOfLetters 30 = .ok (.invokevirtual 245, 3) := by decide +kernel
theorem dX9_formOfLetters_33 : decode cX9_formOfLetters 33 = .ok (.aload_n 0, 1) := by decide +kernel
theorem dX9_formOfLetters_34 : decode cX9_formOfLetters 34 = .ok (.getfield 36, 3) := by decide +kernel
theorem dX9_formOfLetters_37 : decode cX9_formOfLetters 37 = .ok (.getfield 249, 3) := by decide +kernel
theorem dX9_formOfLetters_40 : decode cX9_formOfLetters 40 = .ok (.istore_n 1, 1) := by decide +kernel
theorem dX9_formOfLetters_41 : decode cX9_formOfLetters 41 = .ok (.aload_n 0, 1) := by decide +kernel
theorem dX9_formOfLetters_42 : decode cX9_formOfLetters 42 = .ok (.getfield 36, 3) := by decide +kernel
theorem dX9_formOfLetters_45 : decode cX9_formOfLetters 45 = .ok (.getfield 252, 3) := by decide +kernel
theorem dX9_formOfLetters_48 : decode cX9_formOfLetters 48 = .ok (.ifCond .ne 9, 3) := by decide +kernel
theorem dX9_formOfLetters_51 : decode cX9_formOfLetters 51 = .ok (.sipush (-1000), 3) := by decide +kernel
theorem dX9_formOfLetters_54 : decode cX9_formOfLetters 54 = .ok (.iload_n 1, 1) := by decide +kernel
theorem dX9_formOfLetters_55 : decode cX9_formOfLetters 55 = .ok (.isub, 1) := by decide +kernel
theorem dX9_formOfLetters_56 : decode cX9_formOfLetters 56 = .ok (.ireturn, 1) := by decide +kernel
theorem dX9_formOfLetters_57 : decode cX9_formOfLetters 57 = .ok (.iinc 2 1, 3) := by decide +kernel
theorem dX9_formOfLetters_60 : decode cX9_formOfLetters 60 = .ok (.goto (-56), 3) := by decide +kernel
theorem dX9_formOfLetters_63 : decode cX9_formOfLetters 63 = .ok (.iload_n 2, 1) := by decide +kernel
theorem dX9_formOfLetters_64 : decode cX9_formOfLetters 64 = .ok (.ifCond .ne 9, 3) := by decide +kernel
theorem dX9_formOfLetters_67 : decode cX9_formOfLetters 67 = .ok (.sipush (-1000), 3) := by decide +kernel
theorem dX9_formOfLetters_70 : decode cX9_formOfLetters 70 = .ok (.goto 4, 3) := by decide +kernel
theorem dX9_formOfLetters_73 : decode cX9_formOfLetters 73 = .ok (.iload_n 2, 1) := by decide +kernel
theorem dX9_formOfLetters_74 : decode cX9_formOfLetters 74 = .ok (.ireturn, 1) := by decide +kernel
theorem dX9_takeLetters_0 : decode cX9_takeLetters 0 = .ok (.iconst 0, 1) := by decide +kernel
theorem dX9_takeLetters_1 : decode cX9_takeLetters 1 = .ok (.istore_n 2, 1) := by decide +kernel
theorem dX9_takeLetters_2 : decode cX9_takeLetters 2 = .ok (.iconst 0, 1) := by decide +kernel
theorem dX9_takeLetters_3 : decode cX9_takeLetters 3 = .ok (.istore_n 3, 1) := by decide +kernel
theorem dX9_takeLetters_4 : decode cX9_takeLetters 4 = .ok (.iload_n 3, 1) := by decide +kernel
theorem dX9_takeLetters_5 : decode cX9_takeLetters 5 = .ok (.bipush 64, 2) := by decide +kernel
theorem dX9_takeLetters_7 : decode cX9_takeLetters 7 = .ok (.if_icmp .ge 57, 3) := by decide +kernel
theorem dX9_takeLetters_10 : decode cX9_takeLetters 10 = .ok (.iload_n 2, 1) := by decide +kernel
theorem dX9_takeLetters_11 : decode cX9_takeLetters 11 = .ok (.aload_n 0, 1) := by decide +kernel
theorem dX9_takeLetters_12 : decode cX9_takeLetters 12 = .ok (.getfield 29, 3) := by decide +kernel
theorem dX9_takeLetters_15 : decode cX9_takeLetters 15 = .ok (.getfield 69, 3) := by decide +kernel
theorem dX9_takeLetters_18 : decode cX9_takeLetters 18 = .ok (.if_icmp .ge 46, 3) := by decide +kernel
theorem dX9_takeLetters_21 : decode cX9_takeLetters 21 = .ok (.aload_n 0, 1) := by decide +kernel
theorem dX9_takeLetters_22 : decode cX9_takeLetters 22 = .ok (.getfield 36, 3) := by decide +kernel
theorem dX9_takeLetters_25 : decode cX9_takeLetters 25 = .ok (.aload_n 0, 1) := by decide +kernel
theorem dX9_takeLetters_26 : decode cX9_takeLetters 26 = .ok (.getfield 29, 3) := by decide +kernel
theorem dX9_takeLetters_29 : decode cX9_takeLetters 29 = .ok (.iload_n 2, 1) := by decide +kernel
theorem dX9_takeLetters_30 : decode cX9_takeLetters 30 = .ok (.invokevirtual 245, 3) := by decide +kernel
theorem dX9_takeLetters_33 : decode cX9_takeLetters 33 = .ok (.aload_n 1, 1) := by decide +kernel
theorem dX9_takeLetters_34 : decode cX9_takeLetters 34 = .ok (.aload_n 0, 1) := by decide +kernel
theorem dX9_takeLetters_35 : decode cX9_takeLetters 35 = .ok (.getfield 36, 3) := by decide +kernel
theorem dX9_takeLetters_38 : decode cX9_takeLetters 38 = .ok (.invokevirtual 255, 3) := by decide +kernel
theorem dX9_takeLetters_41 : decode cX9_takeLetters 41 = .ok (.ifCond .ne 9, 3) := by decide +kernel
theorem dX9_takeLetters_44 : decode cX9_takeLetters 44 = .ok (.sipush (-2000), 3) := by decide +kernel
theorem dX9_takeLetters_47 : decode cX9_takeLetters 47 = .ok (.iload_n 2, 1) := by decide +kernel
theorem dX9_takeLetters_48 : decode cX9_takeLetters 48 = .ok (.isub, 1) := by decide +kernel
theorem dX9_takeLetters_49 : decode cX9_takeLetters 49 = .ok (.ireturn, 1) := by decide +kernel
theorem dX9_takeLetters_50 : decode cX9_takeLetters 50 = .ok (.aload_n 0, 1) := by decide +kernel
theorem dX9_takeLetters_51 : decode cX9_takeLetters 51 = .ok (.getfield 36, 3) := by decide +kernel
theorem dX9_takeLetters_54 : decode cX9_takeLetters 54 = .ok (.getfield 249, 3) := by decide +kernel
theorem dX9_takeLetters_57 : decode cX9_takeLetters 57 = .ok (.istore_n 2, 1) := by decide +kernel
theorem dX9_takeLetters_58 : decode cX9_takeLetters 58 = .ok (.iinc 3 1, 3) := by decide +kernel
theorem dX9_takeLetters_61 : decode cX9_takeLetters 61 = .ok (.goto (-57), 3) := by decide +kernel
theorem dX9_takeLetters_64 : decode cX9_takeLetters 64 = .ok (.iconst 0, 1) := by decide +kernel
theorem dX9_takeLetters_65 : decode cX9_takeLetters 65 = .ok (.ireturn, 1) := by decide +kernel
theorem dX10_init_0 : decode cX10_init 0 = .ok (.aload_n 0, 1) := by decide +kernel
theorem dX10_init_1 : decode cX10_init 1 = .ok (.invokespecial 1, 3) := by decide +kernel
theorem dX10_init_4 : decode cX10_init 4 = .ok (.aload_n 0, 1) := by decide +kernel
theorem dX10_init_5 : decode cX10_init 5 = .ok (.bipush 7, 2) := by decide +kernel
theorem dX10_init_7 : decode cX10_init 7 = .ok (.newarray .int, 2) := by decide +kernel
theorem dX10_init_9 : decode cX10_init 9 = .ok (.putfield 7, 3) := by decide +kernel
theorem dX10_init_12 : decode cX10_init 12 = .ok (.aload_n 0, 1) := by decide +kernel
theorem dX10_init_13 : decode cX10_init 13 = .ok (.bipush 12, 2) := by decide +kernel
theorem dX10_init_15 : decode cX10_init 15 = .ok (.newarray .int, 2) := by decide +kernel
theorem dX10_init_17 : decode cX10_init 17 = .ok (.putfield 13, 3) := by decide +kernel
theorem dX10_init_20 : decode cX10_init 20 = .ok (.aload_n 0, 1) := by decide +kernel
theorem dX10_init_21 : decode cX10_init 21 = .ok (.bipush 12, 2) := by decide +kernel
theorem dX10_init_23 : decode cX10_init 23 = .ok (.newarray .int, 2) := by decide +kernel
theorem dX10_init_25 : decode cX10_init 25 = .ok (.putfield 16, 3) := by decide +kernel
theorem dX10_init_28 : decode cX10_init 28 = .ok (.aload_n 0, 1) := by decide +kernel
theorem dX10_init_29 : decode cX10_init 29 = .ok (.bipush 12, 2) := by decide +kernel
theorem dX10_init_31 : decode cX10_init 31 = .ok (.newarray .int, 2) := by decide +kernel
theorem dX10_init_33 : decode cX10_init 33 = .ok (.putfield 19, 3) := by decide +kernel
theorem dX10_init_36 : decode cX10_init 36 = .ok (.aload_n 0, 1) := by decide +kernel
theorem dX10_init_37 : decode cX10_init 37 = .ok (.bipush 12, 2) := by decide +kernel
theorem dX10_init_39 : decode cX10_init 39 = .ok (.newarray .int, 2) := by decide +kernel
theorem dX10_init_41 : decode cX10_init 41 = .ok (.putfield 22, 3) := by decide +kernel
theorem dX10_init_44 : decode cX10_init 44 = .ok (.aload_n 0, 1) := by decide +kernel
theorem dX10_init_45 : decode cX10_init 45 = .ok (.bipush 12, 2) := by decide +kernel
theorem dX10_init_47 : decode cX10_init 47 = .ok (.newarray .int, 2) := by decide +kernel
theorem dX10_init_49 : decode cX10_init 49 = .ok (.putfield 25, 3) := by decide +kernel
theorem dX10_init_52 : decode cX10_init 52 = .ok (.aload_n 0, 1) := by decide +kernel
theorem dX10_init_53 : decode cX10_init 53 = .ok (.iconst 4, 1) := by decide +kernel
theorem dX10_init_54 : decode cX10_init 54 = .ok (.newarray .int, 2) := by decide +kernel
theorem dX10_init_56 : decode cX10_init 56 = .ok (.dup, 1) := by decide +kernel
theorem dX10_init_57 : decode cX10_init 57 = .ok (.iconst 0, 1) := by decide +kernel
theorem dX10_init_58 : decode cX10_init 58 = .ok (.sipush 230, 3) := by decide +kernel
theorem dX10_init_61 : decode cX10_init 61 = .ok (.iastore, 1) := by decide +kernel
theorem dX10_init_62 : decode cX10_init 62 = .ok (.dup, 1) := by decide +kernel
theorem dX10_init_63 : decode cX10_init 63 = .ok (.iconst 1, 1) := by decide +kernel
theorem dX10_init_64 : decode cX10_init 64 = .ok (.iconst 3, 1) := by decide +kernel
theorem dX10_init_65 : decode cX10_init 65 = .ok (.iastore, 1) := by decide +kernel
theorem dX10_init_66 : decode cX10_init 66 = .ok (.dup, 1) := by decide +kernel
theorem dX10_init_67 : decode cX10_init 67 = .ok (.iconst 2, 1) := by decide +kernel
theorem dX10_init_68 : decode cX10_init 68 = .ok (.bipush 100, 2) := by decide +kernel
theorem dX10_init_70 : decode cX10_init 70 = .ok (.iastore, 1) := by decide +kernel
theorem dX10_init_71 : decode cX10_init 71 = .ok (.dup, 1) := by decide +kernel
theorem dX10_init_72 : decode cX10_init 72 = .ok (.iconst 3, 1) := by decide +kernel
theorem dX10_init_73 : decode cX10_init 73 = .ok (.iconst 3, 1) := by decide +kernel
theorem dX10_init_74 : decode cX10_init 74 = .ok (.iastore, 1) := by decide +kernel
theorem dX10_init_75 : decode cX10_init 75 = .ok (.putfield 28, 3) := by decide +kernel
theorem dX10_init_78 : decode cX10_init 78 = .ok (.aload_n 0, 1) := by decide +kernel
theorem dX10_init_79 : decode cX10_init 79 = .ok (.bipush 64, 2) := by decide +kernel
theorem dX10_init_81 : decode cX10_init 81 = .ok (.newarray .int, 2) := by decide +kernel
theorem dX10_init_83 : decode cX10_init 83 = .ok (.putfield 31, 3) := by decide +kernel
theorem dX10_init_86 : decode cX10_init 86 = .ok (.aload_n 0, 1) := by decide +kernel
theorem dX10_init_87 : decode cX10_init 87 = .ok (.bipush 32, 2) := by decide +kernel
theorem dX10_init_89 : decode cX10_init 89 = .ok (.newarray .int, 2) := by decide +kernel
theorem dX10_init_91 : decode cX10_init 91 = .ok (.putfield 34, 3) := by decide +kernel
theorem dX10_init_94 : decode cX10_init 94 = .ok (.aload_n 0, 1) := by decide +kernel
theorem dX10_init_95 : decode cX10_init 95 = .ok (.bipush 32, 2) := by decide +kernel
theorem dX10_init_97 : decode cX10_init 97 = .ok (.newarray .int, 2) := by decide +kernel
theorem dX10_init_99 : decode cX10_init 99 = .ok (.putfield 37, 3) := by decide +kernel
theorem dX10_init_102 : decode cX10_init 102 = .ok (.aload_n 0, 1) := by decide +kernel
theorem dX10_init_103 : decode cX10_init 103 = .ok (.bipush 96, 2) := by decide +kernel
theorem dX10_init_105 : decode cX10_init 105 = .ok (.newarray .int, 2) := by decide +kernel
theorem dX10_init_107 : decode cX10_init 107 = .ok (.putfield 40, 3) := by decide +kernel
theorem dX10_init_110 : decode cX10_init 110 = .ok (.aload_n 0, 1) := by decide +kernel
theorem dX10_init_111 : decode cX10_init 111 = .ok (.sipush 160, 3) := by decide +kernel
theorem dX10_init_114 : decode cX10_init 114 = .ok (.newarray .int, 2) := by decide +kernel
theorem dX10_init_116 : decode cX10_init 116 = .ok (.putfield 43, 3) := by decide +kernel
theorem dX10_init_119 : decode cX10_init 119 = .ok (.aload_n 0, 1) := by decide +kernel
theorem dX10_init_120 : decode cX10_init 120 = .ok (.bipush 12, 2) := by decide +kernel
theorem dX10_init_122 : decode cX10_init 122 = .ok (.newarray .int, 2) := by decide +kernel
theorem dX10_init_124 : decode cX10_init 124 = .ok (.putfield 46, 3) := by decide +kernel
theorem dX10_init_127 : decode cX10_init 127 = .ok (.aload_n 0, 1) := by decide +kernel
theorem dX10_init_128 : decode cX10_init 128 = .ok (.sipush 144, 3) := by decide +kernel
theorem dX10_init_131 : decode cX10_init 131 = .ok (.newarray .int, 2) := by decide +kernel
theorem dX10_init_133 : decode cX10_init 133 = .ok (.putfield 49, 3) := by decide +kernel
theorem dX10_init_136 : decode cX10_init 136 = .ok (.aload_n 0, 1) := by decide +kernel
theorem dX10_init_137 : decode cX10_init 137 = .ok (.sipush 144, 3) := by decide +kernel
theorem dX10_init_140 : decode cX10_init 140 = .ok (.newarray .int, 2) := by decide +kernel
theorem dX10_init_142 : decode cX10_init 142 = .ok (.putfield 52, 3) := by decide +kernel
theorem dX10_init_145 : decode cX10_init 145 = .ok (.aload_n 0, 1) := by decide +kernel
theorem dX10_init_146 : decode cX10_init 146 = .ok (.sipush 144, 3) := by decide +kernel
theorem dX10_init_149 : decode cX10_init 149 = .ok (.newarray .int, 2) := by decide +kernel
theorem dX10_init_151 : decode cX10_init 151 = .ok (.putfield 55, 3) := by decide +kernel
theorem dX10_init_154 : decode cX10_init 154 = .ok (.aload_n 0, 1) := by decide +kernel
theorem dX10_init_155 : decode cX10_init 155 = .ok (.sipush 144, 3) := by decide +kernel
theorem dX10_init_158 : decode cX10_init 158 = .ok (.newarray .int, 2) := by decide +kernel
theorem dX10_init_160 : decode cX10_init 160 = .ok (.putfield 58, 3) := by decide +kernel
theorem dX10_init_163 : decode cX10_init 163 = .ok (.aload_n 0, 1) := by decide +kernel
theorem dX10_init_164 : decode cX10_init 164 = .ok (.bipush 12, 2) := by decide +kernel
theorem dX10_init_166 : decode cX10_init 166 = .ok (.newarray .int, 2) := by decide +kernel
theorem dX10_init_168 : decode cX10_init 168 = .ok (.putfield 61, 3) := by decide +kernel
theorem dX10_init_171 : decode cX10_init 171 = .ok (.aload_n 0, 1) := by decide +kernel
theorem dX10_init_172 : decode cX10_init 172 = .ok (.bipush 6, 2) := by decide +kernel
theorem dX10_init_174 : decode cX10_init 174 = .ok (.newarray .int, 2) := by decide +kernel
theorem dX10_init_176 : decode cX10_init 176 = .ok (.putfield 64, 3) := by decide +kernel
theorem dX10_init_179 : decode cX10_init 179 = .ok (.aload_n 0, 1) := by decide +kernel
theorem dX10_init_180 : decode cX10_init 180 = .ok (.bipush 6, 2) := by decide +kernel
theorem dX10_init_182 : decode cX10_init 182 = .ok (.newarray .int, 2) := by decide +kernel
theorem dX10_init_184 : decode cX10_init 184 = .ok (.putfield 67, 3) := by decide +kernel
theorem dX10_init_187 : decode cX10_init 187 = .ok (.return_, 1) := by decide +kernel
theorem dX10_no_0 : decode cX10_no 0 = .ok (.aload_n 0, 1) := by decide +kernel
theorem dX10_no_1 : decode cX10_no 1 = .ok (.getfield 7, 3) := by decide +kernel
theorem dX10_no_4 : decode cX10_no 4 = .ok (.iload_n 1, 1) := by decide +kernel
theorem dX10_no_5 : decode cX10_no 5 = .ok (.ineg, 1) := by decide +kernel
theorem dX10_no_6 : decode cX10_no 6 = .ok (.dup2, 1) := by decide +kernel
theorem dX10_no_7 : decode cX10_no 7 = .ok (.iaload, 1) := by decide +kernel
theorem dX10_no_8 : decode cX10_no 8 = .ok (.iconst 1, 1) := by decide +kernel
theorem dX10_no_9 : decode cX10_no 9 = .ok (.iadd, 1) := by decide +kernel
theorem dX10_no_10 : decode cX10_no 10 = .ok (.iastore, 1) := by decide +kernel
theorem dX10_no_11 : decode cX10_no 11 = .ok (.iload_n 1, 1) := by decide +kernel
theorem dX10_no_12 : decode cX10_no 12 = .ok (.ireturn, 1) := by decide +kernel
theorem dX10_lowest_0 : decode cX10_lowest 0 = .ok (.aload_n 0, 1) := by decide +kernel
theorem dX10_lowest_1 : decode cX10_lowest 1 = .ok (.getfield 7, 3) := by decide +kernel
theorem dX10_lowest_4 : decode cX10_lowest 4 = .ok (.iload_n 1, 1) := by decide +kernel
theorem dX10_lowest_5 : decode cX10_lowest 5 = .ok (.ineg, 1) := by decide +kernel
theorem dX10_lowest_6 : decode cX10_lowest 6 = .ok (.dup2, 1) := by decide +kernel
theorem dX10_lowest_7 : decode cX10_lowest 7 = .ok (.iaload, 1) := by decide +kernel
theorem dX10_lowest_8 : decode cX10_lowest 8 = .ok (.iconst 1, 1) := by decide +kernel
theorem dX10_lowest_9 : decode cX10_lowest 9 = .ok (.iadd, 1) := by decide +kernel
theorem dX10_lowest_10 : decode cX10_lowest 10 = .ok (.iastore, 1) := by decide +kernel
theorem dX10_lowest_11 : decode cX10_lowest 11 = .ok (.ldc2_w 70, 3) := by decide +kernel
theorem dX10_lowest_14 : decode cX10_lowest 14 = .ok (.iload_n 1, 1) := by decide +kernel
theorem dX10_lowest_15 : decode cX10_lowest 15 = .ok (.i2l, 1) := by decide +kernel
theorem dX10_lowest_16 : decode cX10_lowest 16 = .ok (.lsub, 1) := by decide +kernel
theorem dX10_lowest_17 : decode cX10_lowest 17 = .ok (.lreturn, 1) := by decide +kernel
theorem dX10_isIn_0 : decode cX10_isIn 0 = .ok (.iload_n 0, 1) := by decide +kernel
theorem dX10_isIn_1 : decode cX10_isIn 1 = .ok (.iload_n 1, 1) := by decide +kernel
theorem dX10_isIn_2 : decode cX10_isIn 2 = .ok (.if_icmp .lt 12, 3) := by decide +kernel
theorem dX10_isIn_5 : decode cX10_isIn 5 = .ok (.iload_n 0, 1) := by decide +kernel
theorem dX10_isIn_6 : decode cX10_isIn 6 = .ok (.iload_n 2, 1) := by decide +kernel
theorem dX10_isIn_7 : decode cX10_isIn 7 = .ok (.if_icmp .gt 7, 3) := by decide +kernel
theorem dX10_isIn_10 : decode cX10_isIn 10 = .ok (.iconst 1, 1) := by decide +kernel
theorem dX10_isIn_11 : decode cX10_isIn 11 = .ok (.goto 4, 3) := by decide +kernel
theorem dX10_isIn_14 : decode cX10_isIn 14 = .ok (.iconst 0, 1) := by decide +kernel
theorem dX10_isIn_15 : decode cX10_isIn 15 = .ok (.ireturn, 1) := by decide +kernel
theorem dX10_bound_0 : decode cX10_bound 0 = .ok (.iload_n 0, 1) := by decide +kernel
theorem dX10_bound_1 : decode cX10_bound 1 = .ok (.iload_n 1, 1) := by decide +kernel
theorem dX10_bound_2 : decode cX10_bound 2 = .ok (.if_icmp .ge 8, 3) := by decide +kernel
theorem dX10_bound_5 : decode cX10_bound 5 = .ok (.bipush (-4), 2) := by decide +kernel
theorem dX10_bound_7 : decode cX10_bound 7 = .ok (.goto 14, 3) := by decide +kernel
theorem dX10_bound_10 : decode cX10_bound 10 = .ok (.iload_n 0, 1) := by decide +kernel
theorem dX10_bound_11 : decode cX10_bound 11 = .ok (.iload_n 2, 1) := by decide +kernel
theorem dX10_bound_12 : decode cX10_bound 12 = .ok (.if_icmp .le 8, 3) := by decide +kernel
theorem dX10_bound_15 : decode cX10_bound 15 = .ok (.bipush (-6), 2) := by decide +kernel
theorem dX10_bound_17 : decode cX10_bound 17 = .ok (.goto 4, 3) := by decide +kernel
theorem dX10_bound_20 : decode cX10_bound 20 = .ok (.iconst 0, 1) := by decide +kernel
theorem dX10_bound_21 : decode cX10_bound 21 = .ok (.ireturn, 1) := by decide +kernel
theorem dX10_isLamp_0 : decode cX10_isLamp 0 = .ok (.iload_n 1, 1) := by decide +kernel
theorem dX10_isLamp_1 : decode cX10_isLamp 1 = .ok (.ifCond .lt 15, 3) := by decide +kernel
theorem dX10_isLamp_4 : decode cX10_isLamp 4 = .ok (.iload_n 1, 1) := by decide +kernel
theorem dX10_isLamp_5 : decode cX10_isLamp 5 = .ok (.aload_n 0, 1) := by decide +kernel
theorem dX10_isLamp_6 : decode cX10_isLamp 6 = .ok (.getfield 72, 3) := by decide +kernel
theorem dX10_isLamp_9 : decode cX10_isLamp 9 = .ok (.if_icmp .ge 7, 3) := by decide +kernel
theorem dX10_isLamp_12 : decode cX10_isLamp 12 = .ok (.iconst 1, 1) := by decide +kernel
theorem dX10_isLamp_13 : decode cX10_isLamp 13 = .ok (.goto 4, 3) := by decide +kernel
theorem dX10_isLamp_16 : decode cX10_isLamp 16 = .ok (.iconst 0, 1) := by decide +kernel
theorem dX10_isLamp_17 : decode cX10_isLamp 17 = .ok (.ireturn, 1) := by decide +kernel
theorem dX10_least_0 : decode cX10_least 0 = .ok (.iload_n 0, 1) := by decide +kernel
theorem dX10_least_1 : decode cX10_least 1 = .ok (.iload_n 1, 1) := by decide +kernel
theorem dX10_least_2 : decode cX10_least 2 = .ok (.if_icmp .ge 7, 3) := by decide +kernel
theorem dX10_least_5 : decode cX10_least 5 = .ok (.iload_n 0, 1) := by decide +kernel
theorem dX10_least_6 : decode cX10_least 6 = .ok (.goto 4, 3) := by decide +kernel
theorem dX10_least_9 : decode cX10_least 9 = .ok (.iload_n 1, 1) := by decide +kernel
theorem dX10_least_10 : decode cX10_least 10 = .ok (.ireturn, 1) := by decide +kernel
theorem dX10_feed_0 : decode cX10_feed 0 = .ok (.iload_n 1, 1) := by decide +kernel
theorem dX10_feed_1 : decode cX10_feed 1 = .ok (.iconst 0, 1) := by decide +kernel
theorem dX10_feed_2 : decode cX10_feed 2 = .ok (.sipush 255, 3) := by decide +kernel
theorem dX10_feed_5 : decode cX10_feed 5 = .ok (.invokestatic 76, 3) := by decide +kernel
theorem dX10_feed_8 : decode cX10_feed 8 = .ok (.istore_n 2, 1) := by decide +kernel
theorem dX10_feed_9 : decode cX10_feed 9 = .ok (.iload_n 2, 1) := by decide +kernel
theorem dX10_feed_10 : decode cX10_feed 10 = .ok (.ifCond .ne 15, 3) := by decide +kernel
theorem dX10_feed_13 : decode cX10_feed 13 = .ok (.aload_n 0, 1) := by decide +kernel
theorem dX10_feed_14 : decode cX10_feed 14 = .ok (.getfield 80, 3) := by decide +kernel
theorem dX10_feed_17 : decode cX10_feed 17 = .ok (.bipush 64, 2) := by decide +kernel
theorem dX10_feed_19 : decode cX10_feed 19 = .ok (.if_icmp .ne 6, 3) := by decide +kernel
theorem dX10_feed_22 : decode cX10_feed 22 = .ok (.bipush (-6), 2) := by decide +kernel
theorem dX10_feed_24 : decode cX10_feed 24 = .ok (.istore_n 2, 1) := by decide +kernel
theorem dX10_feed_25 : decode cX10_feed 25 = .ok (.iload_n 2, 1) := by decide +kernel
theorem dX10_feed_26 : decode cX10_feed 26 = .ok (.ifCond .eq 9, 3) := by decide +kernel
theorem dX10_feed_29 : decode cX10_feed 29 = .ok (.aload_n 0, 1) := by decide +kernel
theorem dX10_feed_30 : decode cX10_feed 30 = .ok (.iload_n 2, 1) := by decide +kernel
theorem dX10_feed_31 : decode cX10_feed 31 = .ok (.invokevirtual 83, 3) := by decide +kernel
theorem dX10_feed_34 : decode cX10_feed 34 = .ok (.ireturn, 1) := by decide +kernel
theorem dX10_feed_35 : decode cX10_feed 35 = .ok (.aload_n 0, 1) := by decide +kernel
theorem dX10_feed_36 : decode cX10_feed 36 = .ok (.getfield 31, 3) := by decide +kernel
theorem dX10_feed_39 : decode cX10_feed 39 = .ok (.aload_n 0, 1) := by decide +kernel
theorem dX10_feed_40 : decode cX10_feed 40 = .ok (.getfield 80, 3) := by decide +kernel
theorem dX10_feed_43 : decode cX10_feed 43 = .ok (.iload_n 1, 1) := by decide +kernel
theorem dX10_feed_44 : decode cX10_feed 44 = .ok (.iastore, 1) := by decide +kernel
theorem dX10_feed_45 : decode cX10_feed 45 = .ok (.aload_n 0, 1) := by decide +kernel
theorem dX10_feed_46 : decode cX10_feed 46 = .ok (.dup, 1) := by decide +kernel
theorem dX10_feed_47 : decode cX10_feed 47 = .ok (.getfield 80, 3) := by decide +kernel
theorem dX10_feed_50 : decode cX10_feed 50 = .ok (.iconst 1, 1) := by decide +kernel
theorem dX10_feed_51 : decode cX10_feed 51 = .ok (.iadd, 1) := by decide +kernel
theorem dX10_feed_52 : decode cX10_feed 52 = .ok (.putfield 80, 3) := by decide +kernel
theorem dX10_feed_55 : decode cX10_feed 55 = .ok (.aload_n 0, 1) := by decide +kernel
theorem dX10_feed_56 : decode cX10_feed 56 = .ok (.getfield 80, 3) := by decide +kernel
theorem dX10_feed_59 : decode cX10_feed 59 = .ok (.ireturn, 1) := by decide +kernel
theorem dX10_nextLetter_0 : decode cX10_nextLetter 0 = .ok (.aload_n 0, 1) := by decide +kernel
theorem dX10_nextLetter_1 : decode cX10_nextLetter 1 = .ok (.getfield 87, 3) := by decide +kernel
theorem dX10_nextLetter_4 : decode cX10_nextLetter 4 = .ok (.aload_n 0, 1) := by decide +kernel
theorem dX10_nextLetter_5 : decode cX10_nextLetter 5 = .ok (.getfield 80, 3) := by decide +kernel
theorem dX10_nextLetter_8 : decode cX10_nextLetter 8 = .ok (.if_icmp .ge 15, 3) := by decide +kernel
theorem dX10_nextLetter_11 : decode cX10_nextLetter 11 = .ok (.aload_n 0, 1) := by decide +kernel
theorem dX10_nextLetter_12 : decode cX10_nextLetter 12 = .ok (.getfield 31, 3) := by decide +kernel
theorem dX10_nextLetter_15 : decode cX10_nextLetter 15 = .ok (.aload_n 0, 1) := by decide +kernel
theorem dX10_nextLetter_16 : decode cX10_nextLetter 16 = .ok (.getfield 87, 3) := by decide +kernel
theorem dX10_nextLetter_19 : decode cX10_nextLetter 19 = .ok (.iaload, 1) := by decide +kernel
theorem dX10_nextLetter_20 : decode cX10_nextLetter 20 = .ok (.goto 4, 3) := by decide +kernel
theorem dX10_nextLetter_23 : decode cX10_nextLetter 23 = .ok (.iconst (-1), 1) := by decide +kernel
theorem dX10_nextLetter_24 : decode cX10_nextLetter 24 = .ok (.ireturn, 1) := by decide +kernel
theorem dX10_isNext_0 : decode cX10_isNext 0 = .ok (.aload_n 0, 1) := by decide +kernel
theorem dX10_isNext_1 : decode cX10_isNext 1 = .ok (.invokevirtual 90, 3) := by decide +kernel
theorem dX10_isNext_4 : decode cX10_isNext 4 = .ok (.iload_n 1, 1) := by decide +kernel
theorem dX10_isNext_5 : decode cX10_isNext 5 = .ok (.if_icmp .eq 5, 3) := by decide +kernel
theorem dX10_isNext_8 : decode cX10_isNext 8 = .ok (.iconst 0, 1) := by decide +kernel
theorem dX10_isNext_9 : decode cX10_isNext 9 = .ok (.ireturn, 1) := by decide +kernel
theorem dX10_isNext_10 : decode cX10_isNext 10 = .ok (.aload_n 0, 1) := by decide +kernel
theorem dX10_isNext_11 : decode cX10_isNext 11 = .ok (.dup, 1) := by decide +kernel
theorem dX10_isNext_12 : decode cX10_isNext 12 = .ok (.getfield 87, 3) := by decide +kernel
theorem dX10_isNext_15 : decode cX10_isNext 15 = .ok (.iconst 1, 1) := by decide +kernel
theorem dX10_isNext_16 : decode cX10_isNext 16 = .ok (.iadd, 1) := by decide +kernel
theorem dX10_isNext_17 : decode cX10_isNext 17 = .ok (.putfield 87, 3) := by decide +kernel
theorem dX10_isNext_20 : decode cX10_isNext 20 = .ok (.iconst 1, 1) := by decide +kernel
theorem dX10_isNext_21 : decode cX10_isNext 21 = .ok (.ireturn, 1) := by decide +kernel
theorem dX10_reads_0 : decode cX10_reads 0 = .ok (.aload_n 0, 1) := by decide +kernel
theorem dX10_reads_1 : decode cX10_reads 1 = .ok (.invokevirtual 90, 3) := by decide +kernel
theorem dX10_reads_4 : decode cX10_reads 4 = .ok (.bipush 48, 2) := by decide +kernel
theorem dX10_reads_6 : decode cX10_reads 6 = .ok (.bipush 57, 2) := by decide +kernel
theorem dX10_reads_8 : decode cX10_reads 8 = .ok (.invokestatic 94, 3) := by decide +kernel
theorem dX10_reads_11 : decode cX10_reads 11 = .ok (.ifCond .ne 5, 3) := by decide +kernel
theorem dX10_reads_14 : decode cX10_reads 14 = .ok (.iconst 0, 1) := by decide +kernel
theorem dX10_reads_15 : decode cX10_reads 15 = .ok (.ireturn, 1) := by decide +kernel
theorem dX10_reads_16 : decode cX10_reads 16 = .ok (.iconst 0, 1) := by decide +kernel
theorem dX10_reads_17 : decode cX10_reads 17 = .ok (.istore_n 3, 1) := by decide +kernel
theorem dX10_reads_18 : decode cX10_reads 18 = .ok (.iconst 0, 1) := by decide +kernel
theorem dX10_reads_19 : decode cX10_reads 19 = .ok (.istore 4, 2) := by decide +kernel
theorem dX10_reads_21 : decode cX10_reads 21 = .ok (.iload 4, 2) := by decide +kernel
theorem dX10_reads_23 : decode cX10_reads 23 = .ok (.iload_n 2, 1) := by decide +kernel
theorem dX10_reads_24 : decode cX10_reads 24 = .ok (.if_icmp .ge 46, 3) := by decide +kernel
theorem dX10_reads_27 : decode cX10_reads 27 = .ok (.aload_n 0, 1) := by decide +kernel
theorem dX10_reads_28 : decode cX10_reads 28 = .ok (.invokevirtual 90, 3) := by decide +kernel
theorem dX10_reads_31 : decode cX10_reads 31 = .ok (.bipush 48, 2) := by decide +kernel
theorem dX10_reads_33 : decode cX10_reads 33 = .ok (.bipush 57, 2) := by decide +kernel
theorem dX10_reads_35 : decode cX10_reads 35 = .ok (.invokestatic 94, 3) := by decide +kernel
theorem dX10_reads_38 : decode cX10_reads 38 = .ok (.ifCond .eq 32, 3) := by decide +kernel
theorem dX10_reads_41 : decode cX10_reads 41 = .ok (.bipush 10, 2) := by decide +kernel
theorem dX10_reads_43 : decode cX10_reads 43 = .ok (.iload_n 3, 1) := by decide +kernel
theorem dX10_reads_44 : decode cX10_reads 44 = .ok (.imul, 1) := by decide +kernel
theorem dX10_reads_45 : decode cX10_reads 45 = .ok (.aload_n 0, 1) := by decide +kernel
theorem dX10_reads_46 : decode cX10_reads 46 = .ok (.invokevirtual 90, 3) := by decide +kernel
theorem dX10_reads_49 : decode cX10_reads 49 = .ok (.iadd, 1) := by decide +kernel
theorem dX10_reads_50 : decode cX10_reads 50 = .ok (.bipush 48, 2) := by decide +kernel
theorem dX10_reads_52 : decode cX10_reads 52 = .ok (.isub, 1) := by decide +kernel
theorem dX10_reads_53 : decode cX10_reads 53 = .ok (.istore_n 3, 1) := by decide +kernel
theorem dX10_reads_54 : decode cX10_reads 54 = .ok (.aload_n 0, 1) := by decide +kernel
theorem dX10_reads_55 : decode cX10_reads 55 = .ok (.dup, 1) := by decide +kernel
theorem dX10_reads_56 : decode cX10_reads 56 = .ok (.getfield 87, 3) := by decide +kernel
theorem dX10_reads_59 : decode cX10_reads 59 = .ok (.iconst 1, 1) := by decide +kernel
theorem dX10_reads_60 : decode cX10_reads 60 = .ok (.iadd, 1) := by decide +kernel
theorem dX10_reads_61 : decode cX10_reads 61 = .ok (.putfield 87, 3) := by decide +kernel
theorem dX10_reads_64 : decode cX10_reads 64 = .ok (.iinc 4 1, 3) := by decide +kernel
theorem dX10_reads_67 : decode cX10_reads 67 = .ok (.goto (-46), 3) := by decide +kernel
theorem dX10_reads_70 : decode cX10_reads 70 = .ok (.aload_n 0, 1) := by decide +kernel
theorem dX10_reads_71 : decode cX10_reads 71 = .ok (.getfield 40, 3) := by decide +kernel
theorem dX10_reads_74 : decode cX10_reads 74 = .ok (.iload_n 1, 1) := by decide +kernel
theorem dX10_reads_75 : decode cX10_reads 75 = .ok (.iload_n 3, 1) := by decide +kernel
theorem dX10_reads_76 : decode cX10_reads 76 = .ok (.iastore, 1) := by decide +kernel
theorem dX10_reads_77 : decode cX10_reads 77 = .ok (.iconst 1, 1) := by decide +kernel
theorem dX10_reads_78 : decode cX10_reads 78 = .ok (.ireturn, 1) := by decide +kernel
theorem dX10_statement_0 : decode cX10_statement 0 = .ok (.aload_n 0, 1) := by decide +kernel
theorem dX10_statement_1 : decode cX10_statement 1 = .ok (.invokevirtual 90, 3) := by decide +kernel
theorem dX10_statement_4 : decode cX10_statement 4 = .ok (.istore_n 1, 1) := by decide +kernel
theorem dX10_statement_5 : decode cX10_statement 5 = .ok (.iload_n 1, 1) := by decide +kernel
theorem dX10_statement_6 : decode cX10_statement 6 = .ok (.bipush 112, 2) := by decide +kernel
theorem dX10_statement_8 : decode cX10_statement 8 = .ok (.if_icmp .eq 23, 3) := by decide +kernel
theorem dX10_statement_11 : decode cX10_statement 11 = .ok (.iload_n 1, 1) := by decide +kernel
theorem dX10_statement_12 : decode cX10_statement 12 = .ok (.bipush 117, 2) := by decide +kernel
theorem dX10_statement_14 : decode cX10_statement 14 = .ok (.if_icmp .eq 17, 3) := by decide +kernel
theorem dX10_statement_17 : decode cX10_statement 17 = .ok (.iload_n 1, 1) := by decide +kernel
theorem dX10_statement_18 : decode cX10_statement 18 = .ok (.bipush 100, 2) := by decide +kernel
theorem dX10_statement_20 : decode cX10_statement 20 = .ok (.if_icmp .eq 11, 3) := by decide +kernel
theorem dX10_statement_23 : decode cX10_statement 23 = .ok (.iload_n 1, 1) := by decide +kernel
theorem dX10_statement_24 : decode cX10_statement 24 = .ok (.bipush 103, 2) := by decide +kernel
theorem dX10_statement_26 : decode cX10_statement 26 = .ok (.if_icmp .eq 5, 3) := by decide +kernel
theorem dX10_statement_29 : decode cX10_statement 29 = .ok (.iconst 0, 1) := by decide +kernel
theorem dX10_statement_30 : decode cX10_statement 30 = .ok (.ireturn, 1) := by decide +kernel
theorem dX10_statement_31 : decode cX10_statement 31 = .ok (.aload_n 0, 1) := by decide +kernel
theorem dX10_statement_32 : decode cX10_statement 32 = .ok (.getfield 34, 3) := by decide +kernel
theorem dX10_statement_35 : decode cX10_statement 35 = .ok (.aload_n 0, 1) := by decide +kernel
theorem dX10_statement_36 : decode cX10_statement 36 = .ok (.getfield 98, 3) := by decide +kernel
theorem dX10_statement_39 : decode cX10_statement 39 = .ok (.iload_n 1, 1) := by decide +kernel
theorem dX10_statement_40 : decode cX10_statement 40 = .ok (.iastore, 1) := by decide +kernel
theorem dX10_statement_41 : decode cX10_statement 41 = .ok (.aload_n 0, 1) := by decide +kernel
theorem dX10_statement_42 : decode cX10_statement 42 = .ok (.getfield 37, 3) := by decide +kernel
theorem dX10_statement_45 : decode cX10_statement 45 = .ok (.aload_n 0, 1) := by decide +kernel
theorem dX10_statement_46 : decode cX10_statement 46 = .ok (.getfield 98, 3) := by decide +kernel
theorem dX10_statement_49 : decode cX10_statement 49 = .ok (.aload_n 0, 1) := by decide +kernel
theorem dX10_statement_50 : decode cX10_statement 50 = .ok (.getfield 87, 3) := by decide +kernel
theorem dX10_statement_53 : decode cX10_statement 53 = .ok (.iastore, 1) := by decide +kernel
theorem dX10_statement_54 : decode cX10_statement 54 = .ok (.aload_n 0, 1) := by decide +kernel
theorem dX10_statement_55 : decode cX10_statement 55 = .ok (.dup, 1) := by decide +kernel
theorem dX10_statement_56 : decode cX10_statement 56 = .ok (.getfield 87, 3) := by decide +kernel
theorem dX10_statement_59 : decode cX10_statement 59 = .ok (.iconst 1, 1) := by decide +kernel
theorem dX10_statement_60 : decode cX10_statement 60 = .ok (.iadd, 1) := by decide +kernel
theorem dX10_statement_61 : decode cX10_statement 61 = .ok (.putfield 87, 3) := by decide +kernel
theorem dX10_statement_64 : decode cX10_statement 64 = .ok (.iconst 3, 1) := by decide +kernel
theorem dX10_statement_65 : decode cX10_statement 65 = .ok (.aload_n 0, 1) := by decide +kernel
theorem dX10_statement_66 : decode cX10_statement 66 = .ok (.getfield 98, 3) := by decide +kernel
theorem dX10_statement_69 : decode cX10_statement 69 = .ok (.imul, 1) := by decide +kernel
theorem dX10_statement_70 : decode cX10_statement 70 = .ok (.istore_n 2, 1) := by decide +kernel
theorem dX10_statement_71 : decode cX10_statement 71 = .ok (.iload_n 1, 1) := by decide +kernel
theorem dX10_statement_72 : decode cX10_statement 72 = .ok (.bipush 117, 2) := by decide +kernel
theorem dX10_statement_74 : decode cX10_statement 74 = .ok (.if_icmp .ne 27, 3) := by decide +kernel
theorem dX10_statement_77 : decode cX10_statement 77 = .ok (.aload_n 0, 1) := by decide +kernel
theorem dX10_statement_78 : decode cX10_statement 78 = .ok (.iload_n 2, 1) := by decide +kernel
theorem dX10_statement_79 : decode cX10_statement 79 = .ok (.iconst 3, 1) := by decide +kernel
theorem dX10_statement_80 : decode cX10_statement 80 = .ok (.invokevirtual 101, 3) := by decide +kernel
theorem dX10_statement_83 : decode cX10_statement 83 = .ok (.ifCond .eq 16, 3) := by decide +kernel
theorem dX10_statement_86 : decode cX10_statement 86 = .ok (.aload_n 0, 1) := by decide +kernel
theorem dX10_statement_87 : decode cX10_statement 87 = .ok (.bipush 59, 2) := by decide +kernel
theorem dX10_statement_89 : decode cX10_statement 89 = .ok (.invokevirtual 105, 3) := by decide +kernel
theorem dX10_statement_92 : decode cX10_statement 92 = .ok (.ifCond .eq 7, 3) := by decide +kernel
theorem dX10_statement_95 : decode cX10_statement 95 = .ok (.iconst 1, 1) := by decide +kernel
theorem dX10_statement_96 : decode cX10_statement 96 = .ok (.goto 4, 3) := by decide +kernel
theorem dX10_statement_99 : decode cX10_statement 99 = .ok (.iconst 0, 1) := by decide +kernel
theorem dX10_statement_100 : decode cX10_statement 100 = .ok (.ireturn, 1) := by decide +kernel
theorem dX10_statement_101 : decode cX10_statement 101 = .ok (.iload_n 1, 1) := by decide +kernel
theorem dX10_statement_102 : decode cX10_statement 102 = .ok (.bipush 103, 2) := by decide +kernel
theorem dX10_statement_104 : decode cX10_statement 104 = .ok (.if_icmp .ne 27, 3) := by decide +kernel
theorem dX10_statement_107 : decode cX10_statement 107 = .ok (.aload_n 0, 1) := by decide +kernel
theorem dX10_statement_108 : decode cX10_statement 108 = .ok (.iload_n 2, 1) := by decide +kernel
theorem dX10_statement_109 : decode cX10_statement 109 = .ok (.iconst 1, 1) := by decide +kernel
theorem dX10_statement_110 : decode cX10_statement 110 = .ok (.invokevirtual 101, 3) := by decide +kernel
theorem dX10_statement_113 : decode cX10_statement 113 = .ok (.ifCond .eq 16, 3) := by decide +kernel
theorem dX10_statement_116 : decode cX10_statement 116 = .ok (.aload_n 0, 1) := by decide +kernel
theorem dX10_statement_117 : decode cX10_statement 117 = .ok (.bipush 59, 2) := by decide +kernel
theorem dX10_statement_119 : decode cX10_statement 119 = .ok (.invokevirtual 105, 3) := by decide +kernel
theorem dX10_statement_122 : decode cX10_statement 122 = .ok (.ifCond .eq 7, 3) := by decide +kernel
theorem dX10_statement_125 : decode cX10_statement 125 = .ok (.iconst 1, 1) := by decide +kernel
theorem dX10_statement_126 : decode cX10_statement 126 = .ok (.goto 4, 3) := by decide +kernel
theorem dX10_statement_129 : decode cX10_statement 129 = .ok (.iconst 0, 1) := by decide +kernel
theorem dX10_statement_130 : decode cX10_statement 130 = .ok (.ireturn, 1) := by decide +kernel
theorem dX10_statement_131 : decode cX10_statement 131 = .ok (.iload_n 1, 1) := by decide +kernel
theorem dX10_statement_132 : decode cX10_statement 132 = .ok (.bipush 100, 2) := by decide +kernel
theorem dX10_statement_134 : decode cX10_statement 134 = .ok (.if_icmp .ne 47, 3) := by decide +kernel
theorem dX10_statement_137 : decode cX10_statement 137 = .ok (.aload_n 0, 1) := by decide +kernel
theorem dX10_statement_138 : decode cX10_statement 138 = .ok (.iload_n 2, 1) := by decide +kernel
theorem dX10_statement_139 : decode cX10_statement 139 = .ok (.iconst 2, 1) := by decide +kernel
theorem dX10_statement_140 : decode cX10_statement 140 = .ok (.invokevirtual 101, 3) := by decide +kernel
theorem dX10_statement_143 : decode cX10_statement 143 = .ok (.ifCond .eq 36, 3) := by decide +kernel
theorem dX10_statement_146 : decode cX10_statement 146 = .ok (.aload_n 0, 1) := by decide +kernel
theorem dX10_statement_147 : decode cX10_statement 147 = .ok (.bipush 44, 2) := by decide +kernel
theorem dX10_statement_149 : decode cX10_statement 149 = .ok (.invokevirtual 105, 3) := by decide +kernel
theorem dX10_statement_152 : decode cX10_statement 152 = .ok (.ifCond .eq 27, 3) := by decide +kernel
theorem dX10_statement_155 : decode cX10_statement 155 = .ok (.aload_n 0, 1) := by decide +kernel
theorem dX10_statement_156 : decode cX10_statement 156 = .ok (.iload_n 2, 1) := by decide +kernel
theorem dX10_statement_157 : decode cX10_statement 157 = .ok (.iconst 1, 1) := by decide +kernel
theorem dX10_statement_158 : decode cX10_statement 158 = .ok (.iadd, 1) := by decide +kernel
theorem dX10_statement_159 : decode cX10_statement 159 = .ok (.iconst 1, 1) := by decide +kernel
theorem dX10_statement_160 : decode cX10_statement 160 = .ok (.invokevirtual 101, 3) := by decide +kernel
theorem dX10_statement_163 : decode cX10_statement 163 = .ok (.ifCond .eq 16, 3) := by decide +kernel
theorem dX10_statement_166 : decode cX10_statement 166 = .ok (.aload_n 0, 1) := by decide +kernel
theorem dX10_statement_167 : decode cX10_statement 167 = .ok (.bipush 59, 2) := by decide +kernel
theorem dX10_statement_169 : decode cX10_statement 169 = .ok (.invokevirtual 105, 3) := by decide +kernel
theorem dX10_statement_172 : decode cX10_statement 172 = .ok (.ifCond .eq 7, 3) := by decide +kernel
theorem dX10_statement_175 : decode cX10_statement 175 = .ok (.iconst 1, 1) := by decide +kernel
theorem dX10_statement_176 : decode cX10_statement 176 = .ok (.goto 4, 3) := by decide +kernel
theorem dX10_statement_179 : decode cX10_statement 179 = .ok (.iconst 0, 1) := by decide +kernel
theorem dX10_statement_180 : decode cX10_statement 180 = .ok (.ireturn, 1) := by decide +kernel
theorem dX10_statement_181 : decode cX10_statement 181 = .ok (.aload_n 0, 1) := by decide +kernel
theorem dX10_statement_182 : decode cX10_statement 182 = .ok (.iload_n 2, 1) := by decide +kernel
theorem dX10_statement_183 : decode cX10_statement 183 = .ok (.iconst 1, 1) := by decide +kernel
theorem dX10_statement_184 : decode cX10_statement 184 = .ok (.invokevirtual 101, 3) := by decide +kernel
theorem dX10_statement_187 : decode cX10_statement 187 = .ok (.ifCond .eq 47, 3) := by decide +kernel
theorem dX10_statement_190 : decode cX10_statement 190 = .ok (.aload_n 0, 1) := by decide +kernel
theorem dX10_statement_191 : decode cX10_statement 191 = .ok (.iload_n 2, 1) := by decide +kernel
theorem dX10_statement_192 : decode cX10_statement 192 = .ok (.iconst 1, 1) := by decide +kernel
theorem dX10_statement_193 : decode cX10_statement 193 = .ok (.iadd, 1) := by decide +kernel
theorem dX10_statement_194 : decode cX10_statement 194 = .ok (.iconst 2, 1) := by decide +kernel
theorem dX10_statement_195 : decode cX10_statement 195 = .ok (.invokevirtual 101, 3) := by decide +kernel
theorem dX10_statement_198 : decode cX10_statement 198 = .ok (.ifCond .eq 36, 3) := by decide +kernel
theorem dX10_statement_201 : decode cX10_statement 201 = .ok (.aload_n 0, 1) := by decide +kernel
theorem dX10_statement_202 : decode cX10_statement 202 = .ok (.bipush 44, 2) := by decide +kernel
theorem dX10_statement_204 : decode cX10_statement 204 = .ok (.invokevirtual 105, 3) := by decide +kernel
theorem dX10_statement_207 : decode cX10_statement 207 = .ok (.ifCond .eq 27, 3) := by decide +kernel
theorem dX10_statement_210 : decode cX10_statement 210 = .ok (.aload_n 0, 1) := by decide +kernel
theorem dX10_statement_211 : decode cX10_statement 211 = .ok (.iload_n 2, 1) := by decide +kernel
theorem dX10_statement_212 : decode cX10_statement 212 = .ok (.iconst 2, 1) := by decide +kernel
theorem dX10_statement_213 : decode cX10_statement 213 = .ok (.iadd, 1) := by decide +kernel
theorem dX10_statement_214 : decode cX10_statement 214 = .ok (.iconst 1, 1) := by decide +kernel
theorem dX10_statement_215 : decode cX10_statement 215 = .ok (.invokevirtual 101, 3) := by decide +kernel
theorem dX10_statement_218 : decode cX10_statement 218 = .ok (.ifCond .eq 16, 3) := by decide +kernel
theorem dX10_statement_221 : decode cX10_statement 221 = .ok (.aload_n 0, 1) := by decide +kernel
theorem dX10_statement_222 : decode cX10_statement 222 = .ok (.bipush 59, 2) := by decide +kernel
theorem dX10_statement_224 : decode cX10_statement 224 = .ok (.invokevirtual 105, 3) := by decide +kernel
theorem dX10_statement_227 : decode cX10_statement 227 = .ok (.ifCond .eq 7, 3) := by decide +kernel
theorem dX10_statement_230 : decode cX10_statement 230 = .ok (.iconst 1, 1) := by decide +kernel
theorem dX10_statement_231 : decode cX10_statement 231 = .ok (.goto 4, 3) := by decide +kernel
theorem dX10_statement_234 : decode cX10_statement 234 = .ok (.iconst 0, 1) := by decide +kernel
theorem dX10_statement_235 : decode cX10_statement 235 = .ok (.ireturn, 1) := by decide +kernel
theorem dX10_comesLamp_0 : decode cX10_comesLamp 0 = .ok (.aload_n 0, 1) := by decide +kernel
theorem dX10_comesLamp_1 : decode cX10_comesLamp 1 = .ok (.getfield 40, 3) := by decide +kernel
theorem dX10_comesLamp_4 : decode cX10_comesLamp 4 = .ok (.iload_n 1, 1) := by decide +kernel
theorem dX10_comesLamp_5 : decode cX10_comesLamp 5 = .ok (.iaload, 1) := by decide +kernel
theorem dX10_comesLamp_6 : decode cX10_comesLamp 6 = .ok (.iconst 5, 1) := by decide +kernel
theorem dX10_comesLamp_7 : decode cX10_comesLamp 7 = .ok (.if_icmp .gt 34, 3) := by decide +kernel
theorem dX10_comesLamp_10 : decode cX10_comesLamp 10 = .ok (.aload_n 0, 1) := by decide +kernel
theorem dX10_comesLamp_11 : decode cX10_comesLamp 11 = .ok (.getfield 40, 3) := by decide +kernel
theorem dX10_comesLamp_14 : decode cX10_comesLamp 14 = .ok (.iload_n 1, 1) := by decide +kernel
theorem dX10_comesLamp_15 : decode cX10_comesLamp 15 = .ok (.iconst 1, 1) := by decide +kernel
theorem dX10_comesLamp_16 : decode cX10_comesLamp 16 = .ok (.iadd, 1) := by decide +kernel
theorem dX10_comesLamp_17 : decode cX10_comesLamp 17 = .ok (.iaload, 1) := by decide +kernel
theorem dX10_comesLamp_18 : decode cX10_comesLamp 18 = .ok (.ifCond .eq 23, 3) := by decide +kernel
theorem dX10_comesLamp_21 : decode cX10_comesLamp 21 = .ok (.aload_n 0, 1) := by decide +kernel
theorem dX10_comesLamp_22 : decode cX10_comesLamp 22 = .ok (.getfield 40, 3) := by decide +kernel
theorem dX10_comesLamp_25 : decode cX10_comesLamp 25 = .ok (.iload_n 1, 1) := by decide +kernel
theorem dX10_comesLamp_26 : decode cX10_comesLamp 26 = .ok (.iconst 2, 1) := by decide +kernel
theorem dX10_comesLamp_27 : decode cX10_comesLamp 27 = .ok (.iadd, 1) := by decide +kernel
theorem dX10_comesLamp_28 : decode cX10_comesLamp 28 = .ok (.iaload, 1) := by decide +kernel
theorem dX10_comesLamp_29 : decode cX10_comesLamp 29 = .ok (.ifCond .eq 12, 3) := by decide +kernel
theorem dX10_comesLamp_32 : decode cX10_comesLamp 32 = .ok (.aload_n 0, 1) := by decide +kernel
theorem dX10_comesLamp_33 : decode cX10_comesLamp 33 = .ok (.getfield 72, 3) := by decide +kernel
theorem dX10_comesLamp_36 : decode cX10_comesLamp 36 = .ok (.bipush 12, 2) := by decide +kernel
theorem dX10_comesLamp_38 : decode cX10_comesLamp 38 = .ok (.if_icmp .ne 5, 3) := by decide +kernel
theorem dX10_comesLamp_41 : decode cX10_comesLamp 41 = .ok (.iconst 0, 1) := by decide +kernel
theorem dX10_comesLamp_42 : decode cX10_comesLamp 42 = .ok (.ireturn, 1) := by decide +kernel
theorem dX10_comesLamp_43 : decode cX10_comesLamp 43 = .ok (.aload_n 0, 1) := by decide +kernel
theorem dX10_comesLamp_44 : decode cX10_comesLamp 44 = .ok (.getfield 13, 3) := by decide +kernel
theorem dX10_comesLamp_47 : decode cX10_comesLamp 47 = .ok (.aload_n 0, 1) := by decide +kernel
theorem dX10_comesLamp_48 : decode cX10_comesLamp 48 = .ok (.getfield 72, 3) := by decide +kernel
theorem dX10_comesLamp_51 : decode cX10_comesLamp 51 = .ok (.aload_n 0, 1) := by decide +kernel
theorem dX10_comesLamp_52 : decode cX10_comesLamp 52 = .ok (.getfield 40, 3) := by decide +kernel
theorem dX10_comesLamp_55 : decode cX10_comesLamp 55 = .ok (.iload_n 1, 1) := by decide +kernel
theorem dX10_comesLamp_56 : decode cX10_comesLamp 56 = .ok (.iaload, 1) := by decide +kernel
theorem dX10_comesLamp_57 : decode cX10_comesLamp 57 = .ok (.iastore, 1) := by decide +kernel
theorem dX10_comesLamp_58 : decode cX10_comesLamp 58 = .ok (.aload_n 0, 1) := by decide +kernel
theorem dX10_comesLamp_59 : decode cX10_comesLamp 59 = .ok (.getfield 16, 3) := by decide +kernel
theorem dX10_comesLamp_62 : decode cX10_comesLamp 62 = .ok (.aload_n 0, 1) := by decide +kernel
theorem dX10_comesLamp_63 : decode cX10_comesLamp 63 = .ok (.getfield 72, 3) := by decide +kernel
theorem dX10_comesLamp_66 : decode cX10_comesLamp 66 = .ok (.aload_n 0, 1) := by decide +kernel
theorem dX10_comesLamp_67 : decode cX10_comesLamp 67 = .ok (.getfield 40, 3) := by decide +kernel
theorem dX10_comesLamp_70 : decode cX10_comesLamp 70 = .ok (.iload_n 1, 1) := by decide +kernel
theorem dX10_comesLamp_71 : decode cX10_comesLamp 71 = .ok (.iconst 1, 1) := by decide +kernel
theorem dX10_comesLamp_72 : decode cX10_comesLamp 72 = .ok (.iadd, 1) := by decide +kernel
theorem dX10_comesLamp_73 : decode cX10_comesLamp 73 = .ok (.iaload, 1) := by decide +kernel
theorem dX10_comesLamp_74 : decode cX10_comesLamp 74 = .ok (.iastore, 1) := by decide +kernel
theorem dX10_comesLamp_75 : decode cX10_comesLamp 75 = .ok (.aload_n 0, 1) := by decide +kernel
theorem dX10_comesLamp_76 : decode cX10_comesLamp 76 = .ok (.getfield 19, 3) := by decide +kernel
theorem dX10_comesLamp_79 : decode cX10_comesLamp 79 = .ok (.aload_n 0, 1) := by decide +kernel
theorem dX10_comesLamp_80 : decode cX10_comesLamp 80 = .ok (.getfield 72, 3) := by decide +kernel
theorem dX10_comesLamp_83 : decode cX10_comesLamp 83 = .ok (.aload_n 0, 1) := by decide +kernel
theorem dX10_comesLamp_84 : decode cX10_comesLamp 84 = .ok (.getfield 40, 3) := by decide +kernel
theorem dX10_comesLamp_87 : decode cX10_comesLamp 87 = .ok (.iload_n 1, 1) := by decide +kernel
theorem dX10_comesLamp_88 : decode cX10_comesLamp 88 = .ok (.iconst 2, 1) := by decide +kernel
theorem dX10_comesLamp_89 : decode cX10_comesLamp 89 = .ok (.iadd, 1) := by decide +kernel
theorem dX10_comesLamp_90 : decode cX10_comesLamp 90 = .ok (.iaload, 1) := by decide +kernel
theorem dX10_comesLamp_91 : decode cX10_comesLamp 91 = .ok (.iastore, 1) := by decide +kernel
theorem dX10_comesLamp_92 : decode cX10_comesLamp 92 = .ok (.aload_n 0, 1) := by decide +kernel
theorem dX10_comesLamp_93 : decode cX10_comesLamp 93 = .ok (.getfield 22, 3) := by decide +kernel
theorem dX10_comesLamp_96 : decode cX10_comesLamp 96 = .ok (.aload_n 0, 1) := by decide +kernel
theorem dX10_comesLamp_97 : decode cX10_comesLamp 97 = .ok (.getfield 72, 3) := by decide +kernel
theorem dX10_comesLamp_100 : decode cX10_comesLamp 100 = .ok (.iconst 0, 1) := by decide +kernel
theorem dX10_comesLamp_101 : decode cX10_comesLamp 101 = .ok (.iastore, 1) := by decide +kernel
theorem dX10_comesLamp_102 : decode cX10_comesLamp 102 = .ok (.aload_n 0, 1) := by decide +kernel
theorem dX10_comesLamp_103 : decode cX10_comesLamp 103 = .ok (.getfield 25, 3) := by decide +kernel
theorem dX10_comesLamp_106 : decode cX10_comesLamp 106 = .ok (.aload_n 0, 1) := by decide +kernel
theorem dX10_comesLamp_107 : decode cX10_comesLamp 107 = .ok (.getfield 72, 3) := by decide +kernel
theorem dX10_comesLamp_110 : decode cX10_comesLamp 110 = .ok (.iconst 0, 1) := by decide +kernel
theorem dX10_comesLamp_111 : decode cX10_comesLamp 111 = .ok (.iastore, 1) := by decide +kernel
theorem dX10_comesLamp_112 : decode cX10_comesLamp 112 = .ok (.aload_n 0, 1) := by decide +kernel
theorem dX10_comesLamp_113 : decode cX10_comesLamp 113 = .ok (.dup, 1) := by decide +kernel
theorem dX10_comesLamp_114 : decode cX10_comesLamp 114 = .ok (.getfield 72, 3) := by decide +kernel
theorem dX10_comesLamp_117 : decode cX10_comesLamp 117 = .ok (.iconst 1, 1) := by decide +kernel
theorem dX10_comesLamp_118 : decode cX10_comesLamp 118 = .ok (.iadd, 1) := by decide +kernel
theorem dX10_comesLamp_119 : decode cX10_comesLamp 119 = .ok (.putfield 72, 3) := by decide +kernel
theorem dX10_comesLamp_122 : decode cX10_comesLamp 122 = .ok (.iconst 1, 1) := by decide +kernel
theorem dX10_comesLamp_123 : decode cX10_comesLamp 123 = .ok (.ireturn, 1) := by decide +kernel
theorem dX10_comes_0 : decode cX10_comes 0 = .ok (.iconst 3, 1) := by decide +kernel
theorem dX10_comes_1 : decode cX10_comes 1 = .ok (.iload_n 1, 1) := by decide +kernel
theorem dX10_comes_2 : decode cX10_comes 2 = .ok (.imul, 1) := by decide +kernel
theorem dX10_comes_3 : decode cX10_comes 3 = .ok (.istore_n 2, 1) := by decide +kernel
theorem dX10_comes_4 : decode cX10_comes 4 = .ok (.aload_n 0, 1) := by decide +kernel
theorem dX10_comes_5 : decode cX10_comes 5 = .ok (.getfield 34, 3) := by decide +kernel
theorem dX10_comes_8 : decode cX10_comes 8 = .ok (.iload_n 1, 1) := by decide +kernel
theorem dX10_comes_9 : decode cX10_comes 9 = .ok (.iaload, 1) := by decide +kernel
theorem dX10_comes_10 : decode cX10_comes 10 = .ok (.lookupswitch 94 #[(103, 67), (112, 34), (117, 40)], 34) := by decide +kernel
theorem dX10_comes_44 : decode cX10_comes 44 = .ok (.aload_n 0, 1) := by decide +kernel
theorem dX10_comes_45 : decode cX10_comes 45 = .ok (.iload_n 2, 1) := by decide +kernel
theorem dX10_comes_46 : decode cX10_comes 46 = .ok (.invokevirtual 109, 3) := by decide +kernel
theorem dX10_comes_49 : decode cX10_comes 49 = .ok (.ireturn, 1) := by decide +kernel
theorem dX10_comes_50 : decode cX10_comes 50 = .ok (.aload_n 0, 1) := by decide +kernel
theorem dX10_comes_51 : decode cX10_comes 51 = .ok (.getfield 28, 3) := by decide +kernel
theorem dX10_comes_54 : decode cX10_comes 54 = .ok (.iconst 0, 1) := by decide +kernel
theorem dX10_comes_55 : decode cX10_comes 55 = .ok (.aload_n 0, 1) := by decide +kernel
theorem dX10_comes_56 : decode cX10_comes 56 = .ok (.getfield 40, 3) := by decide +kernel
theorem dX10_comes_59 : decode cX10_comes 59 = .ok (.iload_n 2, 1) := by decide +kernel
theorem dX10_comes_60 : decode cX10_comes 60 = .ok (.iaload, 1) := by decide +kernel
theorem dX10_comes_61 : decode cX10_comes 61 = .ok (.iastore, 1) := by decide +kernel
theorem dX10_comes_62 : decode cX10_comes 62 = .ok (.aload_n 0, 1) := by decide +kernel
theorem dX10_comes_63 : decode cX10_comes 63 = .ok (.getfield 40, 3) := by decide +kernel
theorem dX10_comes_66 : decode cX10_comes 66 = .ok (.iload_n 2, 1) := by decide +kernel
theorem dX10_comes_67 : decode cX10_comes 67 = .ok (.iaload, 1) := by decide +kernel
theorem dX10_comes_68 : decode cX10_comes 68 = .ok (.ifCond .le 7, 3) := by decide +kernel
theorem dX10_comes_71 : decode cX10_comes 71 = .ok (.iconst 1, 1) := by decide +kernel
theorem dX10_comes_72 : decode cX10_comes 72 = .ok (.goto 4, 3) := by decide +kernel
theorem dX10_comes_75 : decode cX10_comes 75 = .ok (.iconst 0, 1) := by decide +kernel
theorem dX10_comes_76 : decode cX10_comes 76 = .ok (.ireturn, 1) := by decide +kernel
theorem dX10_comes_77 : decode cX10_comes 77 = .ok (.aload_n 0, 1) := by decide +kernel
theorem dX10_comes_78 : decode cX10_comes 78 = .ok (.getfield 28, 3) := by decide +kernel
theorem dX10_comes_81 : decode cX10_comes 81 = .ok (.iconst 3, 1) := by decide +kernel
theorem dX10_comes_82 : decode cX10_comes 82 = .ok (.aload_n 0, 1) := by decide +kernel
theorem dX10_comes_83 : decode cX10_comes 83 = .ok (.getfield 40, 3) := by decide +kernel
theorem dX10_comes_86 : decode cX10_comes 86 = .ok (.iload_n 2, 1) := by decide +kernel
theorem dX10_comes_87 : decode cX10_comes 87 = .ok (.iaload, 1) := by decide +kernel
theorem dX10_comes_88 : decode cX10_comes 88 = .ok (.iastore, 1) := by decide +kernel
theorem dX10_comes_89 : decode cX10_comes 89 = .ok (.aload_n 0, 1) := by decide +kernel
theorem dX10_comes_90 : decode cX10_comes 90 = .ok (.getfield 40, 3) := by decide +kernel
theorem dX10_comes_93 : decode cX10_comes 93 = .ok (.iload_n 2, 1) := by decide +kernel
theorem dX10_comes_94 : decode cX10_comes 94 = .ok (.iaload, 1) := by decide +kernel
theorem dX10_comes_95 : decode cX10_comes 95 = .ok (.ifCond .le 7, 3) := by decide +kernel
theorem dX10_comes_98 : decode cX10_comes 98 = .ok (.iconst 1, 1) := by decide +kernel
theorem dX10_comes_99 : decode cX10_comes 99 = .ok (.goto 4, 3) := by decide +kernel
theorem dX10_comes_102 : decode cX10_comes 102 = .ok (.iconst 0, 1) := by decide +kernel
theorem dX10_comes_103 : decode cX10_comes 103 = .ok (.ireturn, 1) := by decide +kernel
theorem dX10_comes_104 : decode cX10_comes 104 = .ok (.aload_n 0, 1) := by decide +kernel
theorem dX10_comes_105 : decode cX10_comes 105 = .ok (.aload_n 0, 1) := by decide +kernel
theorem dX10_comes_106 : decode cX10_comes 106 = .ok (.getfield 40, 3) := by decide +kernel
theorem dX10_comes_109 : decode cX10_comes 109 = .ok (.iload_n 2, 1) := by decide +kernel
theorem dX10_comes_110 : decode cX10_comes 110 = .ok (.iaload, 1) := by decide +kernel
theorem dX10_comes_111 : decode cX10_comes 111 = .ok (.invokevirtual 112, 3) := by decide +kernel
theorem dX10_comes_114 : decode cX10_comes 114 = .ok (.ifCond .eq 15, 3) := by decide +kernel
theorem dX10_comes_117 : decode cX10_comes 117 = .ok (.aload_n 0, 1) := by decide +kernel
theorem dX10_comes_118 : decode cX10_comes 118 = .ok (.getfield 40, 3) := by decide +kernel
theorem dX10_comes_121 : decode cX10_comes 121 = .ok (.iload_n 2, 1) := by decide +kernel
theorem dX10_comes_122 : decode cX10_comes 122 = .ok (.iconst 1, 1) := by decide +kernel
theorem dX10_comes_123 : decode cX10_comes 123 = .ok (.iadd, 1) := by decide +kernel
theorem dX10_comes_124 : decode cX10_comes 124 = .ok (.iaload, 1) := by decide +kernel
theorem dX10_comes_125 : decode cX10_comes 125 = .ok (.iconst 3, 1) := by decide +kernel
theorem dX10_comes_126 : decode cX10_comes 126 = .ok (.if_icmp .le 5, 3) := by decide +kernel
theorem dX10_comes_129 : decode cX10_comes 129 = .ok (.iconst 0, 1) := by decide +kernel
theorem dX10_comes_130 : decode cX10_comes 130 = .ok (.ireturn, 1) := by decide +kernel
theorem dX10_comes_131 : decode cX10_comes 131 = .ok (.aload_n 0, 1) := by decide +kernel
theorem dX10_comes_132 : decode cX10_comes 132 = .ok (.getfield 25, 3) := by decide +kernel
theorem dX10_comes_135 : decode cX10_comes 135 = .ok (.aload_n 0, 1) := by decide +kernel
theorem dX10_comes_136 : decode cX10_comes 136 = .ok (.getfield 40, 3) := by decide +kernel
theorem dX10_comes_139 : decode cX10_comes 139 = .ok (.iload_n 2, 1) := by decide +kernel
theorem dX10_comes_140 : decode cX10_comes 140 = .ok (.iaload, 1) := by decide +kernel
theorem dX10_comes_141 : decode cX10_comes 141 = .ok (.aload_n 0, 1) := by decide +kernel
theorem dX10_comes_142 : decode cX10_comes 142 = .ok (.getfield 40, 3) := by decide +kernel
theorem dX10_comes_145 : decode cX10_comes 145 = .ok (.iload_n 2, 1) := by decide +kernel
theorem dX10_comes_146 : decode cX10_comes 146 = .ok (.iconst 1, 1) := by decide +kernel
theorem dX10_comes_147 : decode cX10_comes 147 = .ok (.iadd, 1) := by decide +kernel
theorem dX10_comes_148 : decode cX10_comes 148 = .ok (.iaload, 1) := by decide +kernel
theorem dX10_comes_149 : decode cX10_comes 149 = .ok (.iastore, 1) := by decide +kernel
theorem dX10_comes_150 : decode cX10_comes 150 = .ok (.iconst 1, 1) := by decide +kernel
theorem dX10_comes_151 : decode cX10_comes 151 = .ok (.ireturn, 1) := by decide +kernel
theorem dX10_string_0 : decode cX10_string 0 = .ok (.aload_n 0, 1) := by decide +kernel
theorem dX10_string_1 : decode cX10_string 1 = .ok (.iconst 0, 1) := by decide +kernel
theorem dX10_string_2 : decode cX10_string 2 = .ok (.putfield 87, 3) := by decide +kernel
theorem dX10_string_5 : decode cX10_string 5 = .ok (.aload_n 0, 1) := by decide +kernel
theorem dX10_string_6 : decode cX10_string 6 = .ok (.iconst 0, 1) := by decide +kernel
theorem dX10_string_7 : decode cX10_string 7 = .ok (.putfield 98, 3) := by decide +kernel
theorem dX10_string_10 : decode cX10_string 10 = .ok (.iconst 1, 1) := by decide +kernel
theorem dX10_string_11 : decode cX10_string 11 = .ok (.istore_n 1, 1) := by decide +kernel
theorem dX10_string_12 : decode cX10_string 12 = .ok (.iload_n 1, 1) := by decide +kernel
theorem dX10_string_13 : decode cX10_string 13 = .ok (.ifCond .eq 47, 3) := by decide +kernel
theorem dX10_string_16 : decode cX10_string 16 = .ok (.aload_n 0, 1) := by decide +kernel
theorem dX10_string_17 : decode cX10_string 17 = .ok (.getfield 87, 3) := by decide +kernel
theorem dX10_string_20 : decode cX10_string 20 = .ok (.aload_n 0, 1) := by decide +kernel
theorem dX10_string_21 : decode cX10_string 21 = .ok (.getfield 80, 3) := by decide +kernel
theorem dX10_string_24 : decode cX10_string 24 = .ok (.if_icmp .lt 10, 3) := by decide +kernel
theorem dX10_string_27 : decode cX10_string 27 = .ok (.aload_n 0, 1) := by decide +kernel
theorem dX10_string_28 : decode cX10_string 28 = .ok (.getfield 98, 3) := by decide +kernel
theorem dX10_string_31 : decode cX10_string 31 = .ok (.ifCond .ne 29, 3) := by decide +kernel
theorem dX10_string_34 : decode cX10_string 34 = .ok (.aload_n 0, 1) := by decide +kernel
theorem dX10_string_35 : decode cX10_string 35 = .ok (.invokevirtual 115, 3) := by decide +kernel
theorem dX10_string_38 : decode cX10_string 38 = .ok (.istore_n 1, 1) := by decide +kernel
theorem dX10_string_39 : decode cX10_string 39 = .ok (.aload_n 0, 1) := by decide +kernel
theorem dX10_string_40 : decode cX10_string 40 = .ok (.dup, 1) := by decide +kernel
theorem dX10_string_41 : decode cX10_string 41 = .ok (.getfield 98, 3) := by decide +kernel
theorem dX10_string_44 : decode cX10_string 44 = .ok (.iload_n 1, 1) := by decide +kernel
theorem dX10_string_45 : decode cX10_string 45 = .ok (.ifCond .eq 7, 3) := by decide +kernel
theorem dX10_string_48 : decode cX10_string 48 = .ok (.iconst 1, 1) := by decide +kernel
theorem dX10_string_49 : decode cX10_string 49 = .ok (.goto 4, 3) := by decide +kernel
theorem dX10_string_52 : decode cX10_string 52 = .ok (.iconst 0, 1) := by decide +kernel
theorem dX10_string_53 : decode cX10_string 53 = .ok (.iadd, 1) := by decide +kernel
theorem dX10_string_54 : decode cX10_string 54 = .ok (.putfield 98, 3) := by decide +kernel
theorem dX10_string_57 : decode cX10_string 57 = .ok (.goto (-45), 3) := by decide +kernel
theorem dX10_string_60 : decode cX10_string 60 = .ok (.aload_n 0, 1) := by decide +kernel
theorem dX10_string_61 : decode cX10_string 61 = .ok (.iconst 0, 1) := by decide +kernel
theorem dX10_string_62 : decode cX10_string 62 = .ok (.putfield 80, 3) := by decide +kernel
theorem dX10_string_65 : decode cX10_string 65 = .ok (.iload_n 1, 1) := by decide +kernel
theorem dX10_string_66 : decode cX10_string 66 = .ok (.ifCond .ne 12, 3) := by decide +kernel
theorem dX10_string_69 : decode cX10_string 69 = .ok (.sipush (-1000), 3) := by decide +kernel
theorem dX10_string_72 : decode cX10_string 72 = .ok (.aload_n 0, 1) := by decide +kernel
theorem dX10_string_73 : decode cX10_string 73 = .ok (.getfield 87, 3) := by decide +kernel
theorem dX10_string_76 : decode cX10_string 76 = .ok (.isub, 1) := by decide +kernel
theorem dX10_string_77 : decode cX10_string 77 = .ok (.ireturn, 1) := by decide +kernel
theorem dX10_string_78 : decode cX10_string 78 = .ok (.aload_n 0, 1) := by decide +kernel
theorem dX10_string_79 : decode cX10_string 79 = .ok (.iconst 1, 1) := by decide +kernel
theorem dX10_string_80 : decode cX10_string 80 = .ok (.iconst 1, 1) := by decide +kernel
theorem dX10_string_81 : decode cX10_string 81 = .ok (.invokevirtual 119, 3) := by decide +kernel
theorem dX10_string_84 : decode cX10_string 84 = .ok (.iconst 0, 1) := by decide +kernel
theorem dX10_string_85 : decode cX10_string 85 = .ok (.istore_n 2, 1) := by decide +kernel
theorem dX10_string_86 : decode cX10_string 86 = .ok (.iload_n 2, 1) := by decide +kernel
theorem dX10_string_87 : decode cX10_string 87 = .ok (.aload_n 0, 1) := by decide +kernel
theorem dX10_string_88 : decode cX10_string 88 = .ok (.getfield 98, 3) := by decide +kernel
theorem dX10_string_91 : decode cX10_string 91 = .ok (.if_icmp .ge 37, 3) := by decide +kernel
theorem dX10_string_94 : decode cX10_string 94 = .ok (.aload_n 0, 1) := by decide +kernel
theorem dX10_string_95 : decode cX10_string 95 = .ok (.iload_n 2, 1) := by decide +kernel
theorem dX10_string_96 : decode cX10_string 96 = .ok (.invokevirtual 123, 3) := by decide +kernel
theorem dX10_string_99 : decode cX10_string 99 = .ok (.ifCond .eq 6, 3) := by decide +kernel
theorem dX10_string_102 : decode cX10_string 102 = .ok (.goto 20, 3) := by decide +kernel
theorem dX10_string_105 : decode cX10_string 105 = .ok (.aload_n 0, 1) := by decide +kernel
theorem dX10_string_106 : decode cX10_string 106 = .ok (.iconst 1, 1) := by decide +kernel
theorem dX10_string_107 : decode cX10_string 107 = .ok (.iconst 0, 1) := by decide +kernel
theorem dX10_string_108 : decode cX10_string 108 = .ok (.invokevirtual 119, 3) := by decide +kernel
theorem dX10_string_111 : decode cX10_string 111 = .ok (.sipush (-2000), 3) := by decide +kernel
theorem dX10_string_114 : decode cX10_string 114 = .ok (.aload_n 0, 1) := by decide +kernel
theorem dX10_string_115 : decode cX10_string 115 = .ok (.getfield 37, 3) := by decide +kernel
theorem dX10_string_118 : decode cX10_string 118 = .ok (.iload_n 2, 1) := by decide +kernel
theorem dX10_string_119 : decode cX10_string 119 = .ok (.iaload, 1) := by decide +kernel
theorem dX10_string_120 : decode cX10_string 120 = .ok (.isub, 1) := by decide +kernel
theorem dX10_string_121 : decode cX10_string 121 = .ok (.ireturn, 1) := by decide +kernel
theorem dX10_string_122 : decode cX10_string 122 = .ok (.iinc 2 1, 3) := by decide +kernel
theorem dX10_string_125 : decode cX10_string 125 = .ok (.goto (-39), 3) := by decide +kernel
theorem dX10_string_128 : decode cX10_string 128 = .ok (.aload_n 0, 1) := by decide +kernel
theorem dX10_string_129 : decode cX10_string 129 = .ok (.getfield 98, 3) := by decide +kernel
theorem dX10_string_132 : decode cX10_string 132 = .ok (.ireturn, 1) := by decide +kernel
theorem dX10_passes_0 : decode cX10_passes 0 = .ok (.iconst 0, 1) := by decide +kernel
theorem dX10_passes_1 : decode cX10_passes 1 = .ok (.istore_n 2, 1) := by decide +kernel
theorem dX10_passes_2 : decode cX10_passes 2 = .ok (.iload_n 2, 1) := by decide +kernel
theorem dX10_passes_3 : decode cX10_passes 3 = .ok (.aload_n 1, 1) := by decide +kernel
theorem dX10_passes_4 : decode cX10_passes 4 = .ok (.arraylength, 1) := by decide +kernel
theorem dX10_passes_5 : decode cX10_passes 5 = .ok (.if_icmp .ge 53, 3) := by decide +kernel
theorem dX10_passes_8 : decode cX10_passes 8 = .ok (.aload_n 0, 1) := by decide +kernel
theorem dX10_passes_9 : decode cX10_passes 9 = .ok (.getfield 126, 3) := by decide +kernel
theorem dX10_passes_12 : decode cX10_passes 12 = .ok (.ifCond .eq 18, 3) := by decide +kernel
theorem dX10_passes_15 : decode cX10_passes 15 = .ok (.aload_n 0, 1) := by decide +kernel
theorem dX10_passes_16 : decode cX10_passes 16 = .ok (.getfield 43, 3) := by decide +kernel
theorem dX10_passes_19 : decode cX10_passes 19 = .ok (.aload_n 0, 1) := by decide +kernel
theorem dX10_passes_20 : decode cX10_passes 20 = .ok (.getfield 130, 3) := by decide +kernel
theorem dX10_passes_23 : decode cX10_passes 23 = .ok (.aload_n 1, 1) := by decide +kernel
theorem dX10_passes_24 : decode cX10_passes 24 = .ok (.iload_n 2, 1) := by decide +kernel
theorem dX10_passes_25 : decode cX10_passes 25 = .ok (.iaload, 1) := by decide +kernel
theorem dX10_passes_26 : decode cX10_passes 26 = .ok (.iastore, 1) := by decide +kernel
theorem dX10_passes_27 : decode cX10_passes 27 = .ok (.goto 15, 3) := by decide +kernel
theorem dX10_passes_30 : decode cX10_passes 30 = .ok (.aload_n 1, 1) := by decide +kernel
theorem dX10_passes_31 : decode cX10_passes 31 = .ok (.iload_n 2, 1) := by decide +kernel
theorem dX10_passes_32 : decode cX10_passes 32 = .ok (.aload_n 0, 1) := by decide +kernel
theorem dX10_passes_33 : decode cX10_passes 33 = .ok (.getfield 43, 3) := by decide +kernel
theorem dX10_passes_36 : decode cX10_passes 36 = .ok (.aload_n 0, 1) := by decide +kernel
theorem dX10_passes_37 : decode cX10_passes 37 = .ok (.getfield 130, 3) := by decide +kernel
theorem dX10_passes_40 : decode cX10_passes 40 = .ok (.iaload, 1) := by decide +kernel
theorem dX10_passes_41 : decode cX10_passes 41 = .ok (.iastore, 1) := by decide +kernel
theorem dX10_passes_42 : decode cX10_passes 42 = .ok (.aload_n 0, 1) := by decide +kernel
theorem dX10_passes_43 : decode cX10_passes 43 = .ok (.dup, 1) := by decide +kernel
theorem dX10_passes_44 : decode cX10_passes 44 = .ok (.getfield 130, 3) := by decide +kernel
theorem dX10_passes_47 : decode cX10_passes 47 = .ok (.iconst 1, 1) := by decide +kernel
theorem dX10_passes_48 : decode cX10_passes 48 = .ok (.iadd, 1) := by decide +kernel
theorem dX10_passes_49 : decode cX10_passes 49 = .ok (.putfield 130, 3) := by decide +kernel
theorem dX10_passes_52 : decode cX10_passes 52 = .ok (.iinc 2 1, 3) := by decide +kernel
theorem dX10_passes_55 : decode cX10_passes 55 = .ok (.goto (-53), 3) := by decide +kernel
theorem dX10_passes_58 : decode cX10_passes 58 = .ok (.return_, 1) := by decide +kernel
theorem dX10_passOne_0 : decode cX10_passOne 0 = .ok (.aload_n 0, 1) := by decide +kernel
theorem dX10_passOne_1 : decode cX10_passOne 1 = .ok (.getfield 126, 3) := by decide +kernel
theorem dX10_passOne_4 : decode cX10_passOne 4 = .ok (.ifCond .eq 7, 3) := by decide +kernel
theorem dX10_passOne_7 : decode cX10_passOne 7 = .ok (.iload_n 1, 1) := by decide +kernel
theorem dX10_passOne_8 : decode cX10_passOne 8 = .ok (.goto 12, 3) := by decide +kernel
theorem dX10_passOne_11 : decode cX10_passOne 11 = .ok (.aload_n 0, 1) := by decide +kernel
theorem dX10_passOne_12 : decode cX10_passOne 12 = .ok (.getfield 43, 3) := by decide +kernel
theorem dX10_passOne_15 : decode cX10_passOne 15 = .ok (.aload_n 0, 1) := by decide +kernel
theorem dX10_passOne_16 : decode cX10_passOne 16 = .ok (.getfield 130, 3) := by decide +kernel
theorem dX10_passOne_19 : decode cX10_passOne 19 = .ok (.iaload, 1) := by decide +kernel
theorem dX10_passOne_20 : decode cX10_passOne 20 = .ok (.istore_n 2, 1) := by decide +kernel
theorem dX10_passOne_21 : decode cX10_passOne 21 = .ok (.aload_n 0, 1) := by decide +kernel
theorem dX10_passOne_22 : decode cX10_passOne 22 = .ok (.getfield 126, 3) := by decide +kernel
theorem dX10_passOne_25 : decode cX10_passOne 25 = .ok (.ifCond .eq 13, 3) := by decide +kernel
theorem dX10_passOne_28 : decode cX10_passOne 28 = .ok (.aload_n 0, 1) := by decide +kernel
theorem dX10_passOne_29 : decode cX10_passOne 29 = .ok (.getfield 43, 3) := by decide +kernel
theorem dX10_passOne_32 : decode cX10_passOne 32 = .ok (.aload_n 0, 1) := by decide +kernel
theorem dX10_passOne_33 : decode cX10_passOne 33 = .ok (.getfield 130, 3) := by decide +kernel
theorem dX10_passOne_36 : decode cX10_passOne 36 = .ok (.iload_n 1, 1) := by decide +kernel
theorem dX10_passOne_37 : decode cX10_passOne 37 = .ok (.iastore, 1) := by decide +kernel
theorem dX10_passOne_38 : decode cX10_passOne 38 = .ok (.aload_n 0, 1) := by decide +kernel
theorem dX10_passOne_39 : decode cX10_passOne 39 = .ok (.dup, 1) := by decide +kernel
theorem dX10_passOne_40 : decode cX10_passOne 40 = .ok (.getfield 130, 3) := by decide +kernel
theorem dX10_passOne_43 : decode cX10_passOne 43 = .ok (.iconst 1, 1) := by decide +kernel
theorem dX10_passOne_44 : decode cX10_passOne 44 = .ok (.iadd, 1) := by decide +kernel
theorem dX10_passOne_45 : decode cX10_passOne 45 = .ok (.putfield 130, 3) := by decide +kernel
theorem dX10_passOne_48 : decode cX10_passOne 48 = .ok (.iload_n 2, 1) := by decide +kernel
theorem dX10_passOne_49 : decode cX10_passOne 49 = .ok (.ireturn, 1) := by decide +kernel
theorem dX10_passesAll_0 : decode cX10_passesAll 0 = .ok (.aload_n 0, 1) := by decide +kernel
theorem dX10_passesAll_1 : decode cX10_passesAll 1 = .ok (.bipush 80, 2) := by decide +kernel
theorem dX10_passesAll_3 : decode cX10_passesAll 3 = .ok (.iload_n 1, 1) := by decide +kernel
theorem dX10_passesAll_4 : decode cX10_passesAll 4 = .ok (.imul, 1) := by decide +kernel
theorem dX10_passesAll_5 : decode cX10_passesAll 5 = .ok (.putfield 130, 3) := by decide +kernel
theorem dX10_passesAll_8 : decode cX10_passesAll 8 = .ok (.aload_n 0, 1) := by decide +kernel
theorem dX10_passesAll_9 : decode cX10_passesAll 9 = .ok (.iload_n 2, 1) := by decide +kernel
theorem dX10_passesAll_10 : decode cX10_passesAll 10 = .ok (.putfield 126, 3) := by decide +kernel
theorem dX10_passesAll_13 : decode cX10_passesAll 13 = .ok (.aload_n 0, 1) := by decide +kernel
theorem dX10_passesAll_14 : decode cX10_passesAll 14 = .ok (.aload_n 0, 1) := by decide +kernel
theorem dX10_passesAll_15 : decode cX10_passesAll 15 = .ok (.getfield 13, 3) := by decide +kernel
theorem dX10_passesAll_18 : decode cX10_passesAll 18 = .ok (.invokevirtual 133, 3) := by decide +kernel
theorem dX10_passesAll_21 : decode cX10_passesAll 21 = .ok (.aload_n 0, 1) := by decide +kernel
theorem dX10_passesAll_22 : decode cX10_passesAll 22 = .ok (.aload_n 0, 1) := by decide +kernel
theorem dX10_passesAll_23 : decode cX10_passesAll 23 = .ok (.getfield 16, 3) := by decide +kernel
theorem dX10_passesAll_26 : decode cX10_passesAll 26 = .ok (.invokevirtual 133, 3) := by decide +kernel
theorem dX10_passesAll_29 : decode cX10_passesAll 29 = .ok (.aload_n 0, 1) := by decide +kernel
theorem dX10_passesAll_30 : decode cX10_passesAll 30 = .ok (.aload_n 0, 1) := by decide +kernel
theorem dX10_passesAll_31 : decode cX10_passesAll 31 = .ok (.getfield 19, 3) := by decide +kernel
theorem dX10_passesAll_34 : decode cX10_passesAll 34 = .ok (.invokevirtual 133, 3) := by decide +kernel
theorem dX10_passesAll_37 : decode cX10_passesAll 37 = .ok (.aload_n 0, 1) := by decide +kernel
theorem dX10_passesAll_38 : decode cX10_passesAll 38 = .ok (.aload_n 0, 1) := by decide +kernel
theorem dX10_passesAll_39 : decode cX10_passesAll 39 = .ok (.getfield 22, 3) := by decide +kernel
theorem dX10_passesAll_42 : decode cX10_passesAll 42 = .ok (.invokevirtual 133, 3) := by decide +kernel
theorem dX10_passesAll_45 : decode cX10_passesAll 45 = .ok (.aload_n 0, 1) := by decide +kernel
theorem dX10_passesAll_46 : decode cX10_passesAll 46 = .ok (.aload_n 0, 1) := by decide +kernel
theorem dX10_passesAll_47 : decode cX10_passesAll 47 = .ok (.getfield 25, 3) := by decide +kernel
theorem dX10_passesAll_50 : decode cX10_passesAll 50 = .ok (.invokevirtual 133, 3) := by decide +kernel
theorem dX10_passesAll_53 : decode cX10_passesAll 53 = .ok (.aload_n 0, 1) := by decide +kernel
theorem dX10_passesAll_54 : decode cX10_passesAll 54 = .ok (.aload_n 0, 1) := by decide +kernel
theorem dX10_passesAll_55 : decode cX10_passesAll 55 = .ok (.getfield 28, 3) := by decide +kernel
theorem dX10_passesAll_58 : decode cX10_passesAll 58 = .ok (.invokevirtual 133, 3) := by decide +kernel
theorem dX10_passesAll_61 : decode cX10_passesAll 61 = .ok (.aload_n 0, 1) := by decide +kernel
theorem dX10_passesAll_62 : decode cX10_passesAll 62 = .ok (.aload_n 0, 1) := by decide +kernel
theorem dX10_passesAll_63 : decode cX10_passesAll 63 = .ok (.aload_n 0, 1) := by decide +kernel
theorem dX10_passesAll_64 : decode cX10_passesAll 64 = .ok (.getfield 72, 3) := by decide +kernel
theorem dX10_passesAll_67 : decode cX10_passesAll 67 = .ok (.invokevirtual 137, 3) := by decide +kernel
theorem dX10_passesAll_70 : decode cX10_passesAll 70 = .ok (.putfield 72, 3) := by decide +kernel
theorem dX10_passesAll_73 : decode cX10_passesAll 73 = .ok (.aload_n 0, 1) := by decide +kernel
theorem dX10_passesAll_74 : decode cX10_passesAll 74 = .ok (.aload_n 0, 1) := by decide +kernel
theorem dX10_passesAll_75 : decode cX10_passesAll 75 = .ok (.aload_n 0, 1) := by decide +kernel
theorem dX10_passesAll_76 : decode cX10_passesAll 76 = .ok (.getfield 140, 3) := by decide +kernel
theorem dX10_passesAll_79 : decode cX10_passesAll 79 = .ok (.invokevirtual 137, 3) := by decide +kernel
theorem dX10_passesAll_82 : decode cX10_passesAll 82 = .ok (.putfield 140, 3) := by decide +kernel
theorem dX10_passesAll_85 : decode cX10_passesAll 85 = .ok (.return_, 1) := by decide +kernel
theorem dX10_image_0 : decode cX10_image 0 = .ok (.aload_n 0, 1) := by decide +kernel
theorem dX10_image_1 : decode cX10_image 1 = .ok (.iconst 1, 1) := by decide +kernel
theorem dX10_image_2 : decode cX10_image 2 = .ok (.putfield 143, 3) := by decide +kernel
theorem dX10_image_5 : decode cX10_image 5 = .ok (.aload_n 0, 1) := by decide +kernel
theorem dX10_image_6 : decode cX10_image 6 = .ok (.iconst 0, 1) := by decide +kernel
theorem dX10_image_7 : decode cX10_image 7 = .ok (.iconst 1, 1) := by decide +kernel
theorem dX10_image_8 : decode cX10_image 8 = .ok (.invokevirtual 119, 3) := by decide +kernel
theorem dX10_image_11 : decode cX10_image 11 = .ok (.aload_n 0, 1) := by decide +kernel
theorem dX10_image_12 : decode cX10_image 12 = .ok (.getfield 140, 3) := by decide +kernel
theorem dX10_image_15 : decode cX10_image 15 = .ok (.ireturn, 1) := by decide +kernel
theorem dX10_restore_0 : decode cX10_restore 0 = .ok (.aload_n 0, 1) := by decide +kernel
theorem dX10_restore_1 : decode cX10_restore 1 = .ok (.getfield 143, 3) := by decide +kernel
theorem dX10_restore_4 : decode cX10_restore 4 = .ok (.ifCond .ne 10, 3) := by decide +kernel
theorem dX10_restore_7 : decode cX10_restore 7 = .ok (.aload_n 0, 1) := by decide +kernel
theorem dX10_restore_8 : decode cX10_restore 8 = .ok (.bipush (-3), 2) := by decide +kernel
theorem dX10_restore_10 : decode cX10_restore 10 = .ok (.invokevirtual 83, 3) := by decide +kernel
theorem dX10_restore_13 : decode cX10_restore 13 = .ok (.ireturn, 1) := by decide +kernel
theorem dX10_restore_14 : decode cX10_restore 14 = .ok (.aload_n 0, 1) := by decide +kernel
theorem dX10_restore_15 : decode cX10_restore 15 = .ok (.iconst 0, 1) := by decide +kernel
theorem dX10_restore_16 : decode cX10_restore 16 = .ok (.iconst 0, 1) := by decide +kernel
theorem dX10_restore_17 : decode cX10_restore 17 = .ok (.invokevirtual 119, 3) := by decide +kernel
theorem dX10_restore_20 : decode cX10_restore 20 = .ok (.aload_n 0, 1) := by decide +kernel
theorem dX10_restore_21 : decode cX10_restore 21 = .ok (.getfield 140, 3) := by decide +kernel
theorem dX10_restore_24 : decode cX10_restore 24 = .ok (.ireturn, 1) := by decide +kernel
theorem dX10_dragOf_0 : decode cX10_dragOf 0 = .ok (.aload_n 0, 1) := by decide +kernel
theorem dX10_dragOf_1 : decode cX10_dragOf 1 = .ok (.getfield 25, 3) := by decide +kernel
theorem dX10_dragOf_4 : decode cX10_dragOf 4 = .ok (.iload_n 1, 1) := by decide +kernel
theorem dX10_dragOf_5 : decode cX10_dragOf 5 = .ok (.iaload, 1) := by decide +kernel
theorem dX10_dragOf_6 : decode cX10_dragOf 6 = .ok (.iconst 2, 1) := by decide +kernel
theorem dX10_dragOf_7 : decode cX10_dragOf 7 = .ok (.if_icmp .ne 5, 3) := by decide +kernel
theorem dX10_dragOf_10 : decode cX10_dragOf 10 = .ok (.iconst 0, 1) := by decide +kernel
theorem dX10_dragOf_11 : decode cX10_dragOf 11 = .ok (.ireturn, 1) := by decide +kernel
theorem dX10_dragOf_12 : decode cX10_dragOf 12 = .ok (.aload_n 0, 1) := by decide +kernel
theorem dX10_dragOf_13 : decode cX10_dragOf 13 = .ok (.getfield 13, 3) := by decide +kernel
theorem dX10_dragOf_16 : decode cX10_dragOf 16 = .ok (.iload_n 1, 1) := by decide +kernel
theorem dX10_dragOf_17 : decode cX10_dragOf 17 = .ok (.iaload, 1) := by decide +kernel
theorem dX10_dragOf_18 : decode cX10_dragOf 18 = .ok (.iconst 3, 1) := by decide +kernel
theorem dX10_dragOf_19 : decode cX10_dragOf 19 = .ok (.if_icmp .ne 8, 3) := by decide +kernel
theorem dX10_dragOf_22 : decode cX10_dragOf 22 = .ok (.bipush 15, 2) := by decide +kernel
theorem dX10_dragOf_24 : decode cX10_dragOf 24 = .ok (.goto 35, 3) := by decide +kernel
theorem dX10_dragOf_27 : decode cX10_dragOf 27 = .ok (.aload_n 0, 1) := by decide +kernel
theorem dX10_dragOf_28 : decode cX10_dragOf 28 = .ok (.getfield 13, 3) := by decide +kernel
theorem dX10_dragOf_31 : decode cX10_dragOf 31 = .ok (.iload_n 1, 1) := by decide +kernel
theorem dX10_dragOf_32 : decode cX10_dragOf 32 = .ok (.iaload, 1) := by decide +kernel
theorem dX10_dragOf_33 : decode cX10_dragOf 33 = .ok (.iconst 4, 1) := by decide +kernel
theorem dX10_dragOf_34 : decode cX10_dragOf 34 = .ok (.if_icmp .ne 8, 3) := by decide +kernel
theorem dX10_dragOf_37 : decode cX10_dragOf 37 = .ok (.bipush 6, 2) := by decide +kernel
theorem dX10_dragOf_39 : decode cX10_dragOf 39 = .ok (.goto 20, 3) := by decide +kernel
theorem dX10_dragOf_42 : decode cX10_dragOf 42 = .ok (.aload_n 0, 1) := by decide +kernel
theorem dX10_dragOf_43 : decode cX10_dragOf 43 = .ok (.getfield 13, 3) := by decide +kernel
theorem dX10_dragOf_46 : decode cX10_dragOf 46 = .ok (.iload_n 1, 1) := by decide +kernel
theorem dX10_dragOf_47 : decode cX10_dragOf 47 = .ok (.iaload, 1) := by decide +kernel
theorem dX10_dragOf_48 : decode cX10_dragOf 48 = .ok (.iconst 5, 1) := by decide +kernel
theorem dX10_dragOf_49 : decode cX10_dragOf 49 = .ok (.if_icmp .ne 8, 3) := by decide +kernel
theorem dX10_dragOf_52 : decode cX10_dragOf 52 = .ok (.bipush 20, 2) := by decide +kernel
theorem dX10_dragOf_54 : decode cX10_dragOf 54 = .ok (.goto 5, 3) := by decide +kernel
theorem dX10_dragOf_57 : decode cX10_dragOf 57 = .ok (.bipush 10, 2) := by decide +kernel
theorem dX10_dragOf_59 : decode cX10_dragOf 59 = .ok (.ireturn, 1) := by decide +kernel
theorem dX10_isWhole_0 : decode cX10_isWhole 0 = .ok (.iload_n 1, 1) := by decide +kernel
theorem dX10_isWhole_1 : decode cX10_isWhole 1 = .ok (.istore_n 3, 1) := by decide +kernel
theorem dX10_isWhole_2 : decode cX10_isWhole 2 = .ok (.iload_n 3, 1) := by decide +kernel
theorem dX10_isWhole_3 : decode cX10_isWhole 3 = .ok (.iload_n 2, 1) := by decide +kernel
theorem dX10_isWhole_4 : decode cX10_isWhole 4 = .ok (.if_icmp .gt 31, 3) := by decide +kernel
theorem dX10_isWhole_7 : decode cX10_isWhole 7 = .ok (.aload_n 0, 1) := by decide +kernel
theorem dX10_isWhole_8 : decode cX10_isWhole 8 = .ok (.getfield 25, 3) := by decide +kernel
theorem dX10_isWhole_11 : decode cX10_isWhole 11 = .ok (.iload_n 3, 1) := by decide +kernel
theorem dX10_isWhole_12 : decode cX10_isWhole 12 = .ok (.iaload, 1) := by decide +kernel
theorem dX10_isWhole_13 : decode cX10_isWhole 13 = .ok (.iconst 1, 1) := by decide +kernel
theorem dX10_isWhole_14 : decode cX10_isWhole 14 = .ok (.if_icmp .eq 13, 3) := by decide +kernel
theorem dX10_isWhole_17 : decode cX10_isWhole 17 = .ok (.aload_n 0, 1) := by decide +kernel
theorem dX10_isWhole_18 : decode cX10_isWhole 18 = .ok (.getfield 25, 3) := by decide +kernel
theorem dX10_isWhole_21 : decode cX10_isWhole 21 = .ok (.iload_n 3, 1) := by decide +kernel
theorem dX10_isWhole_22 : decode cX10_isWhole 22 = .ok (.iaload, 1) := by decide +kernel
theorem dX10_isWhole_23 : decode cX10_isWhole 23 = .ok (.iconst 3, 1) := by decide +kernel
theorem dX10_isWhole_24 : decode cX10_isWhole 24 = .ok (.if_icmp .ne 5, 3) := by decide +kernel
theorem dX10_isWhole_27 : decode cX10_isWhole 27 = .ok (.iconst 0, 1) := by decide +kernel
theorem dX10_isWhole_28 : decode cX10_isWhole 28 = .ok (.ireturn, 1) := by decide +kernel
theorem dX10_isWhole_29 : decode cX10_isWhole 29 = .ok (.iinc 3 1, 3) := by decide +kernel
theorem dX10_isWhole_32 : decode cX10_isWhole 32 = .ok (.goto (-30), 3) := by decide +kernel
theorem dX10_isWhole_35 : decode cX10_isWhole 35 = .ok (.iconst 1, 1) := by decide +kernel
theorem dX10_isWhole_36 : decode cX10_isWhole 36 = .ok (.ireturn, 1) := by decide +kernel
theorem dX10_drags_0 : decode cX10_drags 0 = .ok (.iconst 0, 1) := by decide +kernel
theorem dX10_drags_1 : decode cX10_drags 1 = .ok (.istore_n 1, 1) := by decide +kernel
theorem dX10_drags_2 : decode cX10_drags 2 = .ok (.iconst 0, 1) := by decide +kernel
theorem dX10_drags_3 : decode cX10_drags 3 = .ok (.istore_n 2, 1) := by decide +kernel
theorem dX10_drags_4 : decode cX10_drags 4 = .ok (.iload_n 2, 1) := by decide +kernel
theorem dX10_drags_5 : decode cX10_drags 5 = .ok (.aload_n 0, 1) := by decide +kernel
theorem dX10_drags_6 : decode cX10_drags 6 = .ok (.getfield 72, 3) := by decide +kernel
theorem dX10_drags_9 : decode cX10_drags 9 = .ok (.if_icmp .ge 17, 3) := by decide +kernel
theorem dX10_drags_12 : decode cX10_drags 12 = .ok (.iload_n 1, 1) := by decide +kernel
theorem dX10_drags_13 : decode cX10_drags 13 = .ok (.aload_n 0, 1) := by decide +kernel
theorem dX10_drags_14 : decode cX10_drags 14 = .ok (.iload_n 2, 1) := by decide +kernel
theorem dX10_drags_15 : decode cX10_drags 15 = .ok (.invokevirtual 146, 3) := by decide +kernel
theorem dX10_drags_18 : decode cX10_drags 18 = .ok (.iadd, 1) := by decide +kernel
theorem dX10_drags_19 : decode cX10_drags 19 = .ok (.istore_n 1, 1) := by decide +kernel
theorem dX10_drags_20 : decode cX10_drags 20 = .ok (.iinc 2 1, 3) := by decide +kernel
theorem dX10_drags_23 : decode cX10_drags 23 = .ok (.goto (-19), 3) := by decide +kernel
theorem dX10_drags_26 : decode cX10_drags 26 = .ok (.iload_n 1, 1) := by decide +kernel
theorem dX10_drags_27 : decode cX10_drags 27 = .ok (.ireturn, 1) := by decide +kernel
theorem dX10_isLive_0 : decode cX10_isLive 0 = .ok (.aload_n 0, 1) := by decide +kernel
theorem dX10_isLive_1 : decode cX10_isLive 1 = .ok (.getfield 72, 3) := by decide +kernel
theorem dX10_isLive_4 : decode cX10_isLive 4 = .ok (.ifCond .le 28, 3) := by decide +kernel
theorem dX10_isLive_7 : decode cX10_isLive 7 = .ok (.aload_n 0, 1) := by decide +kernel
theorem dX10_isLive_8 : decode cX10_isLive 8 = .ok (.iconst 0, 1) := by decide +kernel
theorem dX10_isLive_9 : decode cX10_isLive 9 = .ok (.aload_n 0, 1) := by decide +kernel
theorem dX10_isLive_10 : decode cX10_isLive 10 = .ok (.getfield 72, 3) := by decide +kernel
theorem dX10_isLive_13 : decode cX10_isLive 13 = .ok (.iconst 1, 1) := by decide +kernel
theorem dX10_isLive_14 : decode cX10_isLive 14 = .ok (.isub, 1) := by decide +kernel
theorem dX10_isLive_15 : decode cX10_isLive 15 = .ok (.invokevirtual 149, 3) := by decide +kernel
theorem dX10_isLive_18 : decode cX10_isLive 18 = .ok (.ifCond .eq 14, 3) := by decide +kernel
theorem dX10_isLive_21 : decode cX10_isLive 21 = .ok (.aload_n 0, 1) := by decide +kernel
theorem dX10_isLive_22 : decode cX10_isLive 22 = .ok (.invokevirtual 152, 3) := by decide +kernel
theorem dX10_isLive_25 : decode cX10_isLive 25 = .ok (.ifCond .le 7, 3) := by decide +kernel
theorem dX10_isLive_28 : decode cX10_isLive 28 = .ok (.iconst 1, 1) := by decide +kernel
theorem dX10_isLive_29 : decode cX10_isLive 29 = .ok (.goto 4, 3) := by decide +kernel
theorem dX10_isLive_32 : decode cX10_isLive 32 = .ok (.iconst 0, 1) := by decide +kernel
theorem dX10_isLive_33 : decode cX10_isLive 33 = .ok (.ireturn, 1) := by decide +kernel
theorem dX10_flowNow_0 : decode cX10_flowNow 0 = .ok (.aload_n 0, 1) := by decide +kernel
theorem dX10_flowNow_1 : decode cX10_flowNow 1 = .ok (.invokevirtual 155, 3) := by decide +kernel
theorem dX10_flowNow_4 : decode cX10_flowNow 4 = .ok (.ifCond .eq 26, 3) := by decide +kernel
theorem dX10_flowNow_7 : decode cX10_flowNow 7 = .ok (.sipush 9999, 3) := by decide +kernel
theorem dX10_flowNow_10 : decode cX10_flowNow 10 = .ok (.bipush 100, 2) := by decide +kernel
theorem dX10_flowNow_12 : decode cX10_flowNow 12 = .ok (.aload_n 0, 1) := by decide +kernel
theorem dX10_flowNow_13 : decode cX10_flowNow 13 = .ok (.getfield 28, 3) := by decide +kernel
theorem dX10_flowNow_16 : decode cX10_flowNow 16 = .ok (.iconst 0, 1) := by decide +kernel
theorem dX10_flowNow_17 : decode cX10_flowNow 17 = .ok (.iaload, 1) := by decide +kernel
theorem dX10_flowNow_18 : decode cX10_flowNow 18 = .ok (.imul, 1) := by decide +kernel
theorem dX10_flowNow_19 : decode cX10_flowNow 19 = .ok (.aload_n 0, 1) := by decide +kernel
theorem dX10_flowNow_20 : decode cX10_flowNow 20 = .ok (.invokevirtual 152, 3) := by decide +kernel
theorem dX10_flowNow_23 : decode cX10_flowNow 23 = .ok (.idiv, 1) := by decide +kernel
theorem dX10_flowNow_24 : decode cX10_flowNow 24 = .ok (.invokestatic 158, 3) := by decide +kernel
theorem dX10_flowNow_27 : decode cX10_flowNow 27 = .ok (.goto 4, 3) := by decide +kernel
theorem dX10_flowNow_30 : decode cX10_flowNow 30 = .ok (.iconst 0, 1) := by decide +kernel
theorem dX10_flowNow_31 : decode cX10_flowNow 31 = .ok (.ireturn, 1) := by decide +kernel
theorem dX10_brightBy_0 : decode cX10_brightBy 0 = .ok (.aload_n 0, 1) := by decide +kernel
theorem dX10_brightBy_1 : decode cX10_brightBy 1 = .ok (.getfield 25, 3) := by decide +kernel
theorem dX10_brightBy_4 : decode cX10_brightBy 4 = .ok (.iload_n 1, 1) := by decide +kernel
theorem dX10_brightBy_5 : decode cX10_brightBy 5 = .ok (.iaload, 1) := by decide +kernel
theorem dX10_brightBy_6 : decode cX10_brightBy 6 = .ok (.ifCond .ne 16, 3) := by decide +kernel
theorem dX10_brightBy_9 : decode cX10_brightBy 9 = .ok (.iload_n 2, 1) := by decide +kernel
theorem dX10_brightBy_10 : decode cX10_brightBy 10 = .ok (.aload_n 0, 1) := by decide +kernel
theorem dX10_brightBy_11 : decode cX10_brightBy 11 = .ok (.iload_n 1, 1) := by decide +kernel
theorem dX10_brightBy_12 : decode cX10_brightBy 12 = .ok (.invokevirtual 146, 3) := by decide +kernel
theorem dX10_brightBy_15 : decode cX10_brightBy 15 = .ok (.imul, 1) := by decide +kernel
theorem dX10_brightBy_16 : decode cX10_brightBy 16 = .ok (.bipush 100, 2) := by decide +kernel
theorem dX10_brightBy_18 : decode cX10_brightBy 18 = .ok (.idiv, 1) := by decide +kernel
theorem dX10_brightBy_19 : decode cX10_brightBy 19 = .ok (.goto 4, 3) := by decide +kernel
theorem dX10_brightBy_22 : decode cX10_brightBy 22 = .ok (.iconst 0, 1) := by decide +kernel
theorem dX10_brightBy_23 : decode cX10_brightBy 23 = .ok (.ireturn, 1) := by decide +kernel
theorem dX10_isLoose_0 : decode cX10_isLoose 0 = .ok (.aload_n 0, 1) := by decide +kernel
theorem dX10_isLoose_1 : decode cX10_isLoose 1 = .ok (.getfield 13, 3) := by decide +kernel
theorem dX10_isLoose_4 : decode cX10_isLoose 4 = .ok (.iload_n 1, 1) := by decide +kernel
theorem dX10_isLoose_5 : decode cX10_isLoose 5 = .ok (.iaload, 1) := by decide +kernel
theorem dX10_isLoose_6 : decode cX10_isLoose 6 = .ok (.iconst 2, 1) := by decide +kernel
theorem dX10_isLoose_7 : decode cX10_isLoose 7 = .ok (.if_icmp .eq 13, 3) := by decide +kernel
theorem dX10_isLoose_10 : decode cX10_isLoose 10 = .ok (.aload_n 0, 1) := by decide +kernel
theorem dX10_isLoose_11 : decode cX10_isLoose 11 = .ok (.getfield 13, 3) := by decide +kernel
theorem dX10_isLoose_14 : decode cX10_isLoose 14 = .ok (.iload_n 1, 1) := by decide +kernel
theorem dX10_isLoose_15 : decode cX10_isLoose 15 = .ok (.iaload, 1) := by decide +kernel
theorem dX10_isLoose_16 : decode cX10_isLoose 16 = .ok (.iconst 3, 1) := by decide +kernel
theorem dX10_isLoose_17 : decode cX10_isLoose 17 = .ok (.if_icmp .ne 7, 3) := by decide +kernel
theorem dX10_isLoose_20 : decode cX10_isLoose 20 = .ok (.iconst 1, 1) := by decide +kernel
theorem dX10_isLoose_21 : decode cX10_isLoose 21 = .ok (.goto 4, 3) := by decide +kernel
theorem dX10_isLoose_24 : decode cX10_isLoose 24 = .ok (.iconst 0, 1) := by decide +kernel
theorem dX10_isLoose_25 : decode cX10_isLoose 25 = .ok (.ireturn, 1) := by decide +kernel
theorem dX10_doesBridge_0 : decode cX10_doesBridge 0 = .ok (.aload_n 0, 1) := by decide +kernel
theorem dX10_doesBridge_1 : decode cX10_doesBridge 1 = .ok (.getfield 13, 3) := by decide +kernel
theorem dX10_doesBridge_4 : decode cX10_doesBridge 4 = .ok (.iload_n 1, 1) := by decide +kernel
theorem dX10_doesBridge_5 : decode cX10_doesBridge 5 = .ok (.iaload, 1) := by decide +kernel
theorem dX10_doesBridge_6 : decode cX10_doesBridge 6 = .ok (.iconst 1, 1) := by decide +kernel
theorem dX10_doesBridge_7 : decode cX10_doesBridge 7 = .ok (.if_icmp .eq 13, 3) := by decide +kernel
theorem dX10_doesBridge_10 : decode cX10_doesBridge 10 = .ok (.aload_n 0, 1) := by decide +kernel
theorem dX10_doesBridge_11 : decode cX10_doesBridge 11 = .ok (.getfield 13, 3) := by decide +kernel
theorem dX10_doesBridge_14 : decode cX10_doesBridge 14 = .ok (.iload_n 1, 1) := by decide +kernel
theorem dX10_doesBridge_15 : decode cX10_doesBridge 15 = .ok (.iaload, 1) := by decide +kernel
theorem dX10_doesBridge_16 : decode cX10_doesBridge 16 = .ok (.iconst 5, 1) := by decide +kernel
theorem dX10_doesBridge_17 : decode cX10_doesBridge 17 = .ok (.if_icmp .ne 7, 3) := by decide +kernel
theorem dX10_doesBridge_20 : decode cX10_doesBridge 20 = .ok (.iconst 1, 1) := by decide +kernel
theorem dX10_doesBridge_21 : decode cX10_doesBridge 21 = .ok (.goto 4, 3) := by decide +kernel
theorem dX10_doesBridge_24 : decode cX10_doesBridge 24 = .ok (.iconst 0, 1) := by decide +kernel
theorem dX10_doesBridge_25 : decode cX10_doesBridge 25 = .ok (.ireturn, 1) := by decide +kernel
theorem dX10_likelyOf_0 : decode cX10_likelyOf 0 = .ok (.aload_n 0, 1) := by decide +kernel
theorem dX10_likelyOf_1 : decode cX10_likelyOf 1 = .ok (.iload_n 1, 1) := by decide +kernel
theorem dX10_likelyOf_2 : decode cX10_likelyOf 2 = .ok (.invokevirtual 162, 3) := by decide +kernel
theorem dX10_likelyOf_5 : decode cX10_likelyOf 5 = .ok (.ifCond .eq 7, 3) := by decide +kernel
theorem dX10_likelyOf_8 : decode cX10_likelyOf 8 = .ok (.iconst 1, 1) := by decide +kernel
theorem dX10_likelyOf_9 : decode cX10_likelyOf 9 = .ok (.goto 28, 3) := by decide +kernel
theorem dX10_likelyOf_12 : decode cX10_likelyOf 12 = .ok (.aload_n 0, 1) := by decide +kernel
theorem dX10_likelyOf_13 : decode cX10_likelyOf 13 = .ok (.getfield 22, 3) := by decide +kernel
theorem dX10_likelyOf_16 : decode cX10_likelyOf 16 = .ok (.iload_n 1, 1) := by decide +kernel
theorem dX10_likelyOf_17 : decode cX10_likelyOf 17 = .ok (.iaload, 1) := by decide +kernel
theorem dX10_likelyOf_18 : decode cX10_likelyOf 18 = .ok (.bipush 10, 2) := by decide +kernel
theorem dX10_likelyOf_20 : decode cX10_likelyOf 20 = .ok (.idiv, 1) := by decide +kernel
theorem dX10_likelyOf_21 : decode cX10_likelyOf 21 = .ok (.iconst 1, 1) := by decide +kernel
theorem dX10_likelyOf_22 : decode cX10_likelyOf 22 = .ok (.iadd, 1) := by decide +kernel
theorem dX10_likelyOf_23 : decode cX10_likelyOf 23 = .ok (.aload_n 0, 1) := by decide +kernel
theorem dX10_likelyOf_24 : decode cX10_likelyOf 24 = .ok (.iload_n 1, 1) := by decide +kernel
theorem dX10_likelyOf_25 : decode cX10_likelyOf 25 = .ok (.invokevirtual 165, 3) := by decide +kernel
theorem dX10_likelyOf_28 : decode cX10_likelyOf 28 = .ok (.ifCond .eq 7, 3) := by decide +kernel
theorem dX10_likelyOf_31 : decode cX10_likelyOf 31 = .ok (.iconst 3, 1) := by decide +kernel
theorem dX10_likelyOf_32 : decode cX10_likelyOf 32 = .ok (.goto 4, 3) := by decide +kernel
theorem dX10_likelyOf_35 : decode cX10_likelyOf 35 = .ok (.iconst 0, 1) := by decide +kernel
theorem dX10_likelyOf_36 : decode cX10_likelyOf 36 = .ok (.iadd, 1) := by decide +kernel
theorem dX10_likelyOf_37 : decode cX10_likelyOf 37 = .ok (.ireturn, 1) := by decide +kernel
theorem dX10_lamp_0 : decode cX10_lamp 0 = .ok (.aload_n 0, 1) := by decide +kernel
theorem dX10_lamp_1 : decode cX10_lamp 1 = .ok (.iload_n 1, 1) := by decide +kernel
theorem dX10_lamp_2 : decode cX10_lamp 2 = .ok (.invokevirtual 112, 3) := by decide +kernel
theorem dX10_lamp_5 : decode cX10_lamp 5 = .ok (.ifCond .ne 9, 3) := by decide +kernel
theorem dX10_lamp_8 : decode cX10_lamp 8 = .ok (.aload_n 0, 1) := by decide +kernel
theorem dX10_lamp_9 : decode cX10_lamp 9 = .ok (.iconst (-1), 1) := by decide +kernel
theorem dX10_lamp_10 : decode cX10_lamp 10 = .ok (.invokevirtual 83, 3) := by decide +kernel
theorem dX10_lamp_13 : decode cX10_lamp 13 = .ok (.ireturn, 1) := by decide +kernel
theorem dX10_lamp_14 : decode cX10_lamp 14 = .ok (.iload_n 2, 1) := by decide +kernel
theorem dX10_lamp_15 : decode cX10_lamp 15 = .ok (.tableswitch 102 0 7 #[45, 52, 59, 66, 73, 80, 86, 96], 45) := by decide +kernel
theorem dX10_lamp_60 : decode cX10_lamp 60 = .ok (.aload_n 0, 1) := by decide +kernel
theorem dX10_lamp_61 : decode cX10_lamp 61 = .ok (.getfield 13, 3) := by decide +kernel
theorem dX10_lamp_64 : decode cX10_lamp 64 = .ok (.iload_n 1, 1) := by decide +kernel
theorem dX10_lamp_65 : decode cX10_lamp 65 = .ok (.iaload, 1) := by decide +kernel
theorem dX10_lamp_66 : decode cX10_lamp 66 = .ok (.ireturn, 1) := by decide +kernel
theorem dX10_lamp_67 : decode cX10_lamp 67 = .ok (.aload_n 0, 1) := by decide +kernel
theorem dX10_lamp_68 : decode cX10_lamp 68 = .ok (.getfield 16, 3) := by decide +kernel
theorem dX10_lamp_71 : decode cX10_lamp 71 = .ok (.iload_n 1, 1) := by decide +kernel
theorem dX10_lamp_72 : decode cX10_lamp 72 = .ok (.iaload, 1) := by decide +kernel
theorem dX10_lamp_73 : decode cX10_lamp 73 = .ok (.ireturn, 1) := by decide +kernel
theorem dX10_lamp_74 : decode cX10_lamp 74 = .ok (.aload_n 0, 1) := by decide +kernel
theorem dX10_lamp_75 : decode cX10_lamp 75 = .ok (.getfield 19, 3) := by decide +kernel
theorem dX10_lamp_78 : decode cX10_lamp 78 = .ok (.iload_n 1, 1) := by decide +kernel
theorem dX10_lamp_79 : decode cX10_lamp 79 = .ok (.iaload, 1) := by decide +kernel
theorem dX10_lamp_80 : decode cX10_lamp 80 = .ok (.ireturn, 1) := by decide +kernel
theorem dX10_lamp_81 : decode cX10_lamp 81 = .ok (.aload_n 0, 1) := by decide +kernel
theorem dX10_lamp_82 : decode cX10_lamp 82 = .ok (.getfield 22, 3) := by decide +kernel
theorem dX10_lamp_85 : decode cX10_lamp 85 = .ok (.iload_n 1, 1) := by decide +kernel
theorem dX10_lamp_86 : decode cX10_lamp 86 = .ok (.iaload, 1) := by decide +kernel
theorem dX10_lamp_87 : decode cX10_lamp 87 = .ok (.ireturn, 1) := by decide +kernel
theorem dX10_lamp_88 : decode cX10_lamp 88 = .ok (.aload_n 0, 1) := by decide +kernel
theorem dX10_lamp_89 : decode cX10_lamp 89 = .ok (.getfield 25, 3) := by decide +kernel
theorem dX10_lamp_92 : decode cX10_lamp 92 = .ok (.iload_n 1, 1) := by decide +kernel
theorem dX10_lamp_93 : decode cX10_lamp 93 = .ok (.iaload, 1) := by decide +kernel
theorem dX10_lamp_94 : decode cX10_lamp 94 = .ok (.ireturn, 1) := by decide +kernel
theorem dX10_lamp_95 : decode cX10_lamp 95 = .ok (.aload_n 0, 1) := by decide +kernel
theorem dX10_lamp_96 : decode cX10_lamp 96 = .ok (.iload_n 1, 1) := by decide +kernel
theorem dX10_lamp_97 : decode cX10_lamp 97 = .ok (.invokevirtual 146, 3) := by decide +kernel
theorem dX10_lamp_100 : decode cX10_lamp 100 = .ok (.ireturn, 1) := by decide +kernel
theorem dX10_lamp_101 : decode cX10_lamp 101 = .ok (.aload_n 0, 1) := by decide +kernel
theorem dX10_lamp_102 : decode cX10_lamp 102 = .ok (.iload_n 1, 1) := by decide +kernel
theorem dX10_lamp_103 : decode cX10_lamp 103 = .ok (.aload_n 0, 1) := by decide +kernel
theorem dX10_lamp_104 : decode cX10_lamp 104 = .ok (.invokevirtual 168, 3) := by decide +kernel
theorem dX10_lamp_107 : decode cX10_lamp 107 = .ok (.invokevirtual 171, 3) := by decide +kernel
theorem dX10_lamp_110 : decode cX10_lamp 110 = .ok (.ireturn, 1) := by decide +kernel
theorem dX10_lamp_111 : decode cX10_lamp 111 = .ok (.aload_n 0, 1) := by decide +kernel
theorem dX10_lamp_112 : decode cX10_lamp 112 = .ok (.iload_n 1, 1) := by decide +kernel
theorem dX10_lamp_113 : decode cX10_lamp 113 = .ok (.invokevirtual 174, 3) := by decide +kernel
theorem dX10_lamp_116 : decode cX10_lamp 116 = .ok (.ireturn, 1) := by decide +kernel
theorem dX10_lamp_117 : decode cX10_lamp 117 = .ok (.aload_n 0, 1) := by decide +kernel
theorem dX10_lamp_118 : decode cX10_lamp 118 = .ok (.bipush (-2), 2) := by decide +kernel
theorem dX10_lamp_120 : decode cX10_lamp 120 = .ok (.invokevirtual 83, 3) := by decide +kernel
theorem dX10_lamp_123 : decode cX10_lamp 123 = .ok (.ireturn, 1) := by decide +kernel
theorem dX10_set_0 : decode cX10_set 0 = .ok (.iload_n 1, 1) := by decide +kernel
theorem dX10_set_1 : decode cX10_set 1 = .ok (.iconst 0, 1) := by decide +kernel
theorem dX10_set_2 : decode cX10_set 2 = .ok (.iconst 3, 1) := by decide +kernel
theorem dX10_set_3 : decode cX10_set 3 = .ok (.invokestatic 94, 3) := by decide +kernel
theorem dX10_set_6 : decode cX10_set 6 = .ok (.ifCond .ne 10, 3) := by decide +kernel
theorem dX10_set_9 : decode cX10_set 9 = .ok (.aload_n 0, 1) := by decide +kernel
theorem dX10_set_10 : decode cX10_set 10 = .ok (.bipush (-2), 2) := by decide +kernel
theorem dX10_set_12 : decode cX10_set 12 = .ok (.invokevirtual 83, 3) := by decide +kernel
theorem dX10_set_15 : decode cX10_set 15 = .ok (.ireturn, 1) := by decide +kernel
theorem dX10_set_16 : decode cX10_set 16 = .ok (.iload_n 2, 1) := by decide +kernel
theorem dX10_set_17 : decode cX10_set 17 = .ok (.getstatic 177, 3) := by decide +kernel
theorem dX10_set_20 : decode cX10_set 20 = .ok (.iload_n 1, 1) := by decide +kernel
theorem dX10_set_21 : decode cX10_set 21 = .ok (.iaload, 1) := by decide +kernel
theorem dX10_set_22 : decode cX10_set 22 = .ok (.getstatic 180, 3) := by decide +kernel
theorem dX10_set_25 : decode cX10_set 25 = .ok (.iload_n 1, 1) := by decide +kernel
theorem dX10_set_26 : decode cX10_set 26 = .ok (.iaload, 1) := by decide +kernel
theorem dX10_set_27 : decode cX10_set 27 = .ok (.invokestatic 76, 3) := by decide +kernel
theorem dX10_set_30 : decode cX10_set 30 = .ok (.istore_n 3, 1) := by decide +kernel
theorem dX10_set_31 : decode cX10_set 31 = .ok (.iload_n 3, 1) := by decide +kernel
theorem dX10_set_32 : decode cX10_set 32 = .ok (.ifCond .eq 9, 3) := by decide +kernel
theorem dX10_set_35 : decode cX10_set 35 = .ok (.aload_n 0, 1) := by decide +kernel
theorem dX10_set_36 : decode cX10_set 36 = .ok (.iload_n 3, 1) := by decide +kernel
theorem dX10_set_37 : decode cX10_set 37 = .ok (.invokevirtual 83, 3) := by decide +kernel
theorem dX10_set_40 : decode cX10_set 40 = .ok (.ireturn, 1) := by decide +kernel
theorem dX10_set_41 : decode cX10_set 41 = .ok (.aload_n 0, 1) := by decide +kernel
theorem dX10_set_42 : decode cX10_set 42 = .ok (.getfield 28, 3) := by decide +kernel
theorem dX10_set_45 : decode cX10_set 45 = .ok (.iload_n 1, 1) := by decide +kernel
theorem dX10_set_46 : decode cX10_set 46 = .ok (.iaload, 1) := by decide +kernel
theorem dX10_set_47 : decode cX10_set 47 = .ok (.istore 4, 2) := by decide +kernel
theorem dX10_set_49 : decode cX10_set 49 = .ok (.aload_n 0, 1) := by decide +kernel
theorem dX10_set_50 : decode cX10_set 50 = .ok (.getfield 28, 3) := by decide +kernel
theorem dX10_set_53 : decode cX10_set 53 = .ok (.iload_n 1, 1) := by decide +kernel
theorem dX10_set_54 : decode cX10_set 54 = .ok (.iload_n 2, 1) := by decide +kernel
theorem dX10_set_55 : decode cX10_set 55 = .ok (.iastore, 1) := by decide +kernel
theorem dX10_set_56 : decode cX10_set 56 = .ok (.iload 4, 2) := by decide +kernel
theorem dX10_set_58 : decode cX10_set 58 = .ok (.ireturn, 1) := by decide +kernel
theorem dX10_flow_0 : decode cX10_flow 0 = .ok (.aload_n 0, 1) := by decide +kernel
theorem dX10_flow_1 : decode cX10_flow 1 = .ok (.invokevirtual 168, 3) := by decide +kernel
theorem dX10_flow_4 : decode cX10_flow 4 = .ok (.ireturn, 1) := by decide +kernel
theorem dX10_doesDie_0 : decode cX10_doesDie 0 = .ok (.aload_n 0, 1) := by decide +kernel
theorem dX10_doesDie_1 : decode cX10_doesDie 1 = .ok (.getfield 13, 3) := by decide +kernel
theorem dX10_doesDie_4 : decode cX10_doesDie 4 = .ok (.iload_n 1, 1) := by decide +kernel
theorem dX10_doesDie_5 : decode cX10_doesDie 5 = .ok (.iaload, 1) := by decide +kernel
theorem dX10_doesDie_6 : decode cX10_doesDie 6 = .ok (.iconst 4, 1) := by decide +kernel
theorem dX10_doesDie_7 : decode cX10_doesDie 7 = .ok (.if_icmp .ne 21, 3) := by decide +kernel
theorem dX10_doesDie_10 : decode cX10_doesDie 10 = .ok (.iload_n 2, 1) := by decide +kernel
theorem dX10_doesDie_11 : decode cX10_doesDie 11 = .ok (.iconst 5, 1) := by decide +kernel
theorem dX10_doesDie_12 : decode cX10_doesDie 12 = .ok (.aload_n 0, 1) := by decide +kernel
theorem dX10_doesDie_13 : decode cX10_doesDie 13 = .ok (.getfield 16, 3) := by decide +kernel
theorem dX10_doesDie_16 : decode cX10_doesDie 16 = .ok (.iload_n 1, 1) := by decide +kernel
theorem dX10_doesDie_17 : decode cX10_doesDie 17 = .ok (.iaload, 1) := by decide +kernel
theorem dX10_doesDie_18 : decode cX10_doesDie 18 = .ok (.imul, 1) := by decide +kernel
theorem dX10_doesDie_19 : decode cX10_doesDie 19 = .ok (.if_icmp .le 7, 3) := by decide +kernel
theorem dX10_doesDie_22 : decode cX10_doesDie 22 = .ok (.iconst 1, 1) := by decide +kernel
theorem dX10_doesDie_23 : decode cX10_doesDie 23 = .ok (.goto 4, 3) := by decide +kernel
theorem dX10_doesDie_26 : decode cX10_doesDie 26 = .ok (.iconst 0, 1) := by decide +kernel
theorem dX10_doesDie_27 : decode cX10_doesDie 27 = .ok (.ireturn, 1) := by decide +kernel
theorem dX10_doesDie_28 : decode cX10_doesDie 28 = .ok (.aload_n 0, 1) := by decide +kernel
theorem dX10_doesDie_29 : decode cX10_doesDie 29 = .ok (.getfield 22, 3) := by decide +kernel
theorem dX10_doesDie_32 : decode cX10_doesDie 32 = .ok (.iload_n 1, 1) := by decide +kernel
theorem dX10_doesDie_33 : decode cX10_doesDie 33 = .ok (.iaload, 1) := by decide +kernel
theorem dX10_doesDie_34 : decode cX10_doesDie 34 = .ok (.aload_n 0, 1) := by decide +kernel
theorem dX10_doesDie_35 : decode cX10_doesDie 35 = .ok (.getfield 13, 3) := by decide +kernel
theorem dX10_doesDie_38 : decode cX10_doesDie 38 = .ok (.iload_n 1, 1) := by decide +kernel
theorem dX10_doesDie_39 : decode cX10_doesDie 39 = .ok (.iaload, 1) := by decide +kernel
theorem dX10_doesDie_40 : decode cX10_doesDie 40 = .ok (.iconst 5, 1) := by decide +kernel
theorem dX10_doesDie_41 : decode cX10_doesDie 41 = .ok (.if_icmp .ne 8, 3) := by decide +kernel
theorem dX10_doesDie_44 : decode cX10_doesDie 44 = .ok (.bipush 20, 2) := by decide +kernel
theorem dX10_doesDie_46 : decode cX10_doesDie 46 = .ok (.goto 5, 3) := by decide +kernel
theorem dX10_doesDie_49 : decode cX10_doesDie 49 = .ok (.bipush 10, 2) := by decide +kernel
theorem dX10_doesDie_51 : decode cX10_doesDie 51 = .ok (.aload_n 0, 1) := by decide +kernel
theorem dX10_doesDie_52 : decode cX10_doesDie 52 = .ok (.getfield 16, 3) := by decide +kernel
theorem dX10_doesDie_55 : decode cX10_doesDie 55 = .ok (.iload_n 1, 1) := by decide +kernel
theorem dX10_doesDie_56 : decode cX10_doesDie 56 = .ok (.iaload, 1) := by decide +kernel
theorem dX10_doesDie_57 : decode cX10_doesDie 57 = .ok (.imul, 1) := by decide +kernel
theorem dX10_doesDie_58 : decode cX10_doesDie 58 = .ok (.if_icmp .lt 7, 3) := by decide +kernel
theorem dX10_doesDie_61 : decode cX10_doesDie 61 = .ok (.iconst 1, 1) := by decide +kernel
theorem dX10_doesDie_62 : decode cX10_doesDie 62 = .ok (.goto 4, 3) := by decide +kernel
theorem dX10_doesDie_65 : decode cX10_doesDie 65 = .ok (.iconst 0, 1) := by decide +kernel
theorem dX10_doesDie_66 : decode cX10_doesDie 66 = .ok (.ireturn, 1) := by decide +kernel
theorem dX10_doesHang_0 : decode cX10_doesHang 0 = .ok (.aload_n 0, 1) := by decide +kernel
theorem dX10_doesHang_1 : decode cX10_doesHang 1 = .ok (.getfield 13, 3) := by decide +kernel
theorem dX10_doesHang_4 : decode cX10_doesHang 4 = .ok (.iload_n 1, 1) := by decide +kernel
theorem dX10_doesHang_5 : decode cX10_doesHang 5 = .ok (.iaload, 1) := by decide +kernel
theorem dX10_doesHang_6 : decode cX10_doesHang 6 = .ok (.iconst 2, 1) := by decide +kernel
theorem dX10_doesHang_7 : decode cX10_doesHang 7 = .ok (.if_icmp .ne 19, 3) := by decide +kernel
theorem dX10_doesHang_10 : decode cX10_doesHang 10 = .ok (.aload_n 0, 1) := by decide +kernel
theorem dX10_doesHang_11 : decode cX10_doesHang 11 = .ok (.getfield 140, 3) := by decide +kernel
theorem dX10_doesHang_14 : decode cX10_doesHang 14 = .ok (.bipush 10, 2) := by decide +kernel
theorem dX10_doesHang_16 : decode cX10_doesHang 16 = .ok (.irem, 1) := by decide +kernel
theorem dX10_doesHang_17 : decode cX10_doesHang 17 = .ok (.aload_n 0, 1) := by decide +kernel
theorem dX10_doesHang_18 : decode cX10_doesHang 18 = .ok (.getfield 28, 3) := by decide +kernel
theorem dX10_doesHang_21 : decode cX10_doesHang 21 = .ok (.iconst 3, 1) := by decide +kernel
theorem dX10_doesHang_22 : decode cX10_doesHang 22 = .ok (.iaload, 1) := by decide +kernel
theorem dX10_doesHang_23 : decode cX10_doesHang 23 = .ok (.if_icmp .eq 30, 3) := by decide +kernel
theorem dX10_doesHang_26 : decode cX10_doesHang 26 = .ok (.aload_n 0, 1) := by decide +kernel
theorem dX10_doesHang_27 : decode cX10_doesHang 27 = .ok (.getfield 13, 3) := by decide +kernel
theorem dX10_doesHang_30 : decode cX10_doesHang 30 = .ok (.iload_n 1, 1) := by decide +kernel
theorem dX10_doesHang_31 : decode cX10_doesHang 31 = .ok (.iaload, 1) := by decide +kernel
theorem dX10_doesHang_32 : decode cX10_doesHang 32 = .ok (.iconst 3, 1) := by decide +kernel
theorem dX10_doesHang_33 : decode cX10_doesHang 33 = .ok (.if_icmp .ne 24, 3) := by decide +kernel
theorem dX10_doesHang_36 : decode cX10_doesHang 36 = .ok (.aload_n 0, 1) := by decide +kernel
theorem dX10_doesHang_37 : decode cX10_doesHang 37 = .ok (.getfield 140, 3) := by decide +kernel
theorem dX10_doesHang_40 : decode cX10_doesHang 40 = .ok (.iconst 5, 1) := by decide +kernel
theorem dX10_doesHang_41 : decode cX10_doesHang 41 = .ok (.irem, 1) := by decide +kernel
theorem dX10_doesHang_42 : decode cX10_doesHang 42 = .ok (.aload_n 0, 1) := by decide +kernel
theorem dX10_doesHang_43 : decode cX10_doesHang 43 = .ok (.getfield 28, 3) := by decide +kernel
theorem dX10_doesHang_46 : decode cX10_doesHang 46 = .ok (.iconst 3, 1) := by decide +kernel
theorem dX10_doesHang_47 : decode cX10_doesHang 47 = .ok (.iaload, 1) := by decide +kernel
theorem dX10_doesHang_48 : decode cX10_doesHang 48 = .ok (.iconst 5, 1) := by decide +kernel
theorem dX10_doesHang_49 : decode cX10_doesHang 49 = .ok (.irem, 1) := by decide +kernel
theorem dX10_doesHang_50 : decode cX10_doesHang 50 = .ok (.if_icmp .ne 7, 3) := by decide +kernel
theorem dX10_doesHang_53 : decode cX10_doesHang 53 = .ok (.iconst 1, 1) := by decide +kernel
theorem dX10_doesHang_54 : decode cX10_doesHang 54 = .ok (.goto 4, 3) := by decide +kernel
theorem dX10_doesHang_57 : decode cX10_doesHang 57 = .ok (.iconst 0, 1) := by decide +kernel
theorem dX10_doesHang_58 : decode cX10_doesHang 58 = .ok (.ireturn, 1) := by decide +kernel
theorem dX10_goesHour_0 : decode cX10_goesHour 0 = .ok (.aload_n 0, 1) := by decide +kernel
theorem dX10_goesHour_1 : decode cX10_goesHour 1 = .ok (.invokevirtual 168, 3) := by decide +kernel
theorem dX10_goesHour_4 : decode cX10_goesHour 4 = .ok (.istore_n 1, 1) := by decide +kernel
theorem dX10_goesHour_5 : decode cX10_goesHour 5 = .ok (.aload_n 0, 1) := by decide +kernel
theorem dX10_goesHour_6 : decode cX10_goesHour 6 = .ok (.invokevirtual 155, 3) := by decide +kernel
theorem dX10_goesHour_9 : decode cX10_goesHour 9 = .ok (.istore_n 2, 1) := by decide +kernel
theorem dX10_goesHour_10 : decode cX10_goesHour 10 = .ok (.iconst 0, 1) := by decide +kernel
theorem dX10_goesHour_11 : decode cX10_goesHour 11 = .ok (.istore_n 3, 1) := by decide +kernel
theorem dX10_goesHour_12 : decode cX10_goesHour 12 = .ok (.iconst 0, 1) := by decide +kernel
theorem dX10_goesHour_13 : decode cX10_goesHour 13 = .ok (.istore 4, 2) := by decide +kernel
theorem dX10_goesHour_15 : decode cX10_goesHour 15 = .ok (.iload 4, 2) := by decide +kernel
theorem dX10_goesHour_17 : decode cX10_goesHour 17 = .ok (.aload_n 0, 1) := by decide +kernel
theorem dX10_goesHour_18 : decode cX10_goesHour 18 = .ok (.getfield 72, 3) := by decide +kernel
theorem dX10_goesHour_21 : decode cX10_goesHour 21 = .ok (.if_icmp .ge 34, 3) := by decide +kernel
theorem dX10_goesHour_24 : decode cX10_goesHour 24 = .ok (.aload_n 0, 1) := by decide +kernel
theorem dX10_goesHour_25 : decode cX10_goesHour 25 = .ok (.getfield 46, 3) := by decide +kernel
theorem dX10_goesHour_28 : decode cX10_goesHour 28 = .ok (.iload 4, 2) := by decide +kernel
theorem dX10_goesHour_30 : decode cX10_goesHour 30 = .ok (.iload_n 2, 1) := by decide +kernel
theorem dX10_goesHour_31 : decode cX10_goesHour 31 = .ok (.ifCond .eq 16, 3) := by decide +kernel
theorem dX10_goesHour_34 : decode cX10_goesHour 34 = .ok (.aload_n 0, 1) := by decide +kernel
theorem dX10_goesHour_35 : decode cX10_goesHour 35 = .ok (.iload 4, 2) := by decide +kernel
theorem dX10_goesHour_37 : decode cX10_goesHour 37 = .ok (.iload_n 1, 1) := by decide +kernel
theorem dX10_goesHour_38 : decode cX10_goesHour 38 = .ok (.invokevirtual 171, 3) := by decide +kernel
theorem dX10_goesHour_41 : decode cX10_goesHour 41 = .ok (.bipush 10, 2) := by decide +kernel
theorem dX10_goesHour_43 : decode cX10_goesHour 43 = .ok (.idiv, 1) := by decide +kernel
theorem dX10_goesHour_44 : decode cX10_goesHour 44 = .ok (.goto 4, 3) := by decide +kernel
theorem dX10_goesHour_47 : decode cX10_goesHour 47 = .ok (.iconst 0, 1) := by decide +kernel
theorem dX10_goesHour_48 : decode cX10_goesHour 48 = .ok (.iastore, 1) := by decide +kernel
theorem dX10_goesHour_49 : decode cX10_goesHour 49 = .ok (.iinc 4 1, 3) := by decide +kernel
theorem dX10_goesHour_52 : decode cX10_goesHour 52 = .ok (.goto (-37), 3) := by decide +kernel
theorem dX10_goesHour_55 : decode cX10_goesHour 55 = .ok (.iconst 0, 1) := by decide +kernel
theorem dX10_goesHour_56 : decode cX10_goesHour 56 = .ok (.istore 4, 2) := by decide +kernel
theorem dX10_goesHour_58 : decode cX10_goesHour 58 = .ok (.iload 4, 2) := by decide +kernel
theorem dX10_goesHour_60 : decode cX10_goesHour 60 = .ok (.aload_n 0, 1) := by decide +kernel
theorem dX10_goesHour_61 : decode cX10_goesHour 61 = .ok (.getfield 72, 3) := by decide +kernel
theorem dX10_goesHour_64 : decode cX10_goesHour 64 = .ok (.if_icmp .ge 145, 3) := by decide +kernel
theorem dX10_goesHour_67 : decode cX10_goesHour 67 = .ok (.aload_n 0, 1) := by decide +kernel
theorem dX10_goesHour_68 : decode cX10_goesHour 68 = .ok (.getfield 25, 3) := by decide +kernel
theorem dX10_goesHour_71 : decode cX10_goesHour 71 = .ok (.iload 4, 2) := by decide +kernel
theorem dX10_goesHour_73 : decode cX10_goesHour 73 = .ok (.iaload, 1) := by decide +kernel
theorem dX10_goesHour_74 : decode cX10_goesHour 74 = .ok (.ifCond .eq 6, 3) := by decide +kernel
theorem dX10_goesHour_77 : decode cX10_goesHour 77 = .ok (.goto 126, 3) := by decide +kernel
theorem dX10_goesHour_80 : decode cX10_goesHour 80 = .ok (.aload_n 0, 1) := by decide +kernel
theorem dX10_goesHour_81 : decode cX10_goesHour 81 = .ok (.getfield 22, 3) := by decide +kernel
theorem dX10_goesHour_84 : decode cX10_goesHour 84 = .ok (.iload 4, 2) := by decide +kernel
theorem dX10_goesHour_86 : decode cX10_goesHour 86 = .ok (.sipush 9999, 3) := by decide +kernel
theorem dX10_goesHour_89 : decode cX10_goesHour 89 = .ok (.aload_n 0, 1) := by decide +kernel
theorem dX10_goesHour_90 : decode cX10_goesHour 90 = .ok (.getfield 22, 3) := by decide +kernel
theorem dX10_goesHour_93 : decode cX10_goesHour 93 = .ok (.iload 4, 2) := by decide +kernel
theorem dX10_goesHour_95 : decode cX10_goesHour 95 = .ok (.iaload, 1) := by decide +kernel
theorem dX10_goesHour_96 : decode cX10_goesHour 96 = .ok (.aload_n 0, 1) := by decide +kernel
theorem dX10_goesHour_97 : decode cX10_goesHour 97 = .ok (.getfield 46, 3) := by decide +kernel
theorem dX10_goesHour_100 : decode cX10_goesHour 100 = .ok (.iload 4, 2) := by decide +kernel
theorem dX10_goesHour_102 : decode cX10_goesHour 102 = .ok (.iaload, 1) := by decide +kernel
theorem dX10_goesHour_103 : decode cX10_goesHour 103 = .ok (.iadd, 1) := by decide +kernel
theorem dX10_goesHour_104 : decode cX10_goesHour 104 = .ok (.invokestatic 158, 3) := by decide +kernel
theorem dX10_goesHour_107 : decode cX10_goesHour 107 = .ok (.iastore, 1) := by decide +kernel
theorem dX10_goesHour_108 : decode cX10_goesHour 108 = .ok (.iload_n 2, 1) := by decide +kernel
theorem dX10_goesHour_109 : decode cX10_goesHour 109 = .ok (.ifCond .eq 49, 3) := by decide +kernel
theorem dX10_goesHour_112 : decode cX10_goesHour 112 = .ok (.aload_n 0, 1) := by decide +kernel
theorem dX10_goesHour_113 : decode cX10_goesHour 113 = .ok (.iload 4, 2) := by decide +kernel
theorem dX10_goesHour_115 : decode cX10_goesHour 115 = .ok (.iload_n 1, 1) := by decide +kernel
theorem dX10_goesHour_116 : decode cX10_goesHour 116 = .ok (.invokevirtual 183, 3) := by decide +kernel
theorem dX10_goesHour_119 : decode cX10_goesHour 119 = .ok (.ifCond .eq 39, 3) := by decide +kernel
theorem dX10_goesHour_122 : decode cX10_goesHour 122 = .ok (.aload_n 0, 1) := by decide +kernel
theorem dX10_goesHour_123 : decode cX10_goesHour 123 = .ok (.getfield 25, 3) := by decide +kernel
theorem dX10_goesHour_126 : decode cX10_goesHour 126 = .ok (.iload 4, 2) := by decide +kernel
theorem dX10_goesHour_128 : decode cX10_goesHour 128 = .ok (.aload_n 0, 1) := by decide +kernel
theorem dX10_goesHour_129 : decode cX10_goesHour 129 = .ok (.iload 4, 2) := by decide +kernel
theorem dX10_goesHour_131 : decode cX10_goesHour 131 = .ok (.invokevirtual 162, 3) := by decide +kernel
theorem dX10_goesHour_134 : decode cX10_goesHour 134 = .ok (.ifCond .eq 7, 3) := by decide +kernel
theorem dX10_goesHour_137 : decode cX10_goesHour 137 = .ok (.iconst 2, 1) := by decide +kernel

/-! instructions, printed by wip/whole/emit.py -/
theorem dJ13_bitCount_95d88_0 : decode cJ13_bitCount_95d88 0 = .ok (.lload_n 0, 1) := by decide +kernel
theorem dJ13_bitCount_95d88_1 : decode cJ13_bitCount_95d88 1 = .ok (.lload_n 0, 1) := by decide +kernel
theorem dJ13_bitCount_95d88_2 : decode cJ13_bitCount_95d88 2 = .ok (.iconst 1, 1) := by decide +kernel
theorem dJ13_bitCount_95d88_3 : decode cJ13_bitCount_95d88 3 = .ok (.lushr, 1) := by decide +kernel
theorem dJ13_bitCount_95d88_4 : decode cJ13_bitCount_95d88 4 = .ok (.ldc2_w 314, 3) := by decide +kernel
theorem dJ13_bitCount_95d88_7 : decode cJ13_bitCount_95d88 7 = .ok (.land, 1) := by decide +kernel
theorem dJ13_bitCount_95d88_8 : decode cJ13_bitCount_95d88 8 = .ok (.lsub, 1) := by decide +kernel
theorem dJ13_bitCount_95d88_9 : decode cJ13_bitCount_95d88 9 = .ok (.lstore_n 0, 1) := by decide +kernel
theorem dJ13_bitCount_95d88_10 : decode cJ13_bitCount_95d88 10 = .ok (.lload_n 0, 1) := by decide +kernel
theorem dJ13_bitCount_95d88_11 : decode cJ13_bitCount_95d88 11 = .ok (.ldc2_w 316, 3) := by decide +kernel
theorem dJ13_bitCount_95d88_14 : decode cJ13_bitCount_95d88 14 = .ok (.land, 1) := by decide +kernel
theorem dJ13_bitCount_95d88_15 : decode cJ13_bitCount_95d88 15 = .ok (.lload_n 0, 1) := by decide +kernel
theorem dJ13_bitCount_95d88_16 : decode cJ13_bitCount_95d88 16 = .ok (.iconst 2, 1) := by decide +kernel
theorem dJ13_bitCount_95d88_17 : decode cJ13_bitCount_95d88 17 = .ok (.lushr, 1) := by decide +kernel
theorem dJ13_bitCount_95d88_18 : decode cJ13_bitCount_95d88 18 = .ok (.ldc2_w 316, 3) := by decide +kernel
theorem dJ13_bitCount_95d88_21 : decode cJ13_bitCount_95d88 21 = .ok (.land, 1) := by decide +kernel
theorem dJ13_bitCount_95d88_22 : decode cJ13_bitCount_95d88 22 = .ok (.ladd, 1) := by decide +kernel
theorem dJ13_bitCount_95d88_23 : decode cJ13_bitCount_95d88 23 = .ok (.lstore_n 0, 1) := by decide +kernel
theorem dJ13_bitCount_95d88_24 : decode cJ13_bitCount_95d88 24 = .ok (.lload_n 0, 1) := by decide +kernel
theorem dJ13_bitCount_95d88_25 : decode cJ13_bitCount_95d88 25 = .ok (.lload_n 0, 1) := by decide +kernel
theorem dJ13_bitCount_95d88_26 : decode cJ13_bitCount_95d88 26 = .ok (.iconst 4, 1) := by decide +kernel
theorem dJ13_bitCount_95d88_27 : decode cJ13_bitCount_95d88 27 = .ok (.lushr, 1) := by decide +kernel
theorem dJ13_bitCount_95d88_28 : decode cJ13_bitCount_95d88 28 = .ok (.ladd, 1) := by decide +kernel
theorem dJ13_bitCount_95d88_29 : decode cJ13_bitCount_95d88 29 = .ok (.ldc2_w 318, 3) := by decide +kernel
theorem dJ13_bitCount_95d88_32 : decode cJ13_bitCount_95d88 32 = .ok (.land, 1) := by decide +kernel
theorem dJ13_bitCount_95d88_33 : decode cJ13_bitCount_95d88 33 = .ok (.lstore_n 0, 1) := by decide +kernel
theorem dJ13_bitCount_95d88_34 : decode cJ13_bitCount_95d88 34 = .ok (.lload_n 0, 1) := by decide +kernel
theorem dJ13_bitCount_95d88_35 : decode cJ13_bitCount_95d88 35 = .ok (.lload_n 0, 1) := by decide +kernel
theorem dJ13_bitCount_95d88_36 : decode cJ13_bitCount_95d88 36 = .ok (.bipush 8, 2) := by decide +kernel
theorem dJ13_bitCount_95d88_38 : decode cJ13_bitCount_95d88 38 = .ok (.lushr, 1) := by decide +kernel
theorem dJ13_bitCount_95d88_39 : decode cJ13_bitCount_95d88 39 = .ok (.ladd, 1) := by decide +kernel
theorem dJ13_bitCount_95d88_40 : decode cJ13_bitCount_95d88 40 = .ok (.lstore_n 0, 1) := by decide +kernel
theorem dJ13_bitCount_95d88_41 : decode cJ13_bitCount_95d88 41 = .ok (.lload_n 0, 1) := by decide +kernel
theorem dJ13_bitCount_95d88_42 : decode cJ13_bitCount_95d88 42 = .ok (.lload_n 0, 1) := by decide +kernel
theorem dJ13_bitCount_95d88_43 : decode cJ13_bitCount_95d88 43 = .ok (.bipush 16, 2) := by decide +kernel
theorem dJ13_bitCount_95d88_45 : decode cJ13_bitCount_95d88 45 = .ok (.lushr, 1) := by decide +kernel
theorem dJ13_bitCount_95d88_46 : decode cJ13_bitCount_95d88 46 = .ok (.ladd, 1) := by decide +kernel
theorem dJ13_bitCount_95d88_47 : decode cJ13_bitCount_95d88 47 = .ok (.lstore_n 0, 1) := by decide +kernel
theorem dJ13_bitCount_95d88_48 : decode cJ13_bitCount_95d88 48 = .ok (.lload_n 0, 1) := by decide +kernel
theorem dJ13_bitCount_95d88_49 : decode cJ13_bitCount_95d88 49 = .ok (.lload_n 0, 1) := by decide +kernel
theorem dJ13_bitCount_95d88_50 : decode cJ13_bitCount_95d88 50 = .ok (.bipush 32, 2) := by decide +kernel
theorem dJ13_bitCount_95d88_52 : decode cJ13_bitCount_95d88 52 = .ok (.lushr, 1) := by decide +kernel
theorem dJ13_bitCount_95d88_53 : decode cJ13_bitCount_95d88 53 = .ok (.ladd, 1) := by decide +kernel
theorem dJ13_bitCount_95d88_54 : decode cJ13_bitCount_95d88 54 = .ok (.lstore_n 0, 1) := by decide +kernel
theorem dJ13_bitCount_95d88_55 : decode cJ13_bitCount_95d88 55 = .ok (.lload_n 0, 1) := by decide +kernel
theorem dJ13_bitCount_95d88_56 : decode cJ13_bitCount_95d88 56 = .ok (.l2i, 1) := by decide +kernel
theorem dJ13_bitCount_95d88_57 : decode cJ13_bitCount_95d88 57 = .ok (.bipush 127, 2) := by decide +kernel
theorem dJ13_bitCount_95d88_59 : decode cJ13_bitCount_95d88 59 = .ok (.iand, 1) := by decide +kernel
theorem dJ13_bitCount_95d88_60 : decode cJ13_bitCount_95d88 60 = .ok (.ireturn, 1) := by decide +kernel
theorem dJ6_bitCount_0f7a4_0 : decode cJ6_bitCount_0f7a4 0 = .ok (.iload_n 0, 1) := by decide +kernel
theorem dJ6_bitCount_0f7a4_1 : decode cJ6_bitCount_0f7a4 1 = .ok (.iload_n 0, 1) := by decide +kernel
theorem dJ6_bitCount_0f7a4_2 : decode cJ6_bitCount_0f7a4 2 = .ok (.iconst 1, 1) := by decide +kernel
theorem dJ6_bitCount_0f7a4_3 : decode cJ6_bitCount_0f7a4 3 = .ok (.iushr, 1) := by decide +kernel
theorem dJ6_bitCount_0f7a4_4 : decode cJ6_bitCount_0f7a4 4 = .ok (.ldc_w 265, 3) := by decide +kernel
theorem dJ6_bitCount_0f7a4_7 : decode cJ6_bitCount_0f7a4 7 = .ok (.iand, 1) := by decide +kernel
theorem dJ6_bitCount_0f7a4_8 : decode cJ6_bitCount_0f7a4 8 = .ok (.isub, 1) := by decide +kernel
theorem dJ6_bitCount_0f7a4_9 : decode cJ6_bitCount_0f7a4 9 = .ok (.istore_n 0, 1) := by decide +kernel
theorem dJ6_bitCount_0f7a4_10 : decode cJ6_bitCount_0f7a4 10 = .ok (.iload_n 0, 1) := by decide +kernel
theorem dJ6_bitCount_0f7a4_11 : decode cJ6_bitCount_0f7a4 11 = .ok (.ldc_w 266, 3) := by decide +kernel
theorem dJ6_bitCount_0f7a4_14 : decode cJ6_bitCount_0f7a4 14 = .ok (.iand, 1) := by decide +kernel
theorem dJ6_bitCount_0f7a4_15 : decode cJ6_bitCount_0f7a4 15 = .ok (.iload_n 0, 1) := by decide +kernel
theorem dJ6_bitCount_0f7a4_16 : decode cJ6_bitCount_0f7a4 16 = .ok (.iconst 2, 1) := by decide +kernel
theorem dJ6_bitCount_0f7a4_17 : decode cJ6_bitCount_0f7a4 17 = .ok (.iushr, 1) := by decide +kernel
theorem dJ6_bitCount_0f7a4_18 : decode cJ6_bitCount_0f7a4 18 = .ok (.ldc_w 266, 3) := by decide +kernel
theorem dJ6_bitCount_0f7a4_21 : decode cJ6_bitCount_0f7a4 21 = .ok (.iand, 1) := by decide +kernel
theorem dJ6_bitCount_0f7a4_22 : decode cJ6_bitCount_0f7a4 22 = .ok (.iadd, 1) := by decide +kernel
theorem dJ6_bitCount_0f7a4_23 : decode cJ6_bitCount_0f7a4 23 = .ok (.istore_n 0, 1) := by decide +kernel
theorem dJ6_bitCount_0f7a4_24 : decode cJ6_bitCount_0f7a4 24 = .ok (.iload_n 0, 1) := by decide +kernel
theorem dJ6_bitCount_0f7a4_25 : decode cJ6_bitCount_0f7a4 25 = .ok (.iload_n 0, 1) := by decide +kernel
theorem dJ6_bitCount_0f7a4_26 : decode cJ6_bitCount_0f7a4 26 = .ok (.iconst 4, 1) := by decide +kernel
theorem dJ6_bitCount_0f7a4_27 : decode cJ6_bitCount_0f7a4 27 = .ok (.iushr, 1) := by decide +kernel
theorem dJ6_bitCount_0f7a4_28 : decode cJ6_bitCount_0f7a4 28 = .ok (.iadd, 1) := by decide +kernel
theorem dJ6_bitCount_0f7a4_29 : decode cJ6_bitCount_0f7a4 29 = .ok (.ldc_w 267, 3) := by decide +kernel
theorem dJ6_bitCount_0f7a4_32 : decode cJ6_bitCount_0f7a4 32 = .ok (.iand, 1) := by decide +kernel
theorem dJ6_bitCount_0f7a4_33 : decode cJ6_bitCount_0f7a4 33 = .ok (.istore_n 0, 1) := by decide +kernel
theorem dJ6_bitCount_0f7a4_34 : decode cJ6_bitCount_0f7a4 34 = .ok (.iload_n 0, 1) := by decide +kernel
theorem dJ6_bitCount_0f7a4_35 : decode cJ6_bitCount_0f7a4 35 = .ok (.iload_n 0, 1) := by decide +kernel
theorem dJ6_bitCount_0f7a4_36 : decode cJ6_bitCount_0f7a4 36 = .ok (.bipush 8, 2) := by decide +kernel
theorem dJ6_bitCount_0f7a4_38 : decode cJ6_bitCount_0f7a4 38 = .ok (.iushr, 1) := by decide +kernel
theorem dJ6_bitCount_0f7a4_39 : decode cJ6_bitCount_0f7a4 39 = .ok (.iadd, 1) := by decide +kernel
theorem dJ6_bitCount_0f7a4_40 : decode cJ6_bitCount_0f7a4 40 = .ok (.istore_n 0, 1) := by decide +kernel
theorem dJ6_bitCount_0f7a4_41 : decode cJ6_bitCount_0f7a4 41 = .ok (.iload_n 0, 1) := by decide +kernel
theorem dJ6_bitCount_0f7a4_42 : decode cJ6_bitCount_0f7a4 42 = .ok (.iload_n 0, 1) := by decide +kernel
theorem dJ6_bitCount_0f7a4_43 : decode cJ6_bitCount_0f7a4 43 = .ok (.bipush 16, 2) := by decide +kernel
theorem dJ6_bitCount_0f7a4_45 : decode cJ6_bitCount_0f7a4 45 = .ok (.iushr, 1) := by decide +kernel
theorem dJ6_bitCount_0f7a4_46 : decode cJ6_bitCount_0f7a4 46 = .ok (.iadd, 1) := by decide +kernel
theorem dJ6_bitCount_0f7a4_47 : decode cJ6_bitCount_0f7a4 47 = .ok (.istore_n 0, 1) := by decide +kernel
theorem dJ6_bitCount_0f7a4_48 : decode cJ6_bitCount_0f7a4 48 = .ok (.iload_n 0, 1) := by decide +kernel
theorem dJ6_bitCount_0f7a4_49 : decode cJ6_bitCount_0f7a4 49 = .ok (.bipush 63, 2) := by decide +kernel
theorem dJ6_bitCount_0f7a4_51 : decode cJ6_bitCount_0f7a4 51 = .ok (.iand, 1) := by decide +kernel
theorem dJ6_bitCount_0f7a4_52 : decode cJ6_bitCount_0f7a4 52 = .ok (.ireturn, 1) := by decide +kernel
theorem dJ7_fill_53178_0 : decode cJ7_fill_53178 0 = .ok (.iconst 0, 1) := by decide +kernel
theorem dJ7_fill_53178_1 : decode cJ7_fill_53178 1 = .ok (.istore_n 2, 1) := by decide +kernel
theorem dJ7_fill_53178_2 : decode cJ7_fill_53178 2 = .ok (.aload_n 0, 1) := by decide +kernel
theorem dJ7_fill_53178_3 : decode cJ7_fill_53178 3 = .ok (.arraylength, 1) := by decide +kernel
theorem dJ7_fill_53178_4 : decode cJ7_fill_53178 4 = .ok (.istore_n 3, 1) := by decide +kernel
theorem dJ7_fill_53178_5 : decode cJ7_fill_53178 5 = .ok (.iload_n 2, 1) := by decide +kernel
theorem dJ7_fill_53178_6 : decode cJ7_fill_53178 6 = .ok (.iload_n 3, 1) := by decide +kernel
theorem dJ7_fill_53178_7 : decode cJ7_fill_53178 7 = .ok (.if_icmp .ge 13, 3) := by decide +kernel
theorem dJ7_fill_53178_10 : decode cJ7_fill_53178 10 = .ok (.aload_n 0, 1) := by decide +kernel
theorem dJ7_fill_53178_11 : decode cJ7_fill_53178 11 = .ok (.iload_n 2, 1) := by decide +kernel
theorem dJ7_fill_53178_12 : decode cJ7_fill_53178 12 = .ok (.iload_n 1, 1) := by decide +kernel
theorem dJ7_fill_53178_13 : decode cJ7_fill_53178 13 = .ok (.iastore, 1) := by decide +kernel
theorem dJ7_fill_53178_14 : decode cJ7_fill_53178 14 = .ok (.iinc 2 1, 3) := by decide +kernel
theorem dJ7_fill_53178_17 : decode cJ7_fill_53178 17 = .ok (.goto (-12), 3) := by decide +kernel
theorem dJ7_fill_53178_20 : decode cJ7_fill_53178 20 = .ok (.return_, 1) := by decide +kernel
theorem dJ7_fill_d0a16_0 : decode cJ7_fill_d0a16 0 = .ok (.iconst 0, 1) := by decide +kernel
theorem dJ7_fill_d0a16_1 : decode cJ7_fill_d0a16 1 = .ok (.istore_n 3, 1) := by decide +kernel
theorem dJ7_fill_d0a16_2 : decode cJ7_fill_d0a16 2 = .ok (.aload_n 0, 1) := by decide +kernel
theorem dJ7_fill_d0a16_3 : decode cJ7_fill_d0a16 3 = .ok (.arraylength, 1) := by decide +kernel
theorem dJ7_fill_d0a16_4 : decode cJ7_fill_d0a16 4 = .ok (.istore 4, 2) := by decide +kernel
theorem dJ7_fill_d0a16_6 : decode cJ7_fill_d0a16 6 = .ok (.iload_n 3, 1) := by decide +kernel
theorem dJ7_fill_d0a16_7 : decode cJ7_fill_d0a16 7 = .ok (.iload 4, 2) := by decide +kernel
theorem dJ7_fill_d0a16_9 : decode cJ7_fill_d0a16 9 = .ok (.if_icmp .ge 13, 3) := by decide +kernel
theorem dJ7_fill_d0a16_12 : decode cJ7_fill_d0a16 12 = .ok (.aload_n 0, 1) := by decide +kernel
theorem dJ7_fill_d0a16_13 : decode cJ7_fill_d0a16 13 = .ok (.iload_n 3, 1) := by decide +kernel
theorem dJ7_fill_d0a16_14 : decode cJ7_fill_d0a16 14 = .ok (.lload_n 1, 1) := by decide +kernel
theorem dJ7_fill_d0a16_15 : decode cJ7_fill_d0a16 15 = .ok (.lastore, 1) := by decide +kernel
theorem dJ7_fill_d0a16_16 : decode cJ7_fill_d0a16 16 = .ok (.iinc 3 1, 3) := by decide +kernel
theorem dJ7_fill_d0a16_19 : decode cJ7_fill_d0a16 19 = .ok (.goto (-13), 3) := by decide +kernel
theorem dJ7_fill_d0a16_22 : decode cJ7_fill_d0a16 22 = .ok (.return_, 1) := by decide +kernel
theorem dX0_anchorTells_0 : decode cX0_anchorTells 0 = .ok (.aload_n 0, 1) := by decide +kernel
theorem dX0_anchorTells_1 : decode cX0_anchorTells 1 = .ok (.iconst 2, 1) := by decide +kernel
theorem dX0_anchorTells_2 : decode cX0_anchorTells 2 = .ok (.invokevirtual 65, 3) := by decide +kernel
theorem dX0_anchorTells_5 : decode cX0_anchorTells 5 = .ok (.aload_n 0, 1) := by decide +kernel
theorem dX0_anchorTells_6 : decode cX0_anchorTells 6 = .ok (.aload_n 1, 1) := by decide +kernel
theorem dX0_anchorTells_7 : decode cX0_anchorTells 7 = .ok (.invokevirtual 27, 3) := by decide +kernel
theorem dX0_anchorTells_10 : decode cX0_anchorTells 10 = .ok (.aload_n 1, 1) := by decide +kernel
theorem dX0_anchorTells_11 : decode cX0_anchorTells 11 = .ok (.getfield 72, 3) := by decide +kernel
theorem dX0_anchorTells_14 : decode cX0_anchorTells 14 = .ok (.iadd, 1) := by decide +kernel
theorem dX0_anchorTells_15 : decode cX0_anchorTells 15 = .ok (.ireturn, 1) := by decide +kernel
theorem dX0_beaconGreets_0 : decode cX0_beaconGreets 0 = .ok (.aload_n 0, 1) := by decide +kernel
theorem dX0_beaconGreets_1 : decode cX0_beaconGreets 1 = .ok (.bipush 10, 2) := by decide +kernel
theorem dX0_beaconGreets_3 : decode cX0_beaconGreets 3 = .ok (.invokevirtual 65, 3) := by decide +kernel
theorem dX0_beaconGreets_6 : decode cX0_beaconGreets 6 = .ok (.sipush 500, 3) := by decide +kernel
theorem dX0_beaconGreets_9 : decode cX0_beaconGreets 9 = .ok (.aload_n 0, 1) := by decide +kernel
theorem dX0_beaconGreets_10 : decode cX0_beaconGreets 10 = .ok (.aload_n 1, 1) := by decide +kernel
theorem dX0_beaconGreets_11 : decode cX0_beaconGreets 11 = .ok (.invokevirtual 52, 3) := by decide +kernel
theorem dX0_beaconGreets_14 : decode cX0_beaconGreets 14 = .ok (.iadd, 1) := by decide +kernel
theorem dX0_beaconGreets_15 : decode cX0_beaconGreets 15 = .ok (.ireturn, 1) := by decide +kernel
theorem dX0_beaconTells_0 : decode cX0_beaconTells 0 = .ok (.aload_n 0, 1) := by decide +kernel
theorem dX0_beaconTells_1 : decode cX0_beaconTells 1 = .ok (.iconst 3, 1) := by decide +kernel
theorem dX0_beaconTells_2 : decode cX0_beaconTells 2 = .ok (.invokevirtual 65, 3) := by decide +kernel
theorem dX0_beaconTells_5 : decode cX0_beaconTells 5 = .ok (.aload_n 0, 1) := by decide +kernel
theorem dX0_beaconTells_6 : decode cX0_beaconTells 6 = .ok (.aload_n 1, 1) := by decide +kernel
theorem dX0_beaconTells_7 : decode cX0_beaconTells 7 = .ok (.invokevirtual 24, 3) := by decide +kernel
theorem dX0_beaconTells_10 : decode cX0_beaconTells 10 = .ok (.aload_n 0, 1) := by decide +kernel
theorem dX0_beaconTells_11 : decode cX0_beaconTells 11 = .ok (.aload_n 1, 1) := by decide +kernel
theorem dX0_beaconTells_12 : decode cX0_beaconTells 12 = .ok (.invokevirtual 27, 3) := by decide +kernel
theorem dX0_beaconTells_15 : decode cX0_beaconTells 15 = .ok (.iadd, 1) := by decide +kernel
theorem dX0_beaconTells_16 : decode cX0_beaconTells 16 = .ok (.ireturn, 1) := by decide +kernel
theorem dX0_deafTells_0 : decode cX0_deafTells 0 = .ok (.aload_n 0, 1) := by decide +kernel
theorem dX0_deafTells_1 : decode cX0_deafTells 1 = .ok (.bipush 7, 2) := by decide +kernel
theorem dX0_deafTells_3 : decode cX0_deafTells 3 = .ok (.invokevirtual 65, 3) := by decide +kernel
theorem dX0_deafTells_6 : decode cX0_deafTells 6 = .ok (.aload_n 0, 1) := by decide +kernel
theorem dX0_deafTells_7 : decode cX0_deafTells 7 = .ok (.aload_n 1, 1) := by decide +kernel
theorem dX0_deafTells_8 : decode cX0_deafTells 8 = .ok (.invokevirtual 37, 3) := by decide +kernel
theorem dX0_deafTells_11 : decode cX0_deafTells 11 = .ok (.aload_n 0, 1) := by decide +kernel
theorem dX0_deafTells_12 : decode cX0_deafTells 12 = .ok (.aload_n 1, 1) := by decide +kernel
theorem dX0_deafTells_13 : decode cX0_deafTells 13 = .ok (.invokevirtual 46, 3) := by decide +kernel
theorem dX0_deafTells_16 : decode cX0_deafTells 16 = .ok (.iadd, 1) := by decide +kernel
theorem dX0_deafTells_17 : decode cX0_deafTells 17 = .ok (.ireturn, 1) := by decide +kernel
theorem dX0_farTells_0 : decode cX0_farTells 0 = .ok (.aload_n 0, 1) := by decide +kernel
theorem dX0_farTells_1 : decode cX0_farTells 1 = .ok (.iconst 5, 1) := by decide +kernel
theorem dX0_farTells_2 : decode cX0_farTells 2 = .ok (.invokevirtual 65, 3) := by decide +kernel
theorem dX0_farTells_5 : decode cX0_farTells 5 = .ok (.aload_n 0, 1) := by decide +kernel
theorem dX0_farTells_6 : decode cX0_farTells 6 = .ok (.aload_n 1, 1) := by decide +kernel
theorem dX0_farTells_7 : decode cX0_farTells 7 = .ok (.invokevirtual 46, 3) := by decide +kernel
theorem dX0_farTells_10 : decode cX0_farTells 10 = .ok (.aload_n 1, 1) := by decide +kernel
theorem dX0_farTells_11 : decode cX0_farTells 11 = .ok (.getfield 81, 3) := by decide +kernel
theorem dX0_farTells_14 : decode cX0_farTells 14 = .ok (.iadd, 1) := by decide +kernel
theorem dX0_farTells_15 : decode cX0_farTells 15 = .ok (.aload_n 1, 1) := by decide +kernel
theorem dX0_farTells_16 : decode cX0_farTells 16 = .ok (.getfield 84, 3) := by decide +kernel
theorem dX0_farTells_19 : decode cX0_farTells 19 = .ok (.iadd, 1) := by decide +kernel
theorem dX0_farTells_20 : decode cX0_farTells 20 = .ok (.ireturn, 1) := by decide +kernel
theorem dX0_greetingOf_0 : decode cX0_greetingOf 0 = .ok (.aload_n 1, 1) := by decide +kernel
theorem dX0_greetingOf_1 : decode cX0_greetingOf 1 = .ok (.getfield 15, 3) := by decide +kernel
theorem dX0_greetingOf_4 : decode cX0_greetingOf 4 = .ok (.iconst 2, 1) := by decide +kernel
theorem dX0_greetingOf_5 : decode cX0_greetingOf 5 = .ok (.if_icmp .ne 11, 3) := by decide +kernel
theorem dX0_greetingOf_8 : decode cX0_greetingOf 8 = .ok (.aload_n 0, 1) := by decide +kernel
theorem dX0_greetingOf_9 : decode cX0_greetingOf 9 = .ok (.aload_n 1, 1) := by decide +kernel
theorem dX0_greetingOf_10 : decode cX0_greetingOf 10 = .ok (.invokevirtual 49, 3) := by decide +kernel
theorem dX0_greetingOf_13 : decode cX0_greetingOf 13 = .ok (.goto 8, 3) := by decide +kernel
theorem dX0_greetingOf_16 : decode cX0_greetingOf 16 = .ok (.aload_n 0, 1) := by decide +kernel
theorem dX0_greetingOf_17 : decode cX0_greetingOf 17 = .ok (.aload_n 1, 1) := by decide +kernel
theorem dX0_greetingOf_18 : decode cX0_greetingOf 18 = .ok (.invokevirtual 52, 3) := by decide +kernel
theorem dX0_greetingOf_21 : decode cX0_greetingOf 21 = .ok (.ireturn, 1) := by decide +kernel
theorem dX0_hearsTells_0 : decode cX0_hearsTells 0 = .ok (.aload_n 0, 1) := by decide +kernel
theorem dX0_hearsTells_1 : decode cX0_hearsTells 1 = .ok (.bipush 6, 2) := by decide +kernel
theorem dX0_hearsTells_3 : decode cX0_hearsTells 3 = .ok (.invokevirtual 65, 3) := by decide +kernel
theorem dX0_hearsTells_6 : decode cX0_hearsTells 6 = .ok (.aload_n 0, 1) := by decide +kernel
theorem dX0_hearsTells_7 : decode cX0_hearsTells 7 = .ok (.aload_n 1, 1) := by decide +kernel
theorem dX0_hearsTells_8 : decode cX0_hearsTells 8 = .ok (.invokevirtual 33, 3) := by decide +kernel
theorem dX0_hearsTells_11 : decode cX0_hearsTells 11 = .ok (.sipush 1000, 3) := by decide +kernel
theorem dX0_hearsTells_14 : decode cX0_hearsTells 14 = .ok (.isub, 1) := by decide +kernel
theorem dX0_hearsTells_15 : decode cX0_hearsTells 15 = .ok (.ireturn, 1) := by decide +kernel
theorem dX0_hearsWeighs_0 : decode cX0_hearsWeighs 0 = .ok (.aload_n 0, 1) := by decide +kernel
theorem dX0_hearsWeighs_1 : decode cX0_hearsWeighs 1 = .ok (.bipush 12, 2) := by decide +kernel
theorem dX0_hearsWeighs_3 : decode cX0_hearsWeighs 3 = .ok (.invokevirtual 65, 3) := by decide +kernel
theorem dX0_hearsWeighs_6 : decode cX0_hearsWeighs 6 = .ok (.bipush 7, 2) := by decide +kernel
theorem dX0_hearsWeighs_8 : decode cX0_hearsWeighs 8 = .ok (.ireturn, 1) := by decide +kernel
theorem dX0_init_0 : decode cX0_init 0 = .ok (.aload_n 0, 1) := by decide +kernel
theorem dX0_init_1 : decode cX0_init 1 = .ok (.invokespecial 3, 3) := by decide +kernel
theorem dX0_init_4 : decode cX0_init 4 = .ok (.aload_n 0, 1) := by decide +kernel
theorem dX0_init_5 : decode cX0_init 5 = .ok (.iconst 0, 1) := by decide +kernel
theorem dX0_init_6 : decode cX0_init 6 = .ok (.putfield 9, 3) := by decide +kernel
theorem dX0_init_9 : decode cX0_init 9 = .ok (.return_, 1) := by decide +kernel
theorem dX0_leave_0 : decode cX0_leave 0 = .ok (.aload_n 0, 1) := by decide +kernel
theorem dX0_leave_1 : decode cX0_leave 1 = .ok (.bipush 31, 2) := by decide +kernel
theorem dX0_leave_3 : decode cX0_leave 3 = .ok (.aload_n 0, 1) := by decide +kernel
theorem dX0_leave_4 : decode cX0_leave 4 = .ok (.getfield 9, 3) := by decide +kernel
theorem dX0_leave_7 : decode cX0_leave 7 = .ok (.imul, 1) := by decide +kernel
theorem dX0_leave_8 : decode cX0_leave 8 = .ok (.iload_n 1, 1) := by decide +kernel
theorem dX0_leave_9 : decode cX0_leave 9 = .ok (.iadd, 1) := by decide +kernel
theorem dX0_leave_10 : decode cX0_leave 10 = .ok (.putfield 9, 3) := by decide +kernel
theorem dX0_leave_13 : decode cX0_leave 13 = .ok (.return_, 1) := by decide +kernel
theorem dX0_measureTells_0 : decode cX0_measureTells 0 = .ok (.aload_n 0, 1) := by decide +kernel
theorem dX0_measureTells_1 : decode cX0_measureTells 1 = .ok (.iconst 4, 1) := by decide +kernel
theorem dX0_measureTells_2 : decode cX0_measureTells 2 = .ok (.invokevirtual 65, 3) := by decide +kernel
theorem dX0_measureTells_5 : decode cX0_measureTells 5 = .ok (.aload_n 1, 1) := by decide +kernel
theorem dX0_measureTells_6 : decode cX0_measureTells 6 = .ok (.getfield 75, 3) := by decide +kernel
theorem dX0_measureTells_9 : decode cX0_measureTells 9 = .ok (.aload_n 1, 1) := by decide +kernel
theorem dX0_measureTells_10 : decode cX0_measureTells 10 = .ok (.getfield 78, 3) := by decide +kernel
theorem dX0_measureTells_13 : decode cX0_measureTells 13 = .ok (.iadd, 1) := by decide +kernel
theorem dX0_measureTells_14 : decode cX0_measureTells 14 = .ok (.ireturn, 1) := by decide +kernel
theorem dX0_measureWeighs_0 : decode cX0_measureWeighs 0 = .ok (.aload_n 0, 1) := by decide +kernel
theorem dX0_measureWeighs_1 : decode cX0_measureWeighs 1 = .ok (.bipush 11, 2) := by decide +kernel
theorem dX0_measureWeighs_3 : decode cX0_measureWeighs 3 = .ok (.invokevirtual 65, 3) := by decide +kernel
theorem dX0_measureWeighs_6 : decode cX0_measureWeighs 6 = .ok (.bipush 10, 2) := by decide +kernel
theorem dX0_measureWeighs_8 : decode cX0_measureWeighs 8 = .ok (.aload_n 1, 1) := by decide +kernel
theorem dX0_measureWeighs_9 : decode cX0_measureWeighs 9 = .ok (.getfield 30, 3) := by decide +kernel
theorem dX0_measureWeighs_12 : decode cX0_measureWeighs 12 = .ok (.iadd, 1) := by decide +kernel
theorem dX0_measureWeighs_13 : decode cX0_measureWeighs 13 = .ok (.ireturn, 1) := by decide +kernel
theorem dX0_stepsTells_0 : decode cX0_stepsTells 0 = .ok (.aload_n 0, 1) := by decide +kernel
theorem dX0_stepsTells_1 : decode cX0_stepsTells 1 = .ok (.bipush 8, 2) := by decide +kernel
theorem dX0_stepsTells_3 : decode cX0_stepsTells 3 = .ok (.invokevirtual 65, 3) := by decide +kernel
theorem dX0_stepsTells_6 : decode cX0_stepsTells 6 = .ok (.iconst 2, 1) := by decide +kernel
theorem dX0_stepsTells_7 : decode cX0_stepsTells 7 = .ok (.aload_n 0, 1) := by decide +kernel
theorem dX0_stepsTells_8 : decode cX0_stepsTells 8 = .ok (.aload_n 1, 1) := by decide +kernel
theorem dX0_stepsTells_9 : decode cX0_stepsTells 9 = .ok (.invokevirtual 33, 3) := by decide +kernel
theorem dX0_stepsTells_12 : decode cX0_stepsTells 12 = .ok (.imul, 1) := by decide +kernel
theorem dX0_stepsTells_13 : decode cX0_stepsTells 13 = .ok (.ireturn, 1) := by decide +kernel
theorem dX0_stepsWeighs_0 : decode cX0_stepsWeighs 0 = .ok (.aload_n 0, 1) := by decide +kernel
theorem dX0_stepsWeighs_1 : decode cX0_stepsWeighs 1 = .ok (.bipush 13, 2) := by decide +kernel
theorem dX0_stepsWeighs_3 : decode cX0_stepsWeighs 3 = .ok (.invokevirtual 65, 3) := by decide +kernel
theorem dX0_stepsWeighs_6 : decode cX0_stepsWeighs 6 = .ok (.aload_n 0, 1) := by decide +kernel
theorem dX0_stepsWeighs_7 : decode cX0_stepsWeighs 7 = .ok (.invokevirtual 55, 3) := by decide +kernel
theorem dX0_stepsWeighs_10 : decode cX0_stepsWeighs 10 = .ok (.aload_n 0, 1) := by decide +kernel
theorem dX0_stepsWeighs_11 : decode cX0_stepsWeighs 11 = .ok (.aload_n 1, 1) := by decide +kernel
theorem dX0_stepsWeighs_12 : decode cX0_stepsWeighs 12 = .ok (.invokevirtual 62, 3) := by decide +kernel
theorem dX0_stepsWeighs_15 : decode cX0_stepsWeighs 15 = .ok (.iadd, 1) := by decide +kernel
theorem dX0_stepsWeighs_16 : decode cX0_stepsWeighs 16 = .ok (.ireturn, 1) := by decide +kernel
theorem dX0_tellingOf_0 : decode cX0_tellingOf 0 = .ok (.aload_n 1, 1) := by decide +kernel
theorem dX0_tellingOf_1 : decode cX0_tellingOf 1 = .ok (.getfield 15, 3) := by decide +kernel
theorem dX0_tellingOf_4 : decode cX0_tellingOf 4 = .ok (.lookupswitch 40 #[(1, 34), (2, 28)], 28) := by decide +kernel
theorem dX0_tellingOf_32 : decode cX0_tellingOf 32 = .ok (.aload_n 0, 1) := by decide +kernel
theorem dX0_tellingOf_33 : decode cX0_tellingOf 33 = .ok (.aload_n 1, 1) := by decide +kernel
theorem dX0_tellingOf_34 : decode cX0_tellingOf 34 = .ok (.invokevirtual 20, 3) := by decide +kernel
theorem dX0_tellingOf_37 : decode cX0_tellingOf 37 = .ok (.ireturn, 1) := by decide +kernel
theorem dX0_tellingOf_38 : decode cX0_tellingOf 38 = .ok (.aload_n 0, 1) := by decide +kernel
theorem dX0_tellingOf_39 : decode cX0_tellingOf 39 = .ok (.aload_n 1, 1) := by decide +kernel
theorem dX0_tellingOf_40 : decode cX0_tellingOf 40 = .ok (.invokevirtual 24, 3) := by decide +kernel
theorem dX0_tellingOf_43 : decode cX0_tellingOf 43 = .ok (.ireturn, 1) := by decide +kernel
theorem dX0_tellingOf_44 : decode cX0_tellingOf 44 = .ok (.aload_n 0, 1) := by decide +kernel
theorem dX0_tellingOf_45 : decode cX0_tellingOf 45 = .ok (.aload_n 1, 1) := by decide +kernel
theorem dX0_tellingOf_46 : decode cX0_tellingOf 46 = .ok (.invokevirtual 27, 3) := by decide +kernel
theorem dX0_tellingOf_49 : decode cX0_tellingOf 49 = .ok (.ireturn, 1) := by decide +kernel
theorem dX0_tellingOf__0 : decode cX0_tellingOf_ 0 = .ok (.aload_n 1, 1) := by decide +kernel
theorem dX0_tellingOf__1 : decode cX0_tellingOf_ 1 = .ok (.getfield 30, 3) := by decide +kernel
theorem dX0_tellingOf__4 : decode cX0_tellingOf_ 4 = .ok (.tableswitch 60 0 4 #[36, 42, 48, 60, 54], 36) := by decide +kernel
theorem dX0_tellingOf__40 : decode cX0_tellingOf_ 40 = .ok (.aload_n 0, 1) := by decide +kernel
theorem dX0_tellingOf__41 : decode cX0_tellingOf_ 41 = .ok (.aload_n 1, 1) := by decide +kernel
theorem dX0_tellingOf__42 : decode cX0_tellingOf_ 42 = .ok (.invokevirtual 33, 3) := by decide +kernel
theorem dX0_tellingOf__45 : decode cX0_tellingOf_ 45 = .ok (.ireturn, 1) := by decide +kernel
theorem dX0_tellingOf__46 : decode cX0_tellingOf_ 46 = .ok (.aload_n 0, 1) := by decide +kernel
theorem dX0_tellingOf__47 : decode cX0_tellingOf_ 47 = .ok (.aload_n 1, 1) := by decide +kernel
theorem dX0_tellingOf__48 : decode cX0_tellingOf_ 48 = .ok (.invokevirtual 37, 3) := by decide +kernel
theorem dX0_tellingOf__51 : decode cX0_tellingOf_ 51 = .ok (.ireturn, 1) := by decide +kernel
theorem dX0_tellingOf__52 : decode cX0_tellingOf_ 52 = .ok (.aload_n 0, 1) := by decide +kernel
theorem dX0_tellingOf__53 : decode cX0_tellingOf_ 53 = .ok (.aload_n 1, 1) := by decide +kernel
theorem dX0_tellingOf__54 : decode cX0_tellingOf_ 54 = .ok (.invokevirtual 40, 3) := by decide +kernel
theorem dX0_tellingOf__57 : decode cX0_tellingOf_ 57 = .ok (.ireturn, 1) := by decide +kernel
theorem dX0_tellingOf__58 : decode cX0_tellingOf_ 58 = .ok (.aload_n 0, 1) := by decide +kernel
theorem dX0_tellingOf__59 : decode cX0_tellingOf_ 59 = .ok (.aload_n 1, 1) := by decide +kernel
theorem dX0_tellingOf__60 : decode cX0_tellingOf_ 60 = .ok (.invokevirtual 43, 3) := by decide +kernel
theorem dX0_tellingOf__63 : decode cX0_tellingOf_ 63 = .ok (.ireturn, 1) := by decide +kernel
theorem dX0_tellingOf__64 : decode cX0_tellingOf_ 64 = .ok (.aload_n 0, 1) := by decide +kernel
theorem dX0_tellingOf__65 : decode cX0_tellingOf_ 65 = .ok (.aload_n 1, 1) := by decide +kernel
theorem dX0_tellingOf__66 : decode cX0_tellingOf_ 66 = .ok (.invokevirtual 46, 3) := by decide +kernel
theorem dX0_tellingOf__69 : decode cX0_tellingOf_ 69 = .ok (.ireturn, 1) := by decide +kernel
theorem dX0_thingGreets_0 : decode cX0_thingGreets 0 = .ok (.aload_n 0, 1) := by decide +kernel
theorem dX0_thingGreets_1 : decode cX0_thingGreets 1 = .ok (.bipush 9, 2) := by decide +kernel
theorem dX0_thingGreets_3 : decode cX0_thingGreets 3 = .ok (.invokevirtual 65, 3) := by decide +kernel
theorem dX0_thingGreets_6 : decode cX0_thingGreets 6 = .ok (.aload_n 1, 1) := by decide +kernel
theorem dX0_thingGreets_7 : decode cX0_thingGreets 7 = .ok (.getfield 69, 3) := by decide +kernel
theorem dX0_thingGreets_10 : decode cX0_thingGreets 10 = .ok (.ireturn, 1) := by decide +kernel
theorem dX0_thingTells_0 : decode cX0_thingTells 0 = .ok (.aload_n 0, 1) := by decide +kernel
theorem dX0_thingTells_1 : decode cX0_thingTells 1 = .ok (.iconst 1, 1) := by decide +kernel
theorem dX0_thingTells_2 : decode cX0_thingTells 2 = .ok (.invokevirtual 65, 3) := by decide +kernel
theorem dX0_thingTells_5 : decode cX0_thingTells 5 = .ok (.iconst 3, 1) := by decide +kernel
theorem dX0_thingTells_6 : decode cX0_thingTells 6 = .ok (.aload_n 1, 1) := by decide +kernel
theorem dX0_thingTells_7 : decode cX0_thingTells 7 = .ok (.getfield 69, 3) := by decide +kernel
theorem dX0_thingTells_10 : decode cX0_thingTells 10 = .ok (.imul, 1) := by decide +kernel
theorem dX0_thingTells_11 : decode cX0_thingTells 11 = .ok (.ireturn, 1) := by decide +kernel
theorem dX0_weightOf_0 : decode cX0_weightOf 0 = .ok (.aload_n 1, 1) := by decide +kernel
theorem dX0_weightOf_1 : decode cX0_weightOf 1 = .ok (.getfield 30, 3) := by decide +kernel
theorem dX0_weightOf_4 : decode cX0_weightOf 4 = .ok (.tableswitch 43 1 4 #[32, 32, 43, 37], 32) := by decide +kernel
theorem dX0_weightOf_36 : decode cX0_weightOf 36 = .ok (.aload_n 0, 1) := by decide +kernel
theorem dX0_weightOf_37 : decode cX0_weightOf 37 = .ok (.invokevirtual 55, 3) := by decide +kernel
theorem dX0_weightOf_40 : decode cX0_weightOf 40 = .ok (.ireturn, 1) := by decide +kernel
theorem dX0_weightOf_41 : decode cX0_weightOf 41 = .ok (.aload_n 0, 1) := by decide +kernel
theorem dX0_weightOf_42 : decode cX0_weightOf 42 = .ok (.aload_n 1, 1) := by decide +kernel
theorem dX0_weightOf_43 : decode cX0_weightOf 43 = .ok (.invokevirtual 59, 3) := by decide +kernel
theorem dX0_weightOf_46 : decode cX0_weightOf 46 = .ok (.ireturn, 1) := by decide +kernel
theorem dX0_weightOf_47 : decode cX0_weightOf 47 = .ok (.aload_n 0, 1) := by decide +kernel
theorem dX0_weightOf_48 : decode cX0_weightOf 48 = .ok (.aload_n 1, 1) := by decide +kernel
theorem dX0_weightOf_49 : decode cX0_weightOf 49 = .ok (.invokevirtual 62, 3) := by decide +kernel
theorem dX0_weightOf_52 : decode cX0_weightOf 52 = .ok (.ireturn, 1) := by decide +kernel
theorem dX10_cellAt_0 : decode cX10_cellAt 0 = .ok (.lload_n 2, 1) := by decide +kernel
theorem dX10_cellAt_1 : decode cX10_cellAt 1 = .ok (.lstore 5, 2) := by decide +kernel
theorem dX10_cellAt_3 : decode cX10_cellAt 3 = .ok (.aload_n 0, 1) := by decide +kernel
theorem dX10_cellAt_4 : decode cX10_cellAt 4 = .ok (.iload_n 1, 1) := by decide +kernel
theorem dX10_cellAt_5 : decode cX10_cellAt 5 = .ok (.iconst 0, 1) := by decide +kernel
theorem dX10_cellAt_6 : decode cX10_cellAt 6 = .ok (.invokevirtual 42, 3) := by decide +kernel
theorem dX10_cellAt_9 : decode cX10_cellAt 9 = .ok (.lstore 7, 2) := by decide +kernel
theorem dX10_cellAt_11 : decode cX10_cellAt 11 = .ok (.bipush (-9), 2) := by decide +kernel
theorem dX10_cellAt_13 : decode cX10_cellAt 13 = .ok (.istore 9, 2) := by decide +kernel
theorem dX10_cellAt_15 : decode cX10_cellAt 15 = .ok (.iconst 0, 1) := by decide +kernel
theorem dX10_cellAt_16 : decode cX10_cellAt 16 = .ok (.istore 10, 2) := by decide +kernel
theorem dX10_cellAt_18 : decode cX10_cellAt 18 = .ok (.iload 10, 2) := by decide +kernel
theorem dX10_cellAt_20 : decode cX10_cellAt 20 = .ok (.iload 4, 2) := by decide +kernel
theorem dX10_cellAt_22 : decode cX10_cellAt 22 = .ok (.if_icmp .gt 60, 3) := by decide +kernel
theorem dX10_cellAt_25 : decode cX10_cellAt 25 = .ok (.iload 10, 2) := by decide +kernel
theorem dX10_cellAt_27 : decode cX10_cellAt 27 = .ok (.ifCond .le 16, 3) := by decide +kernel
theorem dX10_cellAt_30 : decode cX10_cellAt 30 = .ok (.aload_n 0, 1) := by decide +kernel
theorem dX10_cellAt_31 : decode cX10_cellAt 31 = .ok (.iload_n 1, 1) := by decide +kernel
theorem dX10_cellAt_32 : decode cX10_cellAt 32 = .ok (.iload 10, 2) := by decide +kernel
theorem dX10_cellAt_34 : decode cX10_cellAt 34 = .ok (.iconst 1, 1) := by decide +kernel
theorem dX10_cellAt_35 : decode cX10_cellAt 35 = .ok (.isub, 1) := by decide +kernel
theorem dX10_cellAt_36 : decode cX10_cellAt 36 = .ok (.iload 9, 2) := by decide +kernel
theorem dX10_cellAt_38 : decode cX10_cellAt 38 = .ok (.invokevirtual 50, 3) := by decide +kernel
theorem dX10_cellAt_41 : decode cX10_cellAt 41 = .ok (.lstore 7, 2) := by decide +kernel
theorem dX10_cellAt_43 : decode cX10_cellAt 43 = .ok (.aload_n 0, 1) := by decide +kernel
theorem dX10_cellAt_44 : decode cX10_cellAt 44 = .ok (.iload 10, 2) := by decide +kernel
theorem dX10_cellAt_46 : decode cX10_cellAt 46 = .ok (.lload 7, 2) := by decide +kernel
theorem dX10_cellAt_48 : decode cX10_cellAt 48 = .ok (.lload 5, 2) := by decide +kernel
theorem dX10_cellAt_50 : decode cX10_cellAt 50 = .ok (.invokevirtual 54, 3) := by decide +kernel
theorem dX10_cellAt_53 : decode cX10_cellAt 53 = .ok (.istore 9, 2) := by decide +kernel
theorem dX10_cellAt_55 : decode cX10_cellAt 55 = .ok (.lload 5, 2) := by decide +kernel
theorem dX10_cellAt_57 : decode cX10_cellAt 57 = .ok (.aload_n 0, 1) := by decide +kernel
theorem dX10_cellAt_58 : decode cX10_cellAt 58 = .ok (.iload 10, 2) := by decide +kernel
theorem dX10_cellAt_60 : decode cX10_cellAt 60 = .ok (.lload 7, 2) := by decide +kernel
theorem dX10_cellAt_62 : decode cX10_cellAt 62 = .ok (.iload 9, 2) := by decide +kernel
theorem dX10_cellAt_64 : decode cX10_cellAt 64 = .ok (.invokestatic 58, 3) := by decide +kernel
theorem dX10_cellAt_67 : decode cX10_cellAt 67 = .ok (.lconst 1, 1) := by decide +kernel
theorem dX10_cellAt_68 : decode cX10_cellAt 68 = .ok (.lsub, 1) := by decide +kernel
theorem dX10_cellAt_69 : decode cX10_cellAt 69 = .ok (.land, 1) := by decide +kernel
theorem dX10_cellAt_70 : decode cX10_cellAt 70 = .ok (.invokevirtual 46, 3) := by decide +kernel
theorem dX10_cellAt_73 : decode cX10_cellAt 73 = .ok (.lsub, 1) := by decide +kernel
theorem dX10_cellAt_74 : decode cX10_cellAt 74 = .ok (.lstore 5, 2) := by decide +kernel
theorem dX10_cellAt_76 : decode cX10_cellAt 76 = .ok (.iinc 10 1, 3) := by decide +kernel
theorem dX10_cellAt_79 : decode cX10_cellAt 79 = .ok (.goto (-61), 3) := by decide +kernel
theorem dX10_cellAt_82 : decode cX10_cellAt 82 = .ok (.iload 9, 2) := by decide +kernel
theorem dX10_cellAt_84 : decode cX10_cellAt 84 = .ok (.ireturn, 1) := by decide +kernel
theorem dX10_cellsAt_0 : decode cX10_cellsAt 0 = .ok (.aload_n 0, 1) := by decide +kernel
theorem dX10_cellsAt_1 : decode cX10_cellsAt 1 = .ok (.getfield 28, 3) := by decide +kernel
theorem dX10_cellsAt_4 : decode cX10_cellsAt 4 = .ok (.aload_n 0, 1) := by decide +kernel
theorem dX10_cellsAt_5 : decode cX10_cellsAt 5 = .ok (.getfield 20, 3) := by decide +kernel
theorem dX10_cellsAt_8 : decode cX10_cellsAt 8 = .ok (.getfield 66, 3) := by decide +kernel
theorem dX10_cellsAt_11 : decode cX10_cellsAt 11 = .ok (.iload_n 1, 1) := by decide +kernel
theorem dX10_cellsAt_12 : decode cX10_cellsAt 12 = .ok (.iaload, 1) := by decide +kernel
theorem dX10_cellsAt_13 : decode cX10_cellsAt 13 = .ok (.iload_n 2, 1) := by decide +kernel
theorem dX10_cellsAt_14 : decode cX10_cellsAt 14 = .ok (.iadd, 1) := by decide +kernel
theorem dX10_cellsAt_15 : decode cX10_cellsAt 15 = .ok (.invokevirtual 69, 3) := by decide +kernel
theorem dX10_cellsAt_18 : decode cX10_cellsAt 18 = .ok (.lreturn, 1) := by decide +kernel
theorem dX10_chosen_0 : decode cX10_chosen 0 = .ok (.lconst 0, 1) := by decide +kernel
theorem dX10_chosen_1 : decode cX10_chosen 1 = .ok (.lstore 6, 2) := by decide +kernel
theorem dX10_chosen_3 : decode cX10_chosen 3 = .ok (.lload_n 2, 1) := by decide +kernel
theorem dX10_chosen_4 : decode cX10_chosen 4 = .ok (.lstore 8, 2) := by decide +kernel
theorem dX10_chosen_6 : decode cX10_chosen 6 = .ok (.lload 8, 2) := by decide +kernel
theorem dX10_chosen_8 : decode cX10_chosen 8 = .ok (.lconst 0, 1) := by decide +kernel
theorem dX10_chosen_9 : decode cX10_chosen 9 = .ok (.lcmp, 1) := by decide +kernel
theorem dX10_chosen_10 : decode cX10_chosen 10 = .ok (.ifCond .eq 47, 3) := by decide +kernel
theorem dX10_chosen_13 : decode cX10_chosen 13 = .ok (.lload 8, 2) := by decide +kernel
theorem dX10_chosen_15 : decode cX10_chosen 15 = .ok (.invokestatic 62, 3) := by decide +kernel
theorem dX10_chosen_18 : decode cX10_chosen 18 = .ok (.istore 10, 2) := by decide +kernel
theorem dX10_chosen_20 : decode cX10_chosen 20 = .ok (.lload 6, 2) := by decide +kernel
theorem dX10_chosen_22 : decode cX10_chosen 22 = .ok (.aload_n 0, 1) := by decide +kernel
theorem dX10_chosen_23 : decode cX10_chosen 23 = .ok (.getfield 11, 3) := by decide +kernel
theorem dX10_chosen_26 : decode cX10_chosen 26 = .ok (.iload_n 1, 1) := by decide +kernel
theorem dX10_chosen_27 : decode cX10_chosen 27 = .ok (.aaload, 1) := by decide +kernel
theorem dX10_chosen_28 : decode cX10_chosen 28 = .ok (.iload 10, 2) := by decide +kernel
theorem dX10_chosen_30 : decode cX10_chosen 30 = .ok (.laload, 1) := by decide +kernel
theorem dX10_chosen_31 : decode cX10_chosen 31 = .ok (.ladd, 1) := by decide +kernel
theorem dX10_chosen_32 : decode cX10_chosen 32 = .ok (.lstore 6, 2) := by decide +kernel
theorem dX10_chosen_34 : decode cX10_chosen 34 = .ok (.lload 4, 2) := by decide +kernel
theorem dX10_chosen_36 : decode cX10_chosen 36 = .ok (.lload 6, 2) := by decide +kernel
theorem dX10_chosen_38 : decode cX10_chosen 38 = .ok (.lcmp, 1) := by decide +kernel
theorem dX10_chosen_39 : decode cX10_chosen 39 = .ok (.ifCond .ge 6, 3) := by decide +kernel
theorem dX10_chosen_42 : decode cX10_chosen 42 = .ok (.iload 10, 2) := by decide +kernel
theorem dX10_chosen_44 : decode cX10_chosen 44 = .ok (.ireturn, 1) := by decide +kernel
theorem dX10_chosen_45 : decode cX10_chosen 45 = .ok (.lload 8, 2) := by decide +kernel
theorem dX10_chosen_47 : decode cX10_chosen 47 = .ok (.lload 8, 2) := by decide +kernel
theorem dX10_chosen_49 : decode cX10_chosen 49 = .ok (.lconst 1, 1) := by decide +kernel
theorem dX10_chosen_50 : decode cX10_chosen 50 = .ok (.lsub, 1) := by decide +kernel
theorem dX10_chosen_51 : decode cX10_chosen 51 = .ok (.land, 1) := by decide +kernel
theorem dX10_chosen_52 : decode cX10_chosen 52 = .ok (.lstore 8, 2) := by decide +kernel
theorem dX10_chosen_54 : decode cX10_chosen 54 = .ok (.goto (-48), 3) := by decide +kernel
theorem dX10_chosen_57 : decode cX10_chosen 57 = .ok (.iconst 0, 1) := by decide +kernel
theorem dX10_chosen_58 : decode cX10_chosen 58 = .ok (.ireturn, 1) := by decide +kernel
theorem dX10_count_0 : decode cX10_count 0 = .ok (.aload_n 0, 1) := by decide +kernel
theorem dX10_count_1 : decode cX10_count 1 = .ok (.getfield 16, 3) := by decide +kernel
theorem dX10_count_4 : decode cX10_count 4 = .ok (.iload_n 1, 1) := by decide +kernel
theorem dX10_count_5 : decode cX10_count 5 = .ok (.if_icmp .eq 36, 3) := by decide +kernel
theorem dX10_count_8 : decode cX10_count 8 = .ok (.aload_n 0, 1) := by decide +kernel
theorem dX10_count_9 : decode cX10_count 9 = .ok (.getfield 20, 3) := by decide +kernel
theorem dX10_count_12 : decode cX10_count 12 = .ok (.getfield 32, 3) := by decide +kernel
theorem dX10_count_15 : decode cX10_count 15 = .ok (.iload_n 1, 1) := by decide +kernel
theorem dX10_count_16 : decode cX10_count 16 = .ok (.iaload, 1) := by decide +kernel
theorem dX10_count_17 : decode cX10_count 17 = .ok (.iconst 1, 1) := by decide +kernel
theorem dX10_count_18 : decode cX10_count 18 = .ok (.isub, 1) := by decide +kernel
theorem dX10_count_19 : decode cX10_count 19 = .ok (.istore_n 2, 1) := by decide +kernel
theorem dX10_count_20 : decode cX10_count 20 = .ok (.iload_n 2, 1) := by decide +kernel
theorem dX10_count_21 : decode cX10_count 21 = .ok (.ifCond .lt 15, 3) := by decide +kernel
theorem dX10_count_24 : decode cX10_count 24 = .ok (.aload_n 0, 1) := by decide +kernel
theorem dX10_count_25 : decode cX10_count 25 = .ok (.iload_n 1, 1) := by decide +kernel
theorem dX10_count_26 : decode cX10_count 26 = .ok (.iload_n 2, 1) := by decide +kernel
theorem dX10_count_27 : decode cX10_count 27 = .ok (.invokevirtual 38, 3) := by decide +kernel
theorem dX10_count_30 : decode cX10_count 30 = .ok (.iinc 2 (-1), 3) := by decide +kernel
theorem dX10_count_33 : decode cX10_count 33 = .ok (.goto (-13), 3) := by decide +kernel
theorem dX10_count_36 : decode cX10_count 36 = .ok (.aload_n 0, 1) := by decide +kernel
theorem dX10_count_37 : decode cX10_count 37 = .ok (.iload_n 1, 1) := by decide +kernel
theorem dX10_count_38 : decode cX10_count 38 = .ok (.putfield 16, 3) := by decide +kernel
theorem dX10_count_41 : decode cX10_count 41 = .ok (.aload_n 0, 1) := by decide +kernel
theorem dX10_count_42 : decode cX10_count 42 = .ok (.iconst 0, 1) := by decide +kernel
theorem dX10_count_43 : decode cX10_count 43 = .ok (.aload_n 0, 1) := by decide +kernel
theorem dX10_count_44 : decode cX10_count 44 = .ok (.iload_n 1, 1) := by decide +kernel
theorem dX10_count_45 : decode cX10_count 45 = .ok (.iconst 0, 1) := by decide +kernel
theorem dX10_count_46 : decode cX10_count 46 = .ok (.invokevirtual 42, 3) := by decide +kernel
theorem dX10_count_49 : decode cX10_count 49 = .ok (.invokevirtual 46, 3) := by decide +kernel
theorem dX10_count_52 : decode cX10_count 52 = .ok (.lreturn, 1) := by decide +kernel
theorem dX10_countFrom_0 : decode cX10_countFrom 0 = .ok (.iload_n 2, 1) := by decide +kernel
theorem dX10_countFrom_1 : decode cX10_countFrom 1 = .ok (.aload_n 0, 1) := by decide +kernel
theorem dX10_countFrom_2 : decode cX10_countFrom 2 = .ok (.getfield 20, 3) := by decide +kernel
theorem dX10_countFrom_5 : decode cX10_countFrom 5 = .ok (.getfield 32, 3) := by decide +kernel
theorem dX10_countFrom_8 : decode cX10_countFrom 8 = .ok (.iload_n 1, 1) := by decide +kernel
theorem dX10_countFrom_9 : decode cX10_countFrom 9 = .ok (.iaload, 1) := by decide +kernel
theorem dX10_countFrom_10 : decode cX10_countFrom 10 = .ok (.iconst 1, 1) := by decide +kernel
theorem dX10_countFrom_11 : decode cX10_countFrom 11 = .ok (.isub, 1) := by decide +kernel
theorem dX10_countFrom_12 : decode cX10_countFrom 12 = .ok (.if_icmp .ne 7, 3) := by decide +kernel
theorem dX10_countFrom_15 : decode cX10_countFrom 15 = .ok (.iconst 1, 1) := by decide +kernel
theorem dX10_countFrom_16 : decode cX10_countFrom 16 = .ok (.goto 4, 3) := by decide +kernel
theorem dX10_countFrom_19 : decode cX10_countFrom 19 = .ok (.iconst 0, 1) := by decide +kernel
theorem dX10_countFrom_20 : decode cX10_countFrom 20 = .ok (.istore_n 3, 1) := by decide +kernel
theorem dX10_countFrom_21 : decode cX10_countFrom 21 = .ok (.aload_n 0, 1) := by decide +kernel
theorem dX10_countFrom_22 : decode cX10_countFrom 22 = .ok (.iload_n 1, 1) := by decide +kernel
theorem dX10_countFrom_23 : decode cX10_countFrom 23 = .ok (.iload_n 2, 1) := by decide +kernel
theorem dX10_countFrom_24 : decode cX10_countFrom 24 = .ok (.invokevirtual 42, 3) := by decide +kernel
theorem dX10_countFrom_27 : decode cX10_countFrom 27 = .ok (.lstore 4, 2) := by decide +kernel
theorem dX10_countFrom_29 : decode cX10_countFrom 29 = .ok (.lload 4, 2) := by decide +kernel
theorem dX10_countFrom_31 : decode cX10_countFrom 31 = .ok (.lconst 0, 1) := by decide +kernel
theorem dX10_countFrom_32 : decode cX10_countFrom 32 = .ok (.lcmp, 1) := by decide +kernel
theorem dX10_countFrom_33 : decode cX10_countFrom 33 = .ok (.ifCond .eq 54, 3) := by decide +kernel
theorem dX10_countFrom_36 : decode cX10_countFrom 36 = .ok (.lload 4, 2) := by decide +kernel
theorem dX10_countFrom_38 : decode cX10_countFrom 38 = .ok (.invokestatic 62, 3) := by decide +kernel
theorem dX10_countFrom_41 : decode cX10_countFrom 41 = .ok (.istore 6, 2) := by decide +kernel
theorem dX10_countFrom_43 : decode cX10_countFrom 43 = .ok (.aload_n 0, 1) := by decide +kernel
theorem dX10_countFrom_44 : decode cX10_countFrom 44 = .ok (.getfield 11, 3) := by decide +kernel
theorem dX10_countFrom_47 : decode cX10_countFrom 47 = .ok (.iload_n 2, 1) := by decide +kernel
theorem dX10_countFrom_48 : decode cX10_countFrom 48 = .ok (.aaload, 1) := by decide +kernel
theorem dX10_countFrom_49 : decode cX10_countFrom 49 = .ok (.iload 6, 2) := by decide +kernel
theorem dX10_countFrom_51 : decode cX10_countFrom 51 = .ok (.iload_n 3, 1) := by decide +kernel
theorem dX10_countFrom_52 : decode cX10_countFrom 52 = .ok (.ifCond .eq 7, 3) := by decide +kernel
theorem dX10_countFrom_55 : decode cX10_countFrom 55 = .ok (.lconst 1, 1) := by decide +kernel
theorem dX10_countFrom_56 : decode cX10_countFrom 56 = .ok (.goto 18, 3) := by decide +kernel
theorem dX10_countFrom_59 : decode cX10_countFrom 59 = .ok (.aload_n 0, 1) := by decide +kernel
theorem dX10_countFrom_60 : decode cX10_countFrom 60 = .ok (.iload_n 2, 1) := by decide +kernel
theorem dX10_countFrom_61 : decode cX10_countFrom 61 = .ok (.iconst 1, 1) := by decide +kernel
theorem dX10_countFrom_62 : decode cX10_countFrom 62 = .ok (.iadd, 1) := by decide +kernel
theorem dX10_countFrom_63 : decode cX10_countFrom 63 = .ok (.aload_n 0, 1) := by decide +kernel
theorem dX10_countFrom_64 : decode cX10_countFrom 64 = .ok (.iload_n 1, 1) := by decide +kernel
theorem dX10_countFrom_65 : decode cX10_countFrom 65 = .ok (.iload_n 2, 1) := by decide +kernel
theorem dX10_countFrom_66 : decode cX10_countFrom 66 = .ok (.iload 6, 2) := by decide +kernel
theorem dX10_countFrom_68 : decode cX10_countFrom 68 = .ok (.invokevirtual 50, 3) := by decide +kernel
theorem dX10_countFrom_71 : decode cX10_countFrom 71 = .ok (.invokevirtual 46, 3) := by decide +kernel
theorem dX10_countFrom_74 : decode cX10_countFrom 74 = .ok (.lastore, 1) := by decide +kernel
theorem dX10_countFrom_75 : decode cX10_countFrom 75 = .ok (.lload 4, 2) := by decide +kernel
theorem dX10_countFrom_77 : decode cX10_countFrom 77 = .ok (.lload 4, 2) := by decide +kernel
theorem dX10_countFrom_79 : decode cX10_countFrom 79 = .ok (.lconst 1, 1) := by decide +kernel
theorem dX10_countFrom_80 : decode cX10_countFrom 80 = .ok (.lsub, 1) := by decide +kernel
theorem dX10_countFrom_81 : decode cX10_countFrom 81 = .ok (.land, 1) := by decide +kernel
theorem dX10_countFrom_82 : decode cX10_countFrom 82 = .ok (.lstore 4, 2) := by decide +kernel
theorem dX10_countFrom_84 : decode cX10_countFrom 84 = .ok (.goto (-55), 3) := by decide +kernel
theorem dX10_countFrom_87 : decode cX10_countFrom 87 = .ok (.return_, 1) := by decide +kernel
theorem dX10_forget_0 : decode cX10_forget 0 = .ok (.aload_n 0, 1) := by decide +kernel
theorem dX10_forget_1 : decode cX10_forget 1 = .ok (.bipush (-9), 2) := by decide +kernel
theorem dX10_forget_3 : decode cX10_forget 3 = .ok (.putfield 16, 3) := by decide +kernel
theorem dX10_forget_6 : decode cX10_forget 6 = .ok (.return_, 1) := by decide +kernel
theorem dX10_init_0 : decode cX10_init 0 = .ok (.aload_n 0, 1) := by decide +kernel
theorem dX10_init_1 : decode cX10_init 1 = .ok (.invokespecial 3, 3) := by decide +kernel
theorem dX10_init_4 : decode cX10_init 4 = .ok (.aload_n 0, 1) := by decide +kernel
theorem dX10_init_5 : decode cX10_init 5 = .ok (.bipush 8, 2) := by decide +kernel
theorem dX10_init_7 : decode cX10_init 7 = .ok (.bipush 64, 2) := by decide +kernel
theorem dX10_init_9 : decode cX10_init 9 = .ok (.multianewarray 9 2, 4) := by decide +kernel
theorem dX10_init_13 : decode cX10_init 13 = .ok (.putfield 11, 3) := by decide +kernel
theorem dX10_init_16 : decode cX10_init 16 = .ok (.aload_n 0, 1) := by decide +kernel
theorem dX10_init_17 : decode cX10_init 17 = .ok (.bipush (-9), 2) := by decide +kernel
theorem dX10_init_19 : decode cX10_init 19 = .ok (.putfield 16, 3) := by decide +kernel
theorem dX10_init_22 : decode cX10_init 22 = .ok (.aload_n 0, 1) := by decide +kernel
theorem dX10_init_23 : decode cX10_init 23 = .ok (.aload_n 1, 1) := by decide +kernel
theorem dX10_init_24 : decode cX10_init 24 = .ok (.putfield 20, 3) := by decide +kernel
theorem dX10_init_27 : decode cX10_init 27 = .ok (.aload_n 0, 1) := by decide +kernel
theorem dX10_init_28 : decode cX10_init 28 = .ok (.aload_n 2, 1) := by decide +kernel
theorem dX10_init_29 : decode cX10_init 29 = .ok (.putfield 24, 3) := by decide +kernel
theorem dX10_init_32 : decode cX10_init 32 = .ok (.aload_n 0, 1) := by decide +kernel
theorem dX10_init_33 : decode cX10_init 33 = .ok (.aload_n 3, 1) := by decide +kernel
theorem dX10_init_34 : decode cX10_init 34 = .ok (.putfield 28, 3) := by decide +kernel
theorem dX10_init_37 : decode cX10_init 37 = .ok (.return_, 1) := by decide +kernel
theorem dX10_next_0 : decode cX10_next 0 = .ok (.aload_n 0, 1) := by decide +kernel
theorem dX10_next_1 : decode cX10_next 1 = .ok (.getfield 24, 3) := by decide +kernel
theorem dX10_next_4 : decode cX10_next 4 = .ok (.getfield 74, 3) := by decide +kernel
theorem dX10_next_7 : decode cX10_next 7 = .ok (.aload_n 0, 1) := by decide +kernel
theorem dX10_next_8 : decode cX10_next 8 = .ok (.getfield 20, 3) := by decide +kernel
theorem dX10_next_11 : decode cX10_next 11 = .ok (.getfield 79, 3) := by decide +kernel
theorem dX10_next_14 : decode cX10_next 14 = .ok (.iload_n 1, 1) := by decide +kernel
theorem dX10_next_15 : decode cX10_next 15 = .ok (.iaload, 1) := by decide +kernel
theorem dX10_next_16 : decode cX10_next 16 = .ok (.aaload, 1) := by decide +kernel
theorem dX10_next_17 : decode cX10_next 17 = .ok (.iload_n 3, 1) := by decide +kernel
theorem dX10_next_18 : decode cX10_next 18 = .ok (.laload, 1) := by decide +kernel
theorem dX10_next_19 : decode cX10_next 19 = .ok (.aload_n 0, 1) := by decide +kernel
theorem dX10_next_20 : decode cX10_next 20 = .ok (.iload_n 1, 1) := by decide +kernel
theorem dX10_next_21 : decode cX10_next 21 = .ok (.iload_n 2, 1) := by decide +kernel
theorem dX10_next_22 : decode cX10_next 22 = .ok (.iconst 1, 1) := by decide +kernel
theorem dX10_next_23 : decode cX10_next 23 = .ok (.iadd, 1) := by decide +kernel
theorem dX10_next_24 : decode cX10_next 24 = .ok (.invokevirtual 42, 3) := by decide +kernel
theorem dX10_next_27 : decode cX10_next 27 = .ok (.land, 1) := by decide +kernel
theorem dX10_next_28 : decode cX10_next 28 = .ok (.lreturn, 1) := by decide +kernel
theorem dX10_sum_0 : decode cX10_sum 0 = .ok (.lconst 0, 1) := by decide +kernel
theorem dX10_sum_1 : decode cX10_sum 1 = .ok (.lstore 4, 2) := by decide +kernel
theorem dX10_sum_3 : decode cX10_sum 3 = .ok (.lload_n 2, 1) := by decide +kernel
theorem dX10_sum_4 : decode cX10_sum 4 = .ok (.lstore 6, 2) := by decide +kernel
theorem dX10_sum_6 : decode cX10_sum 6 = .ok (.lload 6, 2) := by decide +kernel
theorem dX10_sum_8 : decode cX10_sum 8 = .ok (.lconst 0, 1) := by decide +kernel
theorem dX10_sum_9 : decode cX10_sum 9 = .ok (.lcmp, 1) := by decide +kernel
theorem dX10_sum_10 : decode cX10_sum 10 = .ok (.ifCond .eq 32, 3) := by decide +kernel
theorem dX10_sum_13 : decode cX10_sum 13 = .ok (.lload 4, 2) := by decide +kernel
theorem dX10_sum_15 : decode cX10_sum 15 = .ok (.aload_n 0, 1) := by decide +kernel
theorem dX10_sum_16 : decode cX10_sum 16 = .ok (.getfield 11, 3) := by decide +kernel
theorem dX10_sum_19 : decode cX10_sum 19 = .ok (.iload_n 1, 1) := by decide +kernel
theorem dX10_sum_20 : decode cX10_sum 20 = .ok (.aaload, 1) := by decide +kernel
theorem dX10_sum_21 : decode cX10_sum 21 = .ok (.lload 6, 2) := by decide +kernel
theorem dX10_sum_23 : decode cX10_sum 23 = .ok (.invokestatic 62, 3) := by decide +kernel
theorem dX10_sum_26 : decode cX10_sum 26 = .ok (.laload, 1) := by decide +kernel
theorem dX10_sum_27 : decode cX10_sum 27 = .ok (.ladd, 1) := by decide +kernel
theorem dX10_sum_28 : decode cX10_sum 28 = .ok (.lstore 4, 2) := by decide +kernel
theorem dX10_sum_30 : decode cX10_sum 30 = .ok (.lload 6, 2) := by decide +kernel
theorem dX10_sum_32 : decode cX10_sum 32 = .ok (.lload 6, 2) := by decide +kernel
theorem dX10_sum_34 : decode cX10_sum 34 = .ok (.lconst 1, 1) := by decide +kernel
theorem dX10_sum_35 : decode cX10_sum 35 = .ok (.lsub, 1) := by decide +kernel
theorem dX10_sum_36 : decode cX10_sum 36 = .ok (.land, 1) := by decide +kernel
theorem dX10_sum_37 : decode cX10_sum 37 = .ok (.lstore 6, 2) := by decide +kernel
theorem dX10_sum_39 : decode cX10_sum 39 = .ok (.goto (-33), 3) := by decide +kernel
theorem dX10_sum_42 : decode cX10_sum 42 = .ok (.lload 4, 2) := by decide +kernel
theorem dX10_sum_44 : decode cX10_sum 44 = .ok (.lreturn, 1) := by decide +kernel
theorem dX11_about_0 : decode cX11_about 0 = .ok (.aload_n 0, 1) := by decide +kernel
theorem dX11_about_1 : decode cX11_about 1 = .ok (.getfield 12, 3) := by decide +kernel
theorem dX11_about_4 : decode cX11_about 4 = .ok (.iload_n 1, 1) := by decide +kernel
theorem dX11_about_5 : decode cX11_about 5 = .ok (.invokevirtual 182, 3) := by decide +kernel
theorem dX11_about_8 : decode cX11_about 8 = .ok (.ifCond .ne 5, 3) := by decide +kernel
theorem dX11_about_11 : decode cX11_about 11 = .ok (.iconst (-1), 1) := by decide +kernel
theorem dX11_about_12 : decode cX11_about 12 = .ok (.ireturn, 1) := by decide +kernel
theorem dX11_about_13 : decode cX11_about 13 = .ok (.aload_n 0, 1) := by decide +kernel
theorem dX11_about_14 : decode cX11_about 14 = .ok (.invokevirtual 206, 3) := by decide +kernel
theorem dX11_about_17 : decode cX11_about 17 = .ok (.iload_n 1, 1) := by decide +kernel
theorem dX11_about_18 : decode cX11_about 18 = .ok (.invokevirtual 210, 3) := by decide +kernel
theorem dX11_about_21 : decode cX11_about 21 = .ok (.lstore_n 3, 1) := by decide +kernel
theorem dX11_about_22 : decode cX11_about 22 = .ok (.iload_n 2, 1) := by decide +kernel
theorem dX11_about_23 : decode cX11_about 23 = .ok (.tableswitch 172 0 8 #[49, 62, 74, 79, 95, 115, 125, 146, 159], 49) := by decide +kernel
theorem dX11_about_72 : decode cX11_about 72 = .ok (.aload_n 0, 1) := by decide +kernel
theorem dX11_about_73 : decode cX11_about 73 = .ok (.getfield 12, 3) := by decide +kernel
theorem dX11_about_76 : decode cX11_about 76 = .ok (.getfield 185, 3) := by decide +kernel
theorem dX11_about_79 : decode cX11_about 79 = .ok (.iload_n 1, 1) := by decide +kernel
theorem dX11_about_80 : decode cX11_about 80 = .ok (.aaload, 1) := by decide +kernel
theorem dX11_about_81 : decode cX11_about 81 = .ok (.getfield 213, 3) := by decide +kernel
theorem dX11_about_84 : decode cX11_about 84 = .ok (.ireturn, 1) := by decide +kernel
theorem dX11_about_85 : decode cX11_about 85 = .ok (.aload_n 0, 1) := by decide +kernel
theorem dX11_about_86 : decode cX11_about 86 = .ok (.getfield 12, 3) := by decide +kernel
theorem dX11_about_89 : decode cX11_about 89 = .ok (.iload_n 1, 1) := by decide +kernel
theorem dX11_about_90 : decode cX11_about 90 = .ok (.invokevirtual 203, 3) := by decide +kernel
theorem dX11_about_93 : decode cX11_about 93 = .ok (.invokestatic 168, 3) := by decide +kernel
theorem dX11_about_96 : decode cX11_about 96 = .ok (.ireturn, 1) := by decide +kernel
theorem dX11_about_97 : decode cX11_about 97 = .ok (.lload_n 3, 1) := by decide +kernel
theorem dX11_about_98 : decode cX11_about 98 = .ok (.invokestatic 168, 3) := by decide +kernel
theorem dX11_about_101 : decode cX11_about 101 = .ok (.ireturn, 1) := by decide +kernel
theorem dX11_about_102 : decode cX11_about 102 = .ok (.lload_n 3, 1) := by decide +kernel
theorem dX11_about_103 : decode cX11_about 103 = .ok (.lconst 0, 1) := by decide +kernel
theorem dX11_about_104 : decode cX11_about 104 = .ok (.lcmp, 1) := by decide +kernel
theorem dX11_about_105 : decode cX11_about 105 = .ok (.ifCond .ne 8, 3) := by decide +kernel
theorem dX11_about_108 : decode cX11_about 108 = .ok (.bipush (-9), 2) := by decide +kernel
theorem dX11_about_110 : decode cX11_about 110 = .ok (.goto 7, 3) := by decide +kernel
theorem dX11_about_113 : decode cX11_about 113 = .ok (.lload_n 3, 1) := by decide +kernel
theorem dX11_about_114 : decode cX11_about 114 = .ok (.invokestatic 216, 3) := by decide +kernel
theorem dX11_about_117 : decode cX11_about 117 = .ok (.ireturn, 1) := by decide +kernel
theorem dX11_about_118 : decode cX11_about 118 = .ok (.aload_n 0, 1) := by decide +kernel
theorem dX11_about_119 : decode cX11_about 119 = .ok (.getfield 12, 3) := by decide +kernel
theorem dX11_about_122 : decode cX11_about 122 = .ok (.iload_n 1, 1) := by decide +kernel
theorem dX11_about_123 : decode cX11_about 123 = .ok (.invokevirtual 219, 3) := by decide +kernel
theorem dX11_about_126 : decode cX11_about 126 = .ok (.aload_n 0, 1) := by decide +kernel
theorem dX11_about_127 : decode cX11_about 127 = .ok (.getfield 12, 3) := by decide +kernel
theorem dX11_about_130 : decode cX11_about 130 = .ok (.getfield 222, 3) := by decide +kernel
theorem dX11_about_133 : decode cX11_about 133 = .ok (.land, 1) := by decide +kernel
theorem dX11_about_134 : decode cX11_about 134 = .ok (.invokestatic 168, 3) := by decide +kernel
theorem dX11_about_137 : decode cX11_about 137 = .ok (.ireturn, 1) := by decide +kernel
theorem dX11_about_138 : decode cX11_about 138 = .ok (.aload_n 0, 1) := by decide +kernel
theorem dX11_about_139 : decode cX11_about 139 = .ok (.getfield 12, 3) := by decide +kernel
theorem dX11_about_142 : decode cX11_about 142 = .ok (.getfield 225, 3) := by decide +kernel
theorem dX11_about_145 : decode cX11_about 145 = .ok (.iload_n 1, 1) := by decide +kernel
theorem dX11_about_146 : decode cX11_about 146 = .ok (.iaload, 1) := by decide +kernel
theorem dX11_about_147 : decode cX11_about 147 = .ok (.ireturn, 1) := by decide +kernel
theorem dX11_about_148 : decode cX11_about 148 = .ok (.aload_n 0, 1) := by decide +kernel
theorem dX11_about_149 : decode cX11_about 149 = .ok (.getfield 12, 3) := by decide +kernel
theorem dX11_about_152 : decode cX11_about 152 = .ok (.getfield 229, 3) := by decide +kernel
theorem dX11_about_155 : decode cX11_about 155 = .ok (.i2l, 1) := by decide +kernel
theorem dX11_about_156 : decode cX11_about 156 = .ok (.iload_n 1, 1) := by decide +kernel
theorem dX11_about_157 : decode cX11_about 157 = .ok (.invokestatic 132, 3) := by decide +kernel
theorem dX11_about_160 : decode cX11_about 160 = .ok (.ifCond .eq 7, 3) := by decide +kernel
theorem dX11_about_163 : decode cX11_about 163 = .ok (.iconst 1, 1) := by decide +kernel
theorem dX11_about_164 : decode cX11_about 164 = .ok (.goto 4, 3) := by decide +kernel
theorem dX11_about_167 : decode cX11_about 167 = .ok (.iconst 0, 1) := by decide +kernel
theorem dX11_about_168 : decode cX11_about 168 = .ok (.ireturn, 1) := by decide +kernel
theorem dX11_about_169 : decode cX11_about 169 = .ok (.aload_n 0, 1) := by decide +kernel
theorem dX11_about_170 : decode cX11_about 170 = .ok (.getfield 12, 3) := by decide +kernel
theorem dX11_about_173 : decode cX11_about 173 = .ok (.getfield 185, 3) := by decide +kernel
theorem dX11_about_176 : decode cX11_about 176 = .ok (.iload_n 1, 1) := by decide +kernel
theorem dX11_about_177 : decode cX11_about 177 = .ok (.aaload, 1) := by decide +kernel
theorem dX11_about_178 : decode cX11_about 178 = .ok (.getfield 232, 3) := by decide +kernel
theorem dX11_about_181 : decode cX11_about 181 = .ok (.ireturn, 1) := by decide +kernel
theorem dX11_about_182 : decode cX11_about 182 = .ok (.aload_n 0, 1) := by decide +kernel
theorem dX11_about_183 : decode cX11_about 183 = .ok (.getfield 12, 3) := by decide +kernel
theorem dX11_about_186 : decode cX11_about 186 = .ok (.getfield 185, 3) := by decide +kernel
theorem dX11_about_189 : decode cX11_about 189 = .ok (.iload_n 1, 1) := by decide +kernel
theorem dX11_about_190 : decode cX11_about 190 = .ok (.aaload, 1) := by decide +kernel
theorem dX11_about_191 : decode cX11_about 191 = .ok (.getfield 235, 3) := by decide +kernel
theorem dX11_about_194 : decode cX11_about 194 = .ok (.ireturn, 1) := by decide +kernel
theorem dX11_about_195 : decode cX11_about 195 = .ok (.bipush (-2), 2) := by decide +kernel
theorem dX11_about_197 : decode cX11_about 197 = .ok (.ireturn, 1) := by decide +kernel
theorem dX11_alone_0 : decode cX11_alone 0 = .ok (.aload_n 0, 1) := by decide +kernel
theorem dX11_alone_1 : decode cX11_alone 1 = .ok (.getfield 12, 3) := by decide +kernel
theorem dX11_alone_4 : decode cX11_alone 4 = .ok (.getfield 291, 3) := by decide +kernel
theorem dX11_alone_7 : decode cX11_alone 7 = .ok (.iload_n 1, 1) := by decide +kernel
theorem dX11_alone_8 : decode cX11_alone 8 = .ok (.if_icmp .ne 5, 3) := by decide +kernel
theorem dX11_alone_11 : decode cX11_alone 11 = .ok (.iconst 0, 1) := by decide +kernel
theorem dX11_alone_12 : decode cX11_alone 12 = .ok (.ireturn, 1) := by decide +kernel
theorem dX11_alone_13 : decode cX11_alone 13 = .ok (.aload_n 0, 1) := by decide +kernel
theorem dX11_alone_14 : decode cX11_alone 14 = .ok (.getfield 12, 3) := by decide +kernel
theorem dX11_alone_17 : decode cX11_alone 17 = .ok (.iload_n 1, 1) := by decide +kernel
theorem dX11_alone_18 : decode cX11_alone 18 = .ok (.putfield 291, 3) := by decide +kernel
theorem dX11_alone_21 : decode cX11_alone 21 = .ok (.aload_n 0, 1) := by decide +kernel
theorem dX11_alone_22 : decode cX11_alone 22 = .ok (.getfield 48, 3) := by decide +kernel
theorem dX11_alone_25 : decode cX11_alone 25 = .ok (.invokevirtual 294, 3) := by decide +kernel
theorem dX11_alone_28 : decode cX11_alone 28 = .ok (.iconst 1, 1) := by decide +kernel
theorem dX11_alone_29 : decode cX11_alone 29 = .ok (.ireturn, 1) := by decide +kernel
theorem dX11_as_0 : decode cX11_as 0 = .ok (.aload_n 0, 1) := by decide +kernel
theorem dX11_as_1 : decode cX11_as 1 = .ok (.iconst 0, 1) := by decide +kernel
theorem dX11_as_2 : decode cX11_as 2 = .ok (.putfield 109, 3) := by decide +kernel
theorem dX11_as_5 : decode cX11_as 5 = .ok (.iload_n 1, 1) := by decide +kernel
theorem dX11_as_6 : decode cX11_as 6 = .ok (.iconst 0, 1) := by decide +kernel
theorem dX11_as_7 : decode cX11_as 7 = .ok (.bipush 7, 2) := by decide +kernel
theorem dX11_as_9 : decode cX11_as 9 = .ok (.invokestatic 113, 3) := by decide +kernel
theorem dX11_as_12 : decode cX11_as 12 = .ok (.ifCond .ne 5, 3) := by decide +kernel
theorem dX11_as_15 : decode cX11_as 15 = .ok (.iconst (-1), 1) := by decide +kernel
theorem dX11_as_16 : decode cX11_as 16 = .ok (.ireturn, 1) := by decide +kernel
theorem dX11_as_17 : decode cX11_as 17 = .ok (.iload_n 2, 1) := by decide +kernel
theorem dX11_as_18 : decode cX11_as 18 = .ok (.iconst 0, 1) := by decide +kernel
theorem dX11_as_19 : decode cX11_as 19 = .ok (.bipush 8, 2) := by decide +kernel
theorem dX11_as_21 : decode cX11_as 21 = .ok (.invokestatic 113, 3) := by decide +kernel
theorem dX11_as_24 : decode cX11_as 24 = .ok (.ifCond .ne 6, 3) := by decide +kernel
theorem dX11_as_27 : decode cX11_as 27 = .ok (.bipush (-2), 2) := by decide +kernel
theorem dX11_as_29 : decode cX11_as 29 = .ok (.ireturn, 1) := by decide +kernel
theorem dX11_as_30 : decode cX11_as 30 = .ok (.aload_n 0, 1) := by decide +kernel
theorem dX11_as_31 : decode cX11_as 31 = .ok (.iload_n 1, 1) := by decide +kernel
theorem dX11_as_32 : decode cX11_as 32 = .ok (.invokevirtual 418, 3) := by decide +kernel
theorem dX11_as_35 : decode cX11_as 35 = .ok (.ifCond .eq 9, 3) := by decide +kernel
theorem dX11_as_38 : decode cX11_as 38 = .ok (.aload_n 0, 1) := by decide +kernel
theorem dX11_as_39 : decode cX11_as 39 = .ok (.iconst 1, 1) := by decide +kernel
theorem dX11_as_40 : decode cX11_as 40 = .ok (.invokevirtual 158, 3) := by decide +kernel
theorem dX11_as_43 : decode cX11_as 43 = .ok (.ireturn, 1) := by decide +kernel
theorem dX11_as_44 : decode cX11_as 44 = .ok (.aload_n 0, 1) := by decide +kernel
theorem dX11_as_45 : decode cX11_as 45 = .ok (.getfield 85, 3) := by decide +kernel
theorem dX11_as_48 : decode cX11_as 48 = .ok (.iload_n 1, 1) := by decide +kernel
theorem dX11_as_49 : decode cX11_as 49 = .ok (.aaload, 1) := by decide +kernel
theorem dX11_as_50 : decode cX11_as 50 = .ok (.astore_n 3, 1) := by decide +kernel
theorem dX11_as_51 : decode cX11_as 51 = .ok (.aload_n 3, 1) := by decide +kernel
theorem dX11_as_52 : decode cX11_as 52 = .ok (.ifnull 24, 3) := by decide +kernel
theorem dX11_as_55 : decode cX11_as 55 = .ok (.aload_n 3, 1) := by decide +kernel
theorem dX11_as_56 : decode cX11_as 56 = .ok (.getfield 213, 3) := by decide +kernel
theorem dX11_as_59 : decode cX11_as 59 = .ok (.iload_n 2, 1) := by decide +kernel
theorem dX11_as_60 : decode cX11_as 60 = .ok (.if_icmp .lt 10, 3) := by decide +kernel
theorem dX11_as_63 : decode cX11_as 63 = .ok (.aload_n 3, 1) := by decide +kernel
theorem dX11_as_64 : decode cX11_as 64 = .ok (.getfield 421, 3) := by decide +kernel
theorem dX11_as_67 : decode cX11_as 67 = .ok (.goto 8, 3) := by decide +kernel
theorem dX11_as_70 : decode cX11_as 70 = .ok (.aload_n 0, 1) := by decide +kernel
theorem dX11_as_71 : decode cX11_as 71 = .ok (.iconst 2, 1) := by decide +kernel
theorem dX11_as_72 : decode cX11_as 72 = .ok (.invokevirtual 158, 3) := by decide +kernel
theorem dX11_as_75 : decode cX11_as 75 = .ok (.ireturn, 1) := by decide +kernel
theorem dX11_as_76 : decode cX11_as 76 = .ok (.aload_n 0, 1) := by decide +kernel
theorem dX11_as_77 : decode cX11_as 77 = .ok (.getfield 91, 3) := by decide +kernel
theorem dX11_as_80 : decode cX11_as 80 = .ok (.iload_n 1, 1) := by decide +kernel
theorem dX11_as_81 : decode cX11_as 81 = .ok (.aaload, 1) := by decide +kernel
theorem dX11_as_82 : decode cX11_as 82 = .ok (.astore 4, 2) := by decide +kernel
theorem dX11_as_84 : decode cX11_as 84 = .ok (.aload 4, 2) := by decide +kernel
theorem dX11_as_86 : decode cX11_as 86 = .ok (.ifnull 20, 3) := by decide +kernel
theorem dX11_as_89 : decode cX11_as 89 = .ok (.aload 4, 2) := by decide +kernel
theorem dX11_as_91 : decode cX11_as 91 = .ok (.iload_n 2, 1) := by decide +kernel
theorem dX11_as_92 : decode cX11_as 92 = .ok (.invokevirtual 424, 3) := by decide +kernel
theorem dX11_as_95 : decode cX11_as 95 = .ok (.ifCond .eq 11, 3) := by decide +kernel
theorem dX11_as_98 : decode cX11_as 98 = .ok (.aload 4, 2) := by decide +kernel
theorem dX11_as_100 : decode cX11_as 100 = .ok (.getfield 427, 3) := by decide +kernel
theorem dX11_as_103 : decode cX11_as 103 = .ok (.goto 8, 3) := by decide +kernel
theorem dX11_as_106 : decode cX11_as 106 = .ok (.aload_n 0, 1) := by decide +kernel
theorem dX11_as_107 : decode cX11_as 107 = .ok (.iconst 2, 1) := by decide +kernel
theorem dX11_as_108 : decode cX11_as 108 = .ok (.invokevirtual 158, 3) := by decide +kernel
theorem dX11_as_111 : decode cX11_as 111 = .ok (.ireturn, 1) := by decide +kernel
theorem dX11_ask_0 : decode cX11_ask 0 = .ok (.aload_n 0, 1) := by decide +kernel
theorem dX11_ask_1 : decode cX11_ask 1 = .ok (.getfield 12, 3) := by decide +kernel
theorem dX11_ask_4 : decode cX11_ask 4 = .ok (.iload_n 1, 1) := by decide +kernel
theorem dX11_ask_5 : decode cX11_ask 5 = .ok (.invokevirtual 182, 3) := by decide +kernel
theorem dX11_ask_8 : decode cX11_ask 8 = .ok (.ifCond .ne 5, 3) := by decide +kernel
theorem dX11_ask_11 : decode cX11_ask 11 = .ok (.iconst (-1), 1) := by decide +kernel
theorem dX11_ask_12 : decode cX11_ask 12 = .ok (.ireturn, 1) := by decide +kernel
theorem dX11_ask_13 : decode cX11_ask 13 = .ok (.iload_n 2, 1) := by decide +kernel
theorem dX11_ask_14 : decode cX11_ask 14 = .ok (.iconst 0, 1) := by decide +kernel
theorem dX11_ask_15 : decode cX11_ask 15 = .ok (.iconst 1, 1) := by decide +kernel
theorem dX11_ask_16 : decode cX11_ask 16 = .ok (.invokestatic 113, 3) := by decide +kernel
theorem dX11_ask_19 : decode cX11_ask 19 = .ok (.ifCond .ne 6, 3) := by decide +kernel
theorem dX11_ask_22 : decode cX11_ask 22 = .ok (.bipush (-2), 2) := by decide +kernel
theorem dX11_ask_24 : decode cX11_ask 24 = .ok (.ireturn, 1) := by decide +kernel
theorem dX11_ask_25 : decode cX11_ask 25 = .ok (.aload_n 0, 1) := by decide +kernel
theorem dX11_ask_26 : decode cX11_ask 26 = .ok (.iload_n 1, 1) := by decide +kernel
theorem dX11_ask_27 : decode cX11_ask 27 = .ok (.invokevirtual 297, 3) := by decide +kernel
theorem dX11_ask_30 : decode cX11_ask 30 = .ok (.ifCond .eq 6, 3) := by decide +kernel
theorem dX11_ask_33 : decode cX11_ask 33 = .ok (.bipush (-6), 2) := by decide +kernel
theorem dX11_ask_35 : decode cX11_ask 35 = .ok (.ireturn, 1) := by decide +kernel
theorem dX11_ask_36 : decode cX11_ask 36 = .ok (.aload_n 0, 1) := by decide +kernel
theorem dX11_ask_37 : decode cX11_ask 37 = .ok (.getfield 48, 3) := by decide +kernel
theorem dX11_ask_40 : decode cX11_ask 40 = .ok (.invokevirtual 325, 3) := by decide +kernel
theorem dX11_ask_43 : decode cX11_ask 43 = .ok (.istore_n 3, 1) := by decide +kernel
theorem dX11_ask_44 : decode cX11_ask 44 = .ok (.iload_n 2, 1) := by decide +kernel
theorem dX11_ask_45 : decode cX11_ask 45 = .ok (.ifCond .ne 15, 3) := by decide +kernel
theorem dX11_ask_48 : decode cX11_ask 48 = .ok (.aload_n 0, 1) := by decide +kernel
theorem dX11_ask_49 : decode cX11_ask 49 = .ok (.getfield 48, 3) := by decide +kernel
theorem dX11_ask_52 : decode cX11_ask 52 = .ok (.getfield 329, 3) := by decide +kernel
theorem dX11_ask_55 : decode cX11_ask 55 = .ok (.iload_n 3, 1) := by decide +kernel
theorem dX11_ask_56 : decode cX11_ask 56 = .ok (.iaload, 1) := by decide +kernel
theorem dX11_ask_57 : decode cX11_ask 57 = .ok (.goto 11, 3) := by decide +kernel
theorem dX11_ask_60 : decode cX11_ask 60 = .ok (.aload_n 0, 1) := by decide +kernel
theorem dX11_ask_61 : decode cX11_ask 61 = .ok (.getfield 48, 3) := by decide +kernel
theorem dX11_ask_64 : decode cX11_ask 64 = .ok (.iload_n 3, 1) := by decide +kernel
theorem dX11_ask_65 : decode cX11_ask 65 = .ok (.invokevirtual 332, 3) := by decide +kernel
theorem dX11_ask_68 : decode cX11_ask 68 = .ok (.ireturn, 1) := by decide +kernel
theorem dX11_back_0 : decode cX11_back 0 = .ok (.iload_n 1, 1) := by decide +kernel
theorem dX11_back_1 : decode cX11_back 1 = .ok (.iconst 0, 1) := by decide +kernel
theorem dX11_back_2 : decode cX11_back 2 = .ok (.iconst 1, 1) := by decide +kernel
theorem dX11_back_3 : decode cX11_back 3 = .ok (.invokestatic 113, 3) := by decide +kernel
theorem dX11_back_6 : decode cX11_back 6 = .ok (.ifCond .ne 5, 3) := by decide +kernel
theorem dX11_back_9 : decode cX11_back 9 = .ok (.iconst (-1), 1) := by decide +kernel
theorem dX11_back_10 : decode cX11_back 10 = .ok (.ireturn, 1) := by decide +kernel
theorem dX11_back_11 : decode cX11_back 11 = .ok (.aload_n 0, 1) := by decide +kernel
theorem dX11_back_12 : decode cX11_back 12 = .ok (.getfield 79, 3) := by decide +kernel
theorem dX11_back_15 : decode cX11_back 15 = .ok (.iload_n 1, 1) := by decide +kernel
theorem dX11_back_16 : decode cX11_back 16 = .ok (.baload, 1) := by decide +kernel
theorem dX11_back_17 : decode cX11_back 17 = .ok (.ifCond .ne 6, 3) := by decide +kernel
theorem dX11_back_20 : decode cX11_back 20 = .ok (.bipush (-3), 2) := by decide +kernel
theorem dX11_back_22 : decode cX11_back 22 = .ok (.ireturn, 1) := by decide +kernel
theorem dX11_back_23 : decode cX11_back 23 = .ok (.aload_n 0, 1) := by decide +kernel
theorem dX11_back_24 : decode cX11_back 24 = .ok (.getfield 12, 3) := by decide +kernel
theorem dX11_back_27 : decode cX11_back 27 = .ok (.aload_n 0, 1) := by decide +kernel
theorem dX11_back_28 : decode cX11_back 28 = .ok (.getfield 75, 3) := by decide +kernel
theorem dX11_back_31 : decode cX11_back 31 = .ok (.iload_n 1, 1) := by decide +kernel
theorem dX11_back_32 : decode cX11_back 32 = .ok (.aaload, 1) := by decide +kernel
theorem dX11_back_33 : decode cX11_back 33 = .ok (.invokevirtual 414, 3) := by decide +kernel
theorem dX11_back_36 : decode cX11_back 36 = .ok (.aload_n 0, 1) := by decide +kernel
theorem dX11_back_37 : decode cX11_back 37 = .ok (.invokevirtual 121, 3) := by decide +kernel
theorem dX11_back_40 : decode cX11_back 40 = .ok (.iconst 1, 1) := by decide +kernel
theorem dX11_back_41 : decode cX11_back 41 = .ok (.ireturn, 1) := by decide +kernel
theorem dX11_between_0 : decode cX11_between 0 = .ok (.aload_n 0, 1) := by decide +kernel
theorem dX11_between_1 : decode cX11_between 1 = .ok (.getfield 12, 3) := by decide +kernel
theorem dX11_between_4 : decode cX11_between 4 = .ok (.iload_n 1, 1) := by decide +kernel
theorem dX11_between_5 : decode cX11_between 5 = .ok (.invokevirtual 182, 3) := by decide +kernel
theorem dX11_between_8 : decode cX11_between 8 = .ok (.ifCond .ne 5, 3) := by decide +kernel
theorem dX11_between_11 : decode cX11_between 11 = .ok (.iconst (-1), 1) := by decide +kernel
theorem dX11_between_12 : decode cX11_between 12 = .ok (.ireturn, 1) := by decide +kernel
theorem dX11_between_13 : decode cX11_between 13 = .ok (.iload_n 2, 1) := by decide +kernel
theorem dX11_between_14 : decode cX11_between 14 = .ok (.iconst 0, 1) := by decide +kernel
theorem dX11_between_15 : decode cX11_between 15 = .ok (.iconst 2, 1) := by decide +kernel
theorem dX11_between_16 : decode cX11_between 16 = .ok (.invokestatic 113, 3) := by decide +kernel
theorem dX11_between_19 : decode cX11_between 19 = .ok (.ifCond .ne 6, 3) := by decide +kernel
theorem dX11_between_22 : decode cX11_between 22 = .ok (.bipush (-2), 2) := by decide +kernel
theorem dX11_between_24 : decode cX11_between 24 = .ok (.ireturn, 1) := by decide +kernel
theorem dX11_between_25 : decode cX11_between 25 = .ok (.aload_n 0, 1) := by decide +kernel
theorem dX11_between_26 : decode cX11_between 26 = .ok (.iload_n 1, 1) := by decide +kernel
theorem dX11_between_27 : decode cX11_between 27 = .ok (.invokevirtual 297, 3) := by decide +kernel
theorem dX11_between_30 : decode cX11_between 30 = .ok (.ifCond .eq 6, 3) := by decide +kernel
theorem dX11_between_33 : decode cX11_between 33 = .ok (.bipush (-6), 2) := by decide +kernel
theorem dX11_between_35 : decode cX11_between 35 = .ok (.ireturn, 1) := by decide +kernel
theorem dX11_between_36 : decode cX11_between 36 = .ok (.aload_n 0, 1) := by decide +kernel
theorem dX11_between_37 : decode cX11_between 37 = .ok (.getfield 48, 3) := by decide +kernel
theorem dX11_between_40 : decode cX11_between 40 = .ok (.getfield 335, 3) := by decide +kernel
theorem dX11_between_43 : decode cX11_between 43 = .ok (.iconst 2, 1) := by decide +kernel
theorem dX11_between_44 : decode cX11_between 44 = .ok (.if_icmp .ge 8, 3) := by decide +kernel
theorem dX11_between_47 : decode cX11_between 47 = .ok (.bipush (-9), 2) := by decide +kernel
theorem dX11_between_49 : decode cX11_between 49 = .ok (.goto 11, 3) := by decide +kernel
theorem dX11_between_52 : decode cX11_between 52 = .ok (.aload_n 0, 1) := by decide +kernel
theorem dX11_between_53 : decode cX11_between 53 = .ok (.getfield 48, 3) := by decide +kernel
theorem dX11_between_56 : decode cX11_between 56 = .ok (.iload_n 2, 1) := by decide +kernel
theorem dX11_between_57 : decode cX11_between 57 = .ok (.invokevirtual 338, 3) := by decide +kernel
theorem dX11_between_60 : decode cX11_between 60 = .ok (.ireturn, 1) := by decide +kernel
theorem dX11_bit_0 : decode cX11_bit 0 = .ok (.lconst 1, 1) := by decide +kernel
theorem dX11_bit_1 : decode cX11_bit 1 = .ok (.iload_n 0, 1) := by decide +kernel
theorem dX11_bit_2 : decode cX11_bit 2 = .ok (.lshl, 1) := by decide +kernel
theorem dX11_bit_3 : decode cX11_bit 3 = .ok (.lreturn, 1) := by decide +kernel
theorem dX11_box_0 : decode cX11_box 0 = .ok (.aload_n 0, 1) := by decide +kernel
theorem dX11_box_1 : decode cX11_box 1 = .ok (.getfield 12, 3) := by decide +kernel
theorem dX11_box_4 : decode cX11_box 4 = .ok (.iload_n 1, 1) := by decide +kernel
theorem dX11_box_5 : decode cX11_box 5 = .ok (.invokevirtual 182, 3) := by decide +kernel
theorem dX11_box_8 : decode cX11_box 8 = .ok (.ifCond .ne 5, 3) := by decide +kernel
theorem dX11_box_11 : decode cX11_box 11 = .ok (.iconst (-1), 1) := by decide +kernel
theorem dX11_box_12 : decode cX11_box 12 = .ok (.ireturn, 1) := by decide +kernel
theorem dX11_box_13 : decode cX11_box 13 = .ok (.aload_n 0, 1) := by decide +kernel
theorem dX11_box_14 : decode cX11_box 14 = .ok (.getfield 12, 3) := by decide +kernel
theorem dX11_box_17 : decode cX11_box 17 = .ok (.getfield 185, 3) := by decide +kernel
theorem dX11_box_20 : decode cX11_box 20 = .ok (.iload_n 1, 1) := by decide +kernel
theorem dX11_box_21 : decode cX11_box 21 = .ok (.aaload, 1) := by decide +kernel
theorem dX11_box_22 : decode cX11_box 22 = .ok (.invokevirtual 188, 3) := by decide +kernel
theorem dX11_box_25 : decode cX11_box 25 = .ok (.ifCond .eq 6, 3) := by decide +kernel
theorem dX11_box_28 : decode cX11_box 28 = .ok (.bipush (-3), 2) := by decide +kernel
theorem dX11_box_30 : decode cX11_box 30 = .ok (.ireturn, 1) := by decide +kernel
theorem dX11_box_31 : decode cX11_box 31 = .ok (.iload_n 2, 1) := by decide +kernel
theorem dX11_box_32 : decode cX11_box 32 = .ok (.iload 4, 2) := by decide +kernel
theorem dX11_box_34 : decode cX11_box 34 = .ok (.invokestatic 192, 3) := by decide +kernel
theorem dX11_box_37 : decode cX11_box 37 = .ok (.ifCond .eq 12, 3) := by decide +kernel
theorem dX11_box_40 : decode cX11_box 40 = .ok (.iload_n 3, 1) := by decide +kernel
theorem dX11_box_41 : decode cX11_box 41 = .ok (.iload 5, 2) := by decide +kernel
theorem dX11_box_43 : decode cX11_box 43 = .ok (.invokestatic 192, 3) := by decide +kernel
theorem dX11_box_46 : decode cX11_box 46 = .ok (.ifCond .ne 6, 3) := by decide +kernel
theorem dX11_box_49 : decode cX11_box 49 = .ok (.bipush (-2), 2) := by decide +kernel
theorem dX11_box_51 : decode cX11_box 51 = .ok (.ireturn, 1) := by decide +kernel
theorem dX11_box_52 : decode cX11_box 52 = .ok (.aload_n 0, 1) := by decide +kernel
theorem dX11_box_53 : decode cX11_box 53 = .ok (.getfield 12, 3) := by decide +kernel
theorem dX11_box_56 : decode cX11_box 56 = .ok (.getfield 195, 3) := by decide +kernel
theorem dX11_box_59 : decode cX11_box 59 = .ok (.iload_n 1, 1) := by decide +kernel
theorem dX11_box_60 : decode cX11_box 60 = .ok (.iload_n 2, 1) := by decide +kernel
theorem dX11_box_61 : decode cX11_box 61 = .ok (.iload_n 3, 1) := by decide +kernel
theorem dX11_box_62 : decode cX11_box 62 = .ok (.iload 4, 2) := by decide +kernel
theorem dX11_box_64 : decode cX11_box 64 = .ok (.iload 5, 2) := by decide +kernel
theorem dX11_box_66 : decode cX11_box 66 = .ok (.invokestatic 199, 3) := by decide +kernel
theorem dX11_box_69 : decode cX11_box 69 = .ok (.lastore, 1) := by decide +kernel
theorem dX11_box_70 : decode cX11_box 70 = .ok (.aload_n 0, 1) := by decide +kernel
theorem dX11_box_71 : decode cX11_box 71 = .ok (.invokevirtual 179, 3) := by decide +kernel
theorem dX11_box_74 : decode cX11_box 74 = .ok (.aload_n 0, 1) := by decide +kernel
theorem dX11_box_75 : decode cX11_box 75 = .ok (.getfield 12, 3) := by decide +kernel
theorem dX11_box_78 : decode cX11_box 78 = .ok (.iload_n 1, 1) := by decide +kernel
theorem dX11_box_79 : decode cX11_box 79 = .ok (.invokevirtual 203, 3) := by decide +kernel
theorem dX11_box_82 : decode cX11_box 82 = .ok (.invokestatic 168, 3) := by decide +kernel
theorem dX11_box_85 : decode cX11_box 85 = .ok (.ireturn, 1) := by decide +kernel
theorem dX11_boxed_0 : decode cX11_boxed 0 = .ok (.lconst 0, 1) := by decide +kernel
theorem dX11_boxed_1 : decode cX11_boxed 1 = .ok (.lstore 4, 2) := by decide +kernel
theorem dX11_boxed_3 : decode cX11_boxed 3 = .ok (.iload_n 1, 1) := by decide +kernel
theorem dX11_boxed_4 : decode cX11_boxed 4 = .ok (.istore 6, 2) := by decide +kernel
theorem dX11_boxed_6 : decode cX11_boxed 6 = .ok (.iload 6, 2) := by decide +kernel
theorem dX11_boxed_8 : decode cX11_boxed 8 = .ok (.iload_n 3, 1) := by decide +kernel
theorem dX11_boxed_9 : decode cX11_boxed 9 = .ok (.if_icmp .gt 40, 3) := by decide +kernel
theorem dX11_boxed_12 : decode cX11_boxed 12 = .ok (.iload_n 0, 1) := by decide +kernel
theorem dX11_boxed_13 : decode cX11_boxed 13 = .ok (.istore 7, 2) := by decide +kernel
theorem dX11_boxed_15 : decode cX11_boxed 15 = .ok (.iload 7, 2) := by decide +kernel
theorem dX11_boxed_17 : decode cX11_boxed 17 = .ok (.iload_n 2, 1) := by decide +kernel
theorem dX11_boxed_18 : decode cX11_boxed 18 = .ok (.if_icmp .gt 25, 3) := by decide +kernel
theorem dX11_boxed_21 : decode cX11_boxed 21 = .ok (.lload 4, 2) := by decide +kernel
theorem dX11_boxed_23 : decode cX11_boxed 23 = .ok (.bipush 8, 2) := by decide +kernel
theorem dX11_boxed_25 : decode cX11_boxed 25 = .ok (.iload 6, 2) := by decide +kernel
theorem dX11_boxed_27 : decode cX11_boxed 27 = .ok (.imul, 1) := by decide +kernel
theorem dX11_boxed_28 : decode cX11_boxed 28 = .ok (.iload 7, 2) := by decide +kernel
theorem dX11_boxed_30 : decode cX11_boxed 30 = .ok (.iadd, 1) := by decide +kernel
theorem dX11_boxed_31 : decode cX11_boxed 31 = .ok (.invokestatic 140, 3) := by decide +kernel
theorem dX11_boxed_34 : decode cX11_boxed 34 = .ok (.lor, 1) := by decide +kernel
theorem dX11_boxed_35 : decode cX11_boxed 35 = .ok (.lstore 4, 2) := by decide +kernel
theorem dX11_boxed_37 : decode cX11_boxed 37 = .ok (.iinc 7 1, 3) := by decide +kernel
theorem dX11_boxed_40 : decode cX11_boxed 40 = .ok (.goto (-25), 3) := by decide +kernel
theorem dX11_boxed_43 : decode cX11_boxed 43 = .ok (.iinc 6 1, 3) := by decide +kernel
theorem dX11_boxed_46 : decode cX11_boxed 46 = .ok (.goto (-40), 3) := by decide +kernel
theorem dX11_boxed_49 : decode cX11_boxed 49 = .ok (.lload 4, 2) := by decide +kernel
theorem dX11_boxed_51 : decode cX11_boxed 51 = .ok (.lreturn, 1) := by decide +kernel
theorem dX11_can_0 : decode cX11_can 0 = .ok (.aload_n 0, 1) := by decide +kernel
theorem dX11_can_1 : decode cX11_can 1 = .ok (.getfield 12, 3) := by decide +kernel
theorem dX11_can_4 : decode cX11_can 4 = .ok (.iload_n 1, 1) := by decide +kernel
theorem dX11_can_5 : decode cX11_can 5 = .ok (.invokevirtual 182, 3) := by decide +kernel
theorem dX11_can_8 : decode cX11_can 8 = .ok (.ifCond .eq 14, 3) := by decide +kernel
theorem dX11_can_11 : decode cX11_can 11 = .ok (.aload_n 0, 1) := by decide +kernel
theorem dX11_can_12 : decode cX11_can 12 = .ok (.getfield 12, 3) := by decide +kernel
theorem dX11_can_15 : decode cX11_can 15 = .ok (.iload_n 2, 1) := by decide +kernel
theorem dX11_can_16 : decode cX11_can 16 = .ok (.invokevirtual 124, 3) := by decide +kernel
theorem dX11_can_19 : decode cX11_can 19 = .ok (.ifCond .ne 5, 3) := by decide +kernel
theorem dX11_can_22 : decode cX11_can 22 = .ok (.iconst (-1), 1) := by decide +kernel
theorem dX11_can_23 : decode cX11_can 23 = .ok (.ireturn, 1) := by decide +kernel
theorem dX11_can_24 : decode cX11_can 24 = .ok (.iload_n 3, 1) := by decide +kernel
theorem dX11_can_25 : decode cX11_can 25 = .ok (.iconst 0, 1) := by decide +kernel
theorem dX11_can_26 : decode cX11_can 26 = .ok (.iconst 1, 1) := by decide +kernel
theorem dX11_can_27 : decode cX11_can 27 = .ok (.invokestatic 113, 3) := by decide +kernel
theorem dX11_can_30 : decode cX11_can 30 = .ok (.ifCond .ne 6, 3) := by decide +kernel
theorem dX11_can_33 : decode cX11_can 33 = .ok (.bipush (-2), 2) := by decide +kernel
theorem dX11_can_35 : decode cX11_can 35 = .ok (.ireturn, 1) := by decide +kernel
theorem dX11_can_36 : decode cX11_can 36 = .ok (.iload_n 3, 1) := by decide +kernel
theorem dX11_can_37 : decode cX11_can 37 = .ok (.ifCond .ne 14, 3) := by decide +kernel
theorem dX11_can_40 : decode cX11_can 40 = .ok (.aload_n 0, 1) := by decide +kernel
theorem dX11_can_41 : decode cX11_can 41 = .ok (.getfield 12, 3) := by decide +kernel
theorem dX11_can_44 : decode cX11_can 44 = .ok (.iload_n 1, 1) := by decide +kernel
theorem dX11_can_45 : decode cX11_can 45 = .ok (.invokevirtual 203, 3) := by decide +kernel
theorem dX11_can_48 : decode cX11_can 48 = .ok (.goto 11, 3) := by decide +kernel
theorem dX11_can_51 : decode cX11_can 51 = .ok (.aload_n 0, 1) := by decide +kernel
theorem dX11_can_52 : decode cX11_can 52 = .ok (.invokevirtual 206, 3) := by decide +kernel
theorem dX11_can_55 : decode cX11_can 55 = .ok (.iload_n 1, 1) := by decide +kernel
theorem dX11_can_56 : decode cX11_can 56 = .ok (.invokevirtual 210, 3) := by decide +kernel
theorem dX11_can_59 : decode cX11_can 59 = .ok (.iload_n 2, 1) := by decide +kernel
theorem dX11_can_60 : decode cX11_can 60 = .ok (.invokestatic 132, 3) := by decide +kernel
theorem dX11_can_63 : decode cX11_can 63 = .ok (.ifCond .eq 7, 3) := by decide +kernel
theorem dX11_can_66 : decode cX11_can 66 = .ok (.iconst 1, 1) := by decide +kernel
theorem dX11_can_67 : decode cX11_can 67 = .ok (.goto 4, 3) := by decide +kernel
theorem dX11_can_70 : decode cX11_can 70 = .ok (.iconst 0, 1) := by decide +kernel
theorem dX11_can_71 : decode cX11_can 71 = .ok (.ireturn, 1) := by decide +kernel
theorem dX11_cell_0 : decode cX11_cell 0 = .ok (.aload_n 0, 1) := by decide +kernel
theorem dX11_cell_1 : decode cX11_cell 1 = .ok (.iload_n 1, 1) := by decide +kernel
theorem dX11_cell_2 : decode cX11_cell 2 = .ok (.iload_n 3, 1) := by decide +kernel
theorem dX11_cell_3 : decode cX11_cell 3 = .ok (.invokevirtual 144, 3) := by decide +kernel
theorem dX11_cell_6 : decode cX11_cell 6 = .ok (.ifCond .eq 7, 3) := by decide +kernel
theorem dX11_cell_9 : decode cX11_cell 9 = .ok (.ldc2_w 390, 3) := by decide +kernel
theorem dX11_cell_12 : decode cX11_cell 12 = .ok (.lreturn, 1) := by decide +kernel
theorem dX11_cell_13 : decode cX11_cell 13 = .ok (.aload_n 0, 1) := by decide +kernel
theorem dX11_cell_14 : decode cX11_cell 14 = .ok (.getfield 97, 3) := by decide +kernel
theorem dX11_cell_17 : decode cX11_cell 17 = .ok (.iload_n 1, 1) := by decide +kernel
theorem dX11_cell_18 : decode cX11_cell 18 = .ok (.aaload, 1) := by decide +kernel
theorem dX11_cell_19 : decode cX11_cell 19 = .ok (.iload_n 2, 1) := by decide +kernel
theorem dX11_cell_20 : decode cX11_cell 20 = .ok (.iconst 1, 1) := by decide +kernel
theorem dX11_cell_21 : decode cX11_cell 21 = .ok (.invokevirtual 154, 3) := by decide +kernel
theorem dX11_cell_24 : decode cX11_cell 24 = .ok (.ifCond .ne 12, 3) := by decide +kernel
theorem dX11_cell_27 : decode cX11_cell 27 = .ok (.aload_n 0, 1) := by decide +kernel
theorem dX11_cell_28 : decode cX11_cell 28 = .ok (.iconst 3, 1) := by decide +kernel
theorem dX11_cell_29 : decode cX11_cell 29 = .ok (.putfield 109, 3) := by decide +kernel
theorem dX11_cell_32 : decode cX11_cell 32 = .ok (.ldc2_w 390, 3) := by decide +kernel
theorem dX11_cell_35 : decode cX11_cell 35 = .ok (.lreturn, 1) := by decide +kernel
theorem dX11_cell_36 : decode cX11_cell 36 = .ok (.aload_n 0, 1) := by decide +kernel
theorem dX11_cell_37 : decode cX11_cell 37 = .ok (.getfield 97, 3) := by decide +kernel
theorem dX11_cell_40 : decode cX11_cell 40 = .ok (.iload_n 1, 1) := by decide +kernel
theorem dX11_cell_41 : decode cX11_cell 41 = .ok (.aaload, 1) := by decide +kernel
theorem dX11_cell_42 : decode cX11_cell 42 = .ok (.getfield 457, 3) := by decide +kernel
theorem dX11_cell_45 : decode cX11_cell 45 = .ok (.iload_n 2, 1) := by decide +kernel
theorem dX11_cell_46 : decode cX11_cell 46 = .ok (.laload, 1) := by decide +kernel
theorem dX11_cell_47 : decode cX11_cell 47 = .ok (.lreturn, 1) := by decide +kernel
theorem dX11_cells_0 : decode cX11_cells 0 = .ok (.aload_n 0, 1) := by decide +kernel
theorem dX11_cells_1 : decode cX11_cells 1 = .ok (.getfield 12, 3) := by decide +kernel
theorem dX11_cells_4 : decode cX11_cells 4 = .ok (.iload_n 1, 1) := by decide +kernel
theorem dX11_cells_5 : decode cX11_cells 5 = .ok (.invokevirtual 182, 3) := by decide +kernel
theorem dX11_cells_8 : decode cX11_cells 8 = .ok (.ifCond .eq 14, 3) := by decide +kernel
theorem dX11_cells_11 : decode cX11_cells 11 = .ok (.aload_n 0, 1) := by decide +kernel
theorem dX11_cells_12 : decode cX11_cells 12 = .ok (.invokevirtual 206, 3) := by decide +kernel
theorem dX11_cells_15 : decode cX11_cells 15 = .ok (.iload_n 1, 1) := by decide +kernel
theorem dX11_cells_16 : decode cX11_cells 16 = .ok (.invokevirtual 210, 3) := by decide +kernel
theorem dX11_cells_19 : decode cX11_cells 19 = .ok (.goto 4, 3) := by decide +kernel
theorem dX11_cells_22 : decode cX11_cells 22 = .ok (.lconst 0, 1) := by decide +kernel
theorem dX11_cells_23 : decode cX11_cells 23 = .ok (.lreturn, 1) := by decide +kernel
theorem dX11_changed_0 : decode cX11_changed 0 = .ok (.aload_n 0, 1) := by decide +kernel
theorem dX11_changed_1 : decode cX11_changed 1 = .ok (.iconst 0, 1) := by decide +kernel
theorem dX11_changed_2 : decode cX11_changed 2 = .ok (.putfield 101, 3) := by decide +kernel
theorem dX11_changed_5 : decode cX11_changed 5 = .ok (.aload_n 0, 1) := by decide +kernel
theorem dX11_changed_6 : decode cX11_changed 6 = .ok (.getfield 39, 3) := by decide +kernel
theorem dX11_changed_9 : decode cX11_changed 9 = .ok (.invokevirtual 488, 3) := by decide +kernel
theorem dX11_changed_12 : decode cX11_changed 12 = .ok (.aload_n 0, 1) := by decide +kernel
theorem dX11_changed_13 : decode cX11_changed 13 = .ok (.getfield 48, 3) := by decide +kernel
theorem dX11_changed_16 : decode cX11_changed 16 = .ok (.invokevirtual 294, 3) := by decide +kernel
theorem dX11_changed_19 : decode cX11_changed 19 = .ok (.aload_n 0, 1) := by decide +kernel
theorem dX11_changed_20 : decode cX11_changed 20 = .ok (.getfield 64, 3) := by decide +kernel
theorem dX11_changed_23 : decode cX11_changed 23 = .ok (.invokevirtual 489, 3) := by decide +kernel
theorem dX11_changed_26 : decode cX11_changed 26 = .ok (.return_, 1) := by decide +kernel
theorem dX11_check_0 : decode cX11_check 0 = .ok (.aload_n 0, 1) := by decide +kernel
theorem dX11_check_1 : decode cX11_check 1 = .ok (.getfield 12, 3) := by decide +kernel
theorem dX11_check_4 : decode cX11_check 4 = .ok (.invokevirtual 341, 3) := by decide +kernel
theorem dX11_check_7 : decode cX11_check 7 = .ok (.istore_n 1, 1) := by decide +kernel
theorem dX11_check_8 : decode cX11_check 8 = .ok (.iload_n 1, 1) := by decide +kernel
theorem dX11_check_9 : decode cX11_check 9 = .ok (.bipush (-9), 2) := by decide +kernel
theorem dX11_check_11 : decode cX11_check 11 = .ok (.if_icmp .eq 8, 3) := by decide +kernel
theorem dX11_check_14 : decode cX11_check 14 = .ok (.bipush (-100), 2) := by decide +kernel
theorem dX11_check_16 : decode cX11_check 16 = .ok (.iload_n 1, 1) := by decide +kernel
theorem dX11_check_17 : decode cX11_check 17 = .ok (.isub, 1) := by decide +kernel
theorem dX11_check_18 : decode cX11_check 18 = .ok (.ireturn, 1) := by decide +kernel
theorem dX11_check_19 : decode cX11_check 19 = .ok (.aload_n 0, 1) := by decide +kernel
theorem dX11_check_20 : decode cX11_check 20 = .ok (.getfield 12, 3) := by decide +kernel
theorem dX11_check_23 : decode cX11_check 23 = .ok (.getfield 291, 3) := by decide +kernel
theorem dX11_check_26 : decode cX11_check 26 = .ok (.ifCond .eq 13, 3) := by decide +kernel
theorem dX11_check_29 : decode cX11_check 29 = .ok (.aload_n 0, 1) := by decide +kernel
theorem dX11_check_30 : decode cX11_check 30 = .ok (.getfield 12, 3) := by decide +kernel
theorem dX11_check_33 : decode cX11_check 33 = .ok (.invokevirtual 344, 3) := by decide +kernel
theorem dX11_check_36 : decode cX11_check 36 = .ok (.goto 5, 3) := by decide +kernel
theorem dX11_check_39 : decode cX11_check 39 = .ok (.bipush (-9), 2) := by decide +kernel
theorem dX11_check_41 : decode cX11_check 41 = .ok (.istore_n 1, 1) := by decide +kernel
theorem dX11_check_42 : decode cX11_check 42 = .ok (.iload_n 1, 1) := by decide +kernel
theorem dX11_check_43 : decode cX11_check 43 = .ok (.bipush (-9), 2) := by decide +kernel
theorem dX11_check_45 : decode cX11_check 45 = .ok (.if_icmp .eq 9, 3) := by decide +kernel
theorem dX11_check_48 : decode cX11_check 48 = .ok (.sipush (-200), 3) := by decide +kernel
theorem dX11_check_51 : decode cX11_check 51 = .ok (.iload_n 1, 1) := by decide +kernel
theorem dX11_check_52 : decode cX11_check 52 = .ok (.isub, 1) := by decide +kernel
theorem dX11_check_53 : decode cX11_check 53 = .ok (.ireturn, 1) := by decide +kernel
theorem dX11_check_54 : decode cX11_check 54 = .ok (.aload_n 0, 1) := by decide +kernel
theorem dX11_check_55 : decode cX11_check 55 = .ok (.invokevirtual 281, 3) := by decide +kernel
theorem dX11_check_58 : decode cX11_check 58 = .ok (.aload_n 0, 1) := by decide +kernel
theorem dX11_check_59 : decode cX11_check 59 = .ok (.getfield 30, 3) := by decide +kernel
theorem dX11_check_62 : decode cX11_check 62 = .ok (.invokevirtual 347, 3) := by decide +kernel
theorem dX11_check_65 : decode cX11_check 65 = .ok (.istore_n 1, 1) := by decide +kernel
theorem dX11_check_66 : decode cX11_check 66 = .ok (.iload_n 1, 1) := by decide +kernel
theorem dX11_check_67 : decode cX11_check 67 = .ok (.bipush (-9), 2) := by decide +kernel
theorem dX11_check_69 : decode cX11_check 69 = .ok (.if_icmp .eq 10, 3) := by decide +kernel
theorem dX11_check_72 : decode cX11_check 72 = .ok (.bipush (-20), 2) := by decide +kernel
theorem dX11_check_74 : decode cX11_check 74 = .ok (.iload_n 1, 1) := by decide +kernel
theorem dX11_check_75 : decode cX11_check 75 = .ok (.isub, 1) := by decide +kernel
theorem dX11_check_76 : decode cX11_check 76 = .ok (.goto 4, 3) := by decide +kernel
theorem dX11_check_79 : decode cX11_check 79 = .ok (.iconst 1, 1) := by decide +kernel
theorem dX11_check_80 : decode cX11_check 80 = .ok (.ireturn, 1) := by decide +kernel
theorem dX11_copy_0 : decode cX11_copy 0 = .ok (.aload_n 0, 1) := by decide +kernel
theorem dX11_copy_1 : decode cX11_copy 1 = .ok (.iconst 0, 1) := by decide +kernel
theorem dX11_copy_2 : decode cX11_copy 2 = .ok (.putfield 109, 3) := by decide +kernel
theorem dX11_copy_5 : decode cX11_copy 5 = .ok (.iload_n 1, 1) := by decide +kernel
theorem dX11_copy_6 : decode cX11_copy 6 = .ok (.iconst 0, 1) := by decide +kernel
theorem dX11_copy_7 : decode cX11_copy 7 = .ok (.iconst 3, 1) := by decide +kernel
theorem dX11_copy_8 : decode cX11_copy 8 = .ok (.invokestatic 113, 3) := by decide +kernel
theorem dX11_copy_11 : decode cX11_copy 11 = .ok (.ifCond .eq 12, 3) := by decide +kernel
theorem dX11_copy_14 : decode cX11_copy 14 = .ok (.iload_n 3, 1) := by decide +kernel
theorem dX11_copy_15 : decode cX11_copy 15 = .ok (.iconst 0, 1) := by decide +kernel
theorem dX11_copy_16 : decode cX11_copy 16 = .ok (.iconst 3, 1) := by decide +kernel
theorem dX11_copy_17 : decode cX11_copy 17 = .ok (.invokestatic 113, 3) := by decide +kernel
theorem dX11_copy_20 : decode cX11_copy 20 = .ok (.ifCond .ne 5, 3) := by decide +kernel
theorem dX11_copy_23 : decode cX11_copy 23 = .ok (.iconst (-1), 1) := by decide +kernel
theorem dX11_copy_24 : decode cX11_copy 24 = .ok (.ireturn, 1) := by decide +kernel
theorem dX11_copy_25 : decode cX11_copy 25 = .ok (.aload_n 0, 1) := by decide +kernel
theorem dX11_copy_26 : decode cX11_copy 26 = .ok (.getfield 97, 3) := by decide +kernel
theorem dX11_copy_29 : decode cX11_copy 29 = .ok (.iload_n 1, 1) := by decide +kernel
theorem dX11_copy_30 : decode cX11_copy 30 = .ok (.aaload, 1) := by decide +kernel
theorem dX11_copy_31 : decode cX11_copy 31 = .ok (.astore 6, 2) := by decide +kernel
theorem dX11_copy_33 : decode cX11_copy 33 = .ok (.aload_n 0, 1) := by decide +kernel
theorem dX11_copy_34 : decode cX11_copy 34 = .ok (.getfield 97, 3) := by decide +kernel
theorem dX11_copy_37 : decode cX11_copy 37 = .ok (.iload_n 3, 1) := by decide +kernel
theorem dX11_copy_38 : decode cX11_copy 38 = .ok (.aaload, 1) := by decide +kernel
theorem dX11_copy_39 : decode cX11_copy 39 = .ok (.astore 7, 2) := by decide +kernel
theorem dX11_copy_41 : decode cX11_copy 41 = .ok (.aload 6, 2) := by decide +kernel
theorem dX11_copy_43 : decode cX11_copy 43 = .ok (.invokevirtual 447, 3) := by decide +kernel
theorem dX11_copy_46 : decode cX11_copy 46 = .ok (.ifCond .ne 11, 3) := by decide +kernel
theorem dX11_copy_49 : decode cX11_copy 49 = .ok (.aload 7, 2) := by decide +kernel
theorem dX11_copy_51 : decode cX11_copy 51 = .ok (.invokevirtual 447, 3) := by decide +kernel
theorem dX11_copy_54 : decode cX11_copy 54 = .ok (.ifCond .eq 9, 3) := by decide +kernel
theorem dX11_copy_57 : decode cX11_copy 57 = .ok (.aload_n 0, 1) := by decide +kernel
theorem dX11_copy_58 : decode cX11_copy 58 = .ok (.iconst 1, 1) := by decide +kernel
theorem dX11_copy_59 : decode cX11_copy 59 = .ok (.invokevirtual 158, 3) := by decide +kernel
theorem dX11_copy_62 : decode cX11_copy 62 = .ok (.ireturn, 1) := by decide +kernel
theorem dX11_copy_63 : decode cX11_copy 63 = .ok (.aload 6, 2) := by decide +kernel
theorem dX11_copy_65 : decode cX11_copy 65 = .ok (.getfield 460, 3) := by decide +kernel
theorem dX11_copy_68 : decode cX11_copy 68 = .ok (.aload 7, 2) := by decide +kernel
theorem dX11_copy_70 : decode cX11_copy 70 = .ok (.getfield 460, 3) := by decide +kernel
theorem dX11_copy_73 : decode cX11_copy 73 = .ok (.if_icmp .eq 9, 3) := by decide +kernel
theorem dX11_copy_76 : decode cX11_copy 76 = .ok (.aload_n 0, 1) := by decide +kernel
theorem dX11_copy_77 : decode cX11_copy 77 = .ok (.iconst 2, 1) := by decide +kernel
theorem dX11_copy_78 : decode cX11_copy 78 = .ok (.invokevirtual 158, 3) := by decide +kernel
theorem dX11_copy_81 : decode cX11_copy 81 = .ok (.ireturn, 1) := by decide +kernel
theorem dX11_copy_82 : decode cX11_copy 82 = .ok (.aload 6, 2) := by decide +kernel
theorem dX11_copy_84 : decode cX11_copy 84 = .ok (.iload_n 2, 1) := by decide +kernel
theorem dX11_copy_85 : decode cX11_copy 85 = .ok (.iload 5, 2) := by decide +kernel
theorem dX11_copy_87 : decode cX11_copy 87 = .ok (.invokevirtual 154, 3) := by decide +kernel
theorem dX11_copy_90 : decode cX11_copy 90 = .ok (.ifCond .eq 15, 3) := by decide +kernel
theorem dX11_copy_93 : decode cX11_copy 93 = .ok (.aload 7, 2) := by decide +kernel
theorem dX11_copy_95 : decode cX11_copy 95 = .ok (.iload 4, 2) := by decide +kernel
theorem dX11_copy_97 : decode cX11_copy 97 = .ok (.iload 5, 2) := by decide +kernel
theorem dX11_copy_99 : decode cX11_copy 99 = .ok (.invokevirtual 154, 3) := by decide +kernel
theorem dX11_copy_102 : decode cX11_copy 102 = .ok (.ifCond .ne 9, 3) := by decide +kernel
theorem dX11_copy_105 : decode cX11_copy 105 = .ok (.aload_n 0, 1) := by decide +kernel
theorem dX11_copy_106 : decode cX11_copy 106 = .ok (.iconst 3, 1) := by decide +kernel
theorem dX11_copy_107 : decode cX11_copy 107 = .ok (.invokevirtual 158, 3) := by decide +kernel
theorem dX11_copy_110 : decode cX11_copy 110 = .ok (.ireturn, 1) := by decide +kernel
theorem dX11_copy_111 : decode cX11_copy 111 = .ok (.aload 6, 2) := by decide +kernel
theorem dX11_copy_113 : decode cX11_copy 113 = .ok (.getfield 457, 3) := by decide +kernel
theorem dX11_copy_116 : decode cX11_copy 116 = .ok (.iload_n 2, 1) := by decide +kernel
theorem dX11_copy_117 : decode cX11_copy 117 = .ok (.aload 7, 2) := by decide +kernel
theorem dX11_copy_119 : decode cX11_copy 119 = .ok (.getfield 457, 3) := by decide +kernel
theorem dX11_copy_122 : decode cX11_copy 122 = .ok (.iload 4, 2) := by decide +kernel
theorem dX11_copy_124 : decode cX11_copy 124 = .ok (.iload 5, 2) := by decide +kernel
theorem dX11_copy_126 : decode cX11_copy 126 = .ok (.invokestatic 463, 3) := by decide +kernel
theorem dX11_copy_129 : decode cX11_copy 129 = .ok (.iload 5, 2) := by decide +kernel
theorem dX11_copy_131 : decode cX11_copy 131 = .ok (.ireturn, 1) := by decide +kernel
theorem dX11_could_0 : decode cX11_could 0 = .ok (.aload_n 0, 1) := by decide +kernel
theorem dX11_could_1 : decode cX11_could 1 = .ok (.getfield 12, 3) := by decide +kernel
theorem dX11_could_4 : decode cX11_could 4 = .ok (.iload_n 1, 1) := by decide +kernel
theorem dX11_could_5 : decode cX11_could 5 = .ok (.invokevirtual 182, 3) := by decide +kernel
theorem dX11_could_8 : decode cX11_could 8 = .ok (.ifCond .ne 5, 3) := by decide +kernel
theorem dX11_could_11 : decode cX11_could 11 = .ok (.iconst (-1), 1) := by decide +kernel
theorem dX11_could_12 : decode cX11_could 12 = .ok (.ireturn, 1) := by decide +kernel
theorem dX11_could_13 : decode cX11_could 13 = .ok (.aload_n 0, 1) := by decide +kernel
theorem dX11_could_14 : decode cX11_could 14 = .ok (.iload_n 1, 1) := by decide +kernel
theorem dX11_could_15 : decode cX11_could 15 = .ok (.invokevirtual 297, 3) := by decide +kernel
theorem dX11_could_18 : decode cX11_could 18 = .ok (.ifCond .eq 8, 3) := by decide +kernel
theorem dX11_could_21 : decode cX11_could 21 = .ok (.bipush (-6), 2) := by decide +kernel
theorem dX11_could_23 : decode cX11_could 23 = .ok (.goto 18, 3) := by decide +kernel
theorem dX11_could_26 : decode cX11_could 26 = .ok (.aload_n 0, 1) := by decide +kernel
theorem dX11_could_27 : decode cX11_could 27 = .ok (.getfield 48, 3) := by decide +kernel
theorem dX11_could_30 : decode cX11_could 30 = .ok (.aload_n 0, 1) := by decide +kernel
theorem dX11_could_31 : decode cX11_could 31 = .ok (.getfield 48, 3) := by decide +kernel
theorem dX11_could_34 : decode cX11_could 34 = .ok (.iload_n 1, 1) := by decide +kernel
theorem dX11_could_35 : decode cX11_could 35 = .ok (.invokevirtual 306, 3) := by decide +kernel
theorem dX11_could_38 : decode cX11_could 38 = .ok (.invokevirtual 315, 3) := by decide +kernel
theorem dX11_could_41 : decode cX11_could 41 = .ok (.ireturn, 1) := by decide +kernel
theorem dX11_distance_0 : decode cX11_distance 0 = .ok (.iload_n 1, 1) := by decide +kernel
theorem dX11_distance_1 : decode cX11_distance 1 = .ok (.bipush 7, 2) := by decide +kernel
theorem dX11_distance_3 : decode cX11_distance 3 = .ok (.iand, 1) := by decide +kernel
theorem dX11_distance_4 : decode cX11_distance 4 = .ok (.iload_n 0, 1) := by decide +kernel
theorem dX11_distance_5 : decode cX11_distance 5 = .ok (.bipush 7, 2) := by decide +kernel
theorem dX11_distance_7 : decode cX11_distance 7 = .ok (.iand, 1) := by decide +kernel
theorem dX11_distance_8 : decode cX11_distance 8 = .ok (.isub, 1) := by decide +kernel
theorem dX11_distance_9 : decode cX11_distance 9 = .ok (.istore_n 2, 1) := by decide +kernel
theorem dX11_distance_10 : decode cX11_distance 10 = .ok (.iload_n 1, 1) := by decide +kernel
theorem dX11_distance_11 : decode cX11_distance 11 = .ok (.iconst 3, 1) := by decide +kernel
theorem dX11_distance_12 : decode cX11_distance 12 = .ok (.ishr, 1) := by decide +kernel
theorem dX11_distance_13 : decode cX11_distance 13 = .ok (.iload_n 0, 1) := by decide +kernel
theorem dX11_distance_14 : decode cX11_distance 14 = .ok (.iconst 3, 1) := by decide +kernel
theorem dX11_distance_15 : decode cX11_distance 15 = .ok (.ishr, 1) := by decide +kernel
theorem dX11_distance_16 : decode cX11_distance 16 = .ok (.isub, 1) := by decide +kernel
theorem dX11_distance_17 : decode cX11_distance 17 = .ok (.istore_n 3, 1) := by decide +kernel
theorem dX11_distance_18 : decode cX11_distance 18 = .ok (.iload_n 2, 1) := by decide +kernel
theorem dX11_distance_19 : decode cX11_distance 19 = .ok (.iload_n 2, 1) := by decide +kernel
theorem dX11_distance_20 : decode cX11_distance 20 = .ok (.imul, 1) := by decide +kernel
theorem dX11_distance_21 : decode cX11_distance 21 = .ok (.iload_n 3, 1) := by decide +kernel
theorem dX11_distance_22 : decode cX11_distance 22 = .ok (.iload_n 3, 1) := by decide +kernel
theorem dX11_distance_23 : decode cX11_distance 23 = .ok (.imul, 1) := by decide +kernel
theorem dX11_distance_24 : decode cX11_distance 24 = .ok (.iadd, 1) := by decide +kernel
theorem dX11_distance_25 : decode cX11_distance 25 = .ok (.ireturn, 1) := by decide +kernel
theorem dX11_fault_0 : decode cX11_fault 0 = .ok (.aload_n 0, 1) := by decide +kernel
theorem dX11_fault_1 : decode cX11_fault 1 = .ok (.getfield 109, 3) := by decide +kernel
theorem dX11_fault_4 : decode cX11_fault 4 = .ok (.ireturn, 1) := by decide +kernel
theorem dX11_faulty_0 : decode cX11_faulty 0 = .ok (.aload_n 0, 1) := by decide +kernel
theorem dX11_faulty_1 : decode cX11_faulty 1 = .ok (.iload_n 1, 1) := by decide +kernel
theorem dX11_faulty_2 : decode cX11_faulty 2 = .ok (.putfield 109, 3) := by decide +kernel
theorem dX11_faulty_5 : decode cX11_faulty 5 = .ok (.bipush (-10), 2) := by decide +kernel
theorem dX11_faulty_7 : decode cX11_faulty 7 = .ok (.iload_n 1, 1) := by decide +kernel
theorem dX11_faulty_8 : decode cX11_faulty 8 = .ok (.isub, 1) := by decide +kernel
theorem dX11_faulty_9 : decode cX11_faulty 9 = .ok (.ireturn, 1) := by decide +kernel
theorem dX11_field_0 : decode cX11_field 0 = .ok (.iload_n 1, 1) := by decide +kernel
theorem dX11_field_1 : decode cX11_field 1 = .ok (.iconst 1, 1) := by decide +kernel
theorem dX11_field_2 : decode cX11_field 2 = .ok (.bipush 8, 2) := by decide +kernel
theorem dX11_field_4 : decode cX11_field 4 = .ok (.invokestatic 113, 3) := by decide +kernel
theorem dX11_field_7 : decode cX11_field 7 = .ok (.ifCond .eq 13, 3) := by decide +kernel
theorem dX11_field_10 : decode cX11_field 10 = .ok (.iload_n 2, 1) := by decide +kernel
theorem dX11_field_11 : decode cX11_field 11 = .ok (.iconst 1, 1) := by decide +kernel
theorem dX11_field_12 : decode cX11_field 12 = .ok (.bipush 8, 2) := by decide +kernel
theorem dX11_field_14 : decode cX11_field 14 = .ok (.invokestatic 113, 3) := by decide +kernel
theorem dX11_field_17 : decode cX11_field 17 = .ok (.ifCond .ne 6, 3) := by decide +kernel
theorem dX11_field_20 : decode cX11_field 20 = .ok (.bipush (-2), 2) := by decide +kernel
theorem dX11_field_22 : decode cX11_field 22 = .ok (.ireturn, 1) := by decide +kernel
theorem dX11_field_23 : decode cX11_field 23 = .ok (.aload_n 0, 1) := by decide +kernel
theorem dX11_field_24 : decode cX11_field 24 = .ok (.getfield 12, 3) := by decide +kernel
theorem dX11_field_27 : decode cX11_field 27 = .ok (.iload_n 1, 1) := by decide +kernel
theorem dX11_field_28 : decode cX11_field 28 = .ok (.iload_n 2, 1) := by decide +kernel
theorem dX11_field_29 : decode cX11_field 29 = .ok (.invokevirtual 117, 3) := by decide +kernel
theorem dX11_field_32 : decode cX11_field 32 = .ok (.aload_n 0, 1) := by decide +kernel
theorem dX11_field_33 : decode cX11_field 33 = .ok (.invokevirtual 121, 3) := by decide +kernel
theorem dX11_field_36 : decode cX11_field 36 = .ok (.iload_n 1, 1) := by decide +kernel
theorem dX11_field_37 : decode cX11_field 37 = .ok (.iload_n 2, 1) := by decide +kernel
theorem dX11_field_38 : decode cX11_field 38 = .ok (.imul, 1) := by decide +kernel
theorem dX11_field_39 : decode cX11_field 39 = .ok (.ireturn, 1) := by decide +kernel
theorem dX11_flip_0 : decode cX11_flip 0 = .ok (.aload_n 0, 1) := by decide +kernel
theorem dX11_flip_1 : decode cX11_flip 1 = .ok (.iload_n 1, 1) := by decide +kernel
theorem dX11_flip_2 : decode cX11_flip 2 = .ok (.iload_n 2, 1) := by decide +kernel
theorem dX11_flip_3 : decode cX11_flip 3 = .ok (.invokevirtual 357, 3) := by decide +kernel
theorem dX11_flip_6 : decode cX11_flip 6 = .ok (.istore 4, 2) := by decide +kernel
theorem dX11_flip_8 : decode cX11_flip 8 = .ok (.iload 4, 2) := by decide +kernel
theorem dX11_flip_10 : decode cX11_flip 10 = .ok (.ifCond .eq 6, 3) := by decide +kernel
theorem dX11_flip_13 : decode cX11_flip 13 = .ok (.iload 4, 2) := by decide +kernel
theorem dX11_flip_15 : decode cX11_flip 15 = .ok (.ireturn, 1) := by decide +kernel
theorem dX11_flip_16 : decode cX11_flip 16 = .ok (.iload_n 3, 1) := by decide +kernel
theorem dX11_flip_17 : decode cX11_flip 17 = .ok (.tableswitch 63 0 3 #[31, 39, 47, 55], 31) := by decide +kernel
theorem dX11_flip_48 : decode cX11_flip 48 = .ok (.aload_n 0, 1) := by decide +kernel
theorem dX11_flip_49 : decode cX11_flip 49 = .ok (.getfield 55, 3) := by decide +kernel
theorem dX11_flip_52 : decode cX11_flip 52 = .ok (.getfield 360, 3) := by decide +kernel
theorem dX11_flip_55 : decode cX11_flip 55 = .ok (.ireturn, 1) := by decide +kernel
theorem dX11_flip_56 : decode cX11_flip 56 = .ok (.aload_n 0, 1) := by decide +kernel
theorem dX11_flip_57 : decode cX11_flip 57 = .ok (.getfield 55, 3) := by decide +kernel
theorem dX11_flip_60 : decode cX11_flip 60 = .ok (.getfield 363, 3) := by decide +kernel
theorem dX11_flip_63 : decode cX11_flip 63 = .ok (.ireturn, 1) := by decide +kernel
theorem dX11_flip_64 : decode cX11_flip 64 = .ok (.aload_n 0, 1) := by decide +kernel
theorem dX11_flip_65 : decode cX11_flip 65 = .ok (.getfield 55, 3) := by decide +kernel
theorem dX11_flip_68 : decode cX11_flip 68 = .ok (.getfield 366, 3) := by decide +kernel
theorem dX11_flip_71 : decode cX11_flip 71 = .ok (.ireturn, 1) := by decide +kernel
theorem dX11_flip_72 : decode cX11_flip 72 = .ok (.aload_n 0, 1) := by decide +kernel
theorem dX11_flip_73 : decode cX11_flip 73 = .ok (.getfield 55, 3) := by decide +kernel
theorem dX11_flip_76 : decode cX11_flip 76 = .ok (.getfield 369, 3) := by decide +kernel
theorem dX11_flip_79 : decode cX11_flip 79 = .ok (.ireturn, 1) := by decide +kernel
theorem dX11_flip_80 : decode cX11_flip 80 = .ok (.bipush (-2), 2) := by decide +kernel
theorem dX11_flip_82 : decode cX11_flip 82 = .ok (.ireturn, 1) := by decide +kernel
theorem dX11_flipped_0 : decode cX11_flipped 0 = .ok (.aload_n 0, 1) := by decide +kernel
theorem dX11_flipped_1 : decode cX11_flipped 1 = .ok (.iload_n 1, 1) := by decide +kernel
theorem dX11_flipped_2 : decode cX11_flipped 2 = .ok (.iload_n 2, 1) := by decide +kernel
theorem dX11_flipped_3 : decode cX11_flipped 3 = .ok (.invokevirtual 357, 3) := by decide +kernel
theorem dX11_flipped_6 : decode cX11_flipped 6 = .ok (.istore_n 3, 1) := by decide +kernel
theorem dX11_flipped_7 : decode cX11_flipped 7 = .ok (.iload_n 3, 1) := by decide +kernel
theorem dX11_flipped_8 : decode cX11_flipped 8 = .ok (.ifCond .eq 7, 3) := by decide +kernel
theorem dX11_flipped_11 : decode cX11_flipped 11 = .ok (.iload_n 3, 1) := by decide +kernel
theorem dX11_flipped_12 : decode cX11_flipped 12 = .ok (.goto 10, 3) := by decide +kernel
theorem dX11_flipped_15 : decode cX11_flipped 15 = .ok (.aload_n 0, 1) := by decide +kernel
theorem dX11_flipped_16 : decode cX11_flipped 16 = .ok (.getfield 55, 3) := by decide +kernel
theorem dX11_flipped_19 : decode cX11_flipped 19 = .ok (.invokevirtual 372, 3) := by decide +kernel
theorem dX11_flipped_22 : decode cX11_flipped 22 = .ok (.ireturn, 1) := by decide +kernel
theorem dX11_flips_0 : decode cX11_flips 0 = .ok (.aload_n 0, 1) := by decide +kernel
theorem dX11_flips_1 : decode cX11_flips 1 = .ok (.iload_n 1, 1) := by decide +kernel
theorem dX11_flips_2 : decode cX11_flips 2 = .ok (.invokevirtual 350, 3) := by decide +kernel
theorem dX11_flips_5 : decode cX11_flips 5 = .ok (.istore_n 2, 1) := by decide +kernel
theorem dX11_flips_6 : decode cX11_flips 6 = .ok (.iload_n 2, 1) := by decide +kernel
theorem dX11_flips_7 : decode cX11_flips 7 = .ok (.ifCond .eq 5, 3) := by decide +kernel
theorem dX11_flips_10 : decode cX11_flips 10 = .ok (.iload_n 2, 1) := by decide +kernel
theorem dX11_flips_11 : decode cX11_flips 11 = .ok (.ireturn, 1) := by decide +kernel
theorem dX11_flips_12 : decode cX11_flips 12 = .ok (.aload_n 0, 1) := by decide +kernel
theorem dX11_flips_13 : decode cX11_flips 13 = .ok (.invokevirtual 281, 3) := by decide +kernel
theorem dX11_flips_16 : decode cX11_flips 16 = .ok (.aload_n 0, 1) := by decide +kernel
theorem dX11_flips_17 : decode cX11_flips 17 = .ok (.getfield 55, 3) := by decide +kernel
theorem dX11_flips_20 : decode cX11_flips 20 = .ok (.aload_n 0, 1) := by decide +kernel
theorem dX11_flips_21 : decode cX11_flips 21 = .ok (.getfield 12, 3) := by decide +kernel
theorem dX11_flips_24 : decode cX11_flips 24 = .ok (.iload_n 1, 1) := by decide +kernel
theorem dX11_flips_25 : decode cX11_flips 25 = .ok (.invokevirtual 288, 3) := by decide +kernel
theorem dX11_flips_28 : decode cX11_flips 28 = .ok (.bipush (-9), 2) := by decide +kernel
theorem dX11_flips_30 : decode cX11_flips 30 = .ok (.invokevirtual 353, 3) := by decide +kernel
theorem dX11_flips_33 : decode cX11_flips 33 = .ok (.pop, 1) := by decide +kernel
theorem dX11_flips_34 : decode cX11_flips 34 = .ok (.aload_n 0, 1) := by decide +kernel
theorem dX11_flips_35 : decode cX11_flips 35 = .ok (.getfield 55, 3) := by decide +kernel
theorem dX11_flips_38 : decode cX11_flips 38 = .ok (.getfield 356, 3) := by decide +kernel
theorem dX11_flips_41 : decode cX11_flips 41 = .ok (.ireturn, 1) := by decide +kernel
theorem dX11_greet_0 : decode cX11_greet 0 = .ok (.aload_n 0, 1) := by decide +kernel
theorem dX11_greet_1 : decode cX11_greet 1 = .ok (.iload_n 1, 1) := by decide +kernel
theorem dX11_greet_2 : decode cX11_greet 2 = .ok (.iload_n 2, 1) := by decide +kernel
theorem dX11_greet_3 : decode cX11_greet 3 = .ok (.invokevirtual 428, 3) := by decide +kernel
theorem dX11_greet_6 : decode cX11_greet 6 = .ok (.istore_n 3, 1) := by decide +kernel
theorem dX11_greet_7 : decode cX11_greet 7 = .ok (.iload_n 3, 1) := by decide +kernel
theorem dX11_greet_8 : decode cX11_greet 8 = .ok (.ifCond .eq 5, 3) := by decide +kernel
theorem dX11_greet_11 : decode cX11_greet 11 = .ok (.iload_n 3, 1) := by decide +kernel
theorem dX11_greet_12 : decode cX11_greet 12 = .ok (.ireturn, 1) := by decide +kernel
theorem dX11_greet_13 : decode cX11_greet 13 = .ok (.iload_n 2, 1) := by decide +kernel
theorem dX11_greet_14 : decode cX11_greet 14 = .ok (.ifCond .ne 19, 3) := by decide +kernel
theorem dX11_greet_17 : decode cX11_greet 17 = .ok (.aload_n 0, 1) := by decide +kernel
theorem dX11_greet_18 : decode cX11_greet 18 = .ok (.getfield 71, 3) := by decide +kernel
theorem dX11_greet_21 : decode cX11_greet 21 = .ok (.aload_n 0, 1) := by decide +kernel
theorem dX11_greet_22 : decode cX11_greet 22 = .ok (.getfield 85, 3) := by decide +kernel
theorem dX11_greet_25 : decode cX11_greet 25 = .ok (.iload_n 1, 1) := by decide +kernel
theorem dX11_greet_26 : decode cX11_greet 26 = .ok (.aaload, 1) := by decide +kernel
theorem dX11_greet_27 : decode cX11_greet 27 = .ok (.invokevirtual 438, 3) := by decide +kernel
theorem dX11_greet_30 : decode cX11_greet 30 = .ok (.goto 16, 3) := by decide +kernel
theorem dX11_greet_33 : decode cX11_greet 33 = .ok (.aload_n 0, 1) := by decide +kernel
theorem dX11_greet_34 : decode cX11_greet 34 = .ok (.getfield 71, 3) := by decide +kernel
theorem dX11_greet_37 : decode cX11_greet 37 = .ok (.aload_n 0, 1) := by decide +kernel
theorem dX11_greet_38 : decode cX11_greet 38 = .ok (.getfield 91, 3) := by decide +kernel
theorem dX11_greet_41 : decode cX11_greet 41 = .ok (.iload_n 1, 1) := by decide +kernel
theorem dX11_greet_42 : decode cX11_greet 42 = .ok (.aaload, 1) := by decide +kernel
theorem dX11_greet_43 : decode cX11_greet 43 = .ok (.invokevirtual 441, 3) := by decide +kernel
theorem dX11_greet_46 : decode cX11_greet 46 = .ok (.ireturn, 1) := by decide +kernel
theorem dX11_group_0 : decode cX11_group 0 = .ok (.aload_n 0, 1) := by decide +kernel
theorem dX11_group_1 : decode cX11_group 1 = .ok (.getfield 12, 3) := by decide +kernel
theorem dX11_group_4 : decode cX11_group 4 = .ok (.iload_n 1, 1) := by decide +kernel
theorem dX11_group_5 : decode cX11_group 5 = .ok (.invokevirtual 182, 3) := by decide +kernel
theorem dX11_group_8 : decode cX11_group 8 = .ok (.ifCond .eq 14, 3) := by decide +kernel
theorem dX11_group_11 : decode cX11_group 11 = .ok (.aload_n 0, 1) := by decide +kernel
theorem dX11_group_12 : decode cX11_group 12 = .ok (.getfield 12, 3) := by decide +kernel
theorem dX11_group_15 : decode cX11_group 15 = .ok (.iload_n 1, 1) := by decide +kernel
theorem dX11_group_16 : decode cX11_group 16 = .ok (.invokevirtual 288, 3) := by decide +kernel
theorem dX11_group_19 : decode cX11_group 19 = .ok (.goto 4, 3) := by decide +kernel
theorem dX11_group_22 : decode cX11_group 22 = .ok (.iconst 0, 1) := by decide +kernel
theorem dX11_group_23 : decode cX11_group 23 = .ok (.ireturn, 1) := by decide +kernel
theorem dX11_has_0 : decode cX11_has 0 = .ok (.lload_n 0, 1) := by decide +kernel
theorem dX11_has_1 : decode cX11_has 1 = .ok (.iload_n 2, 1) := by decide +kernel
theorem dX11_has_2 : decode cX11_has 2 = .ok (.lushr, 1) := by decide +kernel
theorem dX11_has_3 : decode cX11_has 3 = .ok (.lconst 1, 1) := by decide +kernel
theorem dX11_has_4 : decode cX11_has 4 = .ok (.land, 1) := by decide +kernel
theorem dX11_has_5 : decode cX11_has 5 = .ok (.lconst 0, 1) := by decide +kernel
theorem dX11_has_6 : decode cX11_has 6 = .ok (.lcmp, 1) := by decide +kernel
theorem dX11_has_7 : decode cX11_has 7 = .ok (.ifCond .eq 7, 3) := by decide +kernel
theorem dX11_has_10 : decode cX11_has 10 = .ok (.iconst 1, 1) := by decide +kernel
theorem dX11_has_11 : decode cX11_has 11 = .ok (.goto 4, 3) := by decide +kernel
theorem dX11_has_14 : decode cX11_has 14 = .ok (.iconst 0, 1) := by decide +kernel
theorem dX11_has_15 : decode cX11_has 15 = .ok (.ireturn, 1) := by decide +kernel
theorem dX11_hold_0 : decode cX11_hold 0 = .ok (.iload_n 1, 1) := by decide +kernel
theorem dX11_hold_1 : decode cX11_hold 1 = .ok (.iconst 0, 1) := by decide +kernel
theorem dX11_hold_2 : decode cX11_hold 2 = .ok (.bipush 7, 2) := by decide +kernel
theorem dX11_hold_4 : decode cX11_hold 4 = .ok (.invokestatic 113, 3) := by decide +kernel
theorem dX11_hold_7 : decode cX11_hold 7 = .ok (.ifCond .ne 5, 3) := by decide +kernel
theorem dX11_hold_10 : decode cX11_hold 10 = .ok (.iconst (-1), 1) := by decide +kernel
theorem dX11_hold_11 : decode cX11_hold 11 = .ok (.ireturn, 1) := by decide +kernel
theorem dX11_hold_12 : decode cX11_hold 12 = .ok (.iload_n 2, 1) := by decide +kernel
theorem dX11_hold_13 : decode cX11_hold 13 = .ok (.iconst 0, 1) := by decide +kernel
theorem dX11_hold_14 : decode cX11_hold 14 = .ok (.iconst 1, 1) := by decide +kernel
theorem dX11_hold_15 : decode cX11_hold 15 = .ok (.invokestatic 113, 3) := by decide +kernel
theorem dX11_hold_18 : decode cX11_hold 18 = .ok (.ifCond .ne 6, 3) := by decide +kernel
theorem dX11_hold_21 : decode cX11_hold 21 = .ok (.bipush (-2), 2) := by decide +kernel
theorem dX11_hold_23 : decode cX11_hold 23 = .ok (.ireturn, 1) := by decide +kernel
theorem dX11_hold_24 : decode cX11_hold 24 = .ok (.iload_n 2, 1) := by decide +kernel
theorem dX11_hold_25 : decode cX11_hold 25 = .ok (.ifCond .ne 17, 3) := by decide +kernel
theorem dX11_hold_28 : decode cX11_hold 28 = .ok (.aload_n 0, 1) := by decide +kernel
theorem dX11_hold_29 : decode cX11_hold 29 = .ok (.getfield 12, 3) := by decide +kernel
theorem dX11_hold_32 : decode cX11_hold 32 = .ok (.iload_n 3, 1) := by decide +kernel
theorem dX11_hold_33 : decode cX11_hold 33 = .ok (.invokevirtual 182, 3) := by decide +kernel
theorem dX11_hold_36 : decode cX11_hold 36 = .ok (.ifCond .ne 19, 3) := by decide +kernel
theorem dX11_hold_39 : decode cX11_hold 39 = .ok (.goto 14, 3) := by decide +kernel
theorem dX11_hold_42 : decode cX11_hold 42 = .ok (.aload_n 0, 1) := by decide +kernel
theorem dX11_hold_43 : decode cX11_hold 43 = .ok (.getfield 12, 3) := by decide +kernel
theorem dX11_hold_46 : decode cX11_hold 46 = .ok (.iload_n 3, 1) := by decide +kernel
theorem dX11_hold_47 : decode cX11_hold 47 = .ok (.invokevirtual 256, 3) := by decide +kernel
theorem dX11_hold_50 : decode cX11_hold 50 = .ok (.ifCond .ne 5, 3) := by decide +kernel
theorem dX11_hold_53 : decode cX11_hold 53 = .ok (.iconst (-1), 1) := by decide +kernel
theorem dX11_hold_54 : decode cX11_hold 54 = .ok (.ireturn, 1) := by decide +kernel
theorem dX11_hold_55 : decode cX11_hold 55 = .ok (.aload_n 0, 1) := by decide +kernel
theorem dX11_hold_56 : decode cX11_hold 56 = .ok (.getfield 85, 3) := by decide +kernel
theorem dX11_hold_59 : decode cX11_hold 59 = .ok (.iload_n 1, 1) := by decide +kernel
theorem dX11_hold_60 : decode cX11_hold 60 = .ok (.iload_n 2, 1) := by decide +kernel
theorem dX11_hold_61 : decode cX11_hold 61 = .ok (.ifCond .ne 15, 3) := by decide +kernel
theorem dX11_hold_64 : decode cX11_hold 64 = .ok (.aload_n 0, 1) := by decide +kernel
theorem dX11_hold_65 : decode cX11_hold 65 = .ok (.getfield 12, 3) := by decide +kernel
theorem dX11_hold_68 : decode cX11_hold 68 = .ok (.getfield 185, 3) := by decide +kernel
theorem dX11_hold_71 : decode cX11_hold 71 = .ok (.iload_n 3, 1) := by decide +kernel
theorem dX11_hold_72 : decode cX11_hold 72 = .ok (.aaload, 1) := by decide +kernel
theorem dX11_hold_73 : decode cX11_hold 73 = .ok (.goto 4, 3) := by decide +kernel
theorem dX11_hold_76 : decode cX11_hold 76 = .ok (.aconst_null, 1) := by decide +kernel
theorem dX11_hold_77 : decode cX11_hold 77 = .ok (.aastore, 1) := by decide +kernel
theorem dX11_hold_78 : decode cX11_hold 78 = .ok (.aload_n 0, 1) := by decide +kernel
theorem dX11_hold_79 : decode cX11_hold 79 = .ok (.getfield 91, 3) := by decide +kernel
theorem dX11_hold_82 : decode cX11_hold 82 = .ok (.iload_n 1, 1) := by decide +kernel
theorem dX11_hold_83 : decode cX11_hold 83 = .ok (.iload_n 2, 1) := by decide +kernel
theorem dX11_hold_84 : decode cX11_hold 84 = .ok (.iconst 1, 1) := by decide +kernel
theorem dX11_hold_85 : decode cX11_hold 85 = .ok (.if_icmp .ne 15, 3) := by decide +kernel
theorem dX11_hold_88 : decode cX11_hold 88 = .ok (.aload_n 0, 1) := by decide +kernel
theorem dX11_hold_89 : decode cX11_hold 89 = .ok (.getfield 12, 3) := by decide +kernel
theorem dX11_hold_92 : decode cX11_hold 92 = .ok (.getfield 259, 3) := by decide +kernel
theorem dX11_hold_95 : decode cX11_hold 95 = .ok (.iload_n 3, 1) := by decide +kernel
theorem dX11_hold_96 : decode cX11_hold 96 = .ok (.aaload, 1) := by decide +kernel
theorem dX11_hold_97 : decode cX11_hold 97 = .ok (.goto 4, 3) := by decide +kernel
theorem dX11_hold_100 : decode cX11_hold 100 = .ok (.aconst_null, 1) := by decide +kernel
theorem dX11_hold_101 : decode cX11_hold 101 = .ok (.aastore, 1) := by decide +kernel
theorem dX11_hold_102 : decode cX11_hold 102 = .ok (.iconst 1, 1) := by decide +kernel
theorem dX11_hold_103 : decode cX11_hold 103 = .ok (.ireturn, 1) := by decide +kernel
theorem dX11_holdsInUse_0 : decode cX11_holdsInUse 0 = .ok (.iconst 0, 1) := by decide +kernel
theorem dX11_holdsInUse_1 : decode cX11_holdsInUse 1 = .ok (.istore_n 1, 1) := by decide +kernel
theorem dX11_holdsInUse_2 : decode cX11_holdsInUse 2 = .ok (.iconst 0, 1) := by decide +kernel
theorem dX11_holdsInUse_3 : decode cX11_holdsInUse 3 = .ok (.istore_n 2, 1) := by decide +kernel
theorem dX11_holdsInUse_4 : decode cX11_holdsInUse 4 = .ok (.iload_n 2, 1) := by decide +kernel
theorem dX11_holdsInUse_5 : decode cX11_holdsInUse 5 = .ok (.bipush 8, 2) := by decide +kernel
theorem dX11_holdsInUse_7 : decode cX11_holdsInUse 7 = .ok (.if_icmp .ge 25, 3) := by decide +kernel
theorem dX11_holdsInUse_10 : decode cX11_holdsInUse 10 = .ok (.iload_n 1, 1) := by decide +kernel
theorem dX11_holdsInUse_11 : decode cX11_holdsInUse 11 = .ok (.aload_n 0, 1) := by decide +kernel
theorem dX11_holdsInUse_12 : decode cX11_holdsInUse 12 = .ok (.iload_n 2, 1) := by decide +kernel
theorem dX11_holdsInUse_13 : decode cX11_holdsInUse 13 = .ok (.invokevirtual 418, 3) := by decide +kernel
theorem dX11_holdsInUse_16 : decode cX11_holdsInUse 16 = .ok (.ifCond .eq 7, 3) := by decide +kernel
theorem dX11_holdsInUse_19 : decode cX11_holdsInUse 19 = .ok (.iconst 0, 1) := by decide +kernel
theorem dX11_holdsInUse_20 : decode cX11_holdsInUse 20 = .ok (.goto 4, 3) := by decide +kernel
theorem dX11_holdsInUse_23 : decode cX11_holdsInUse 23 = .ok (.iconst 1, 1) := by decide +kernel
theorem dX11_holdsInUse_24 : decode cX11_holdsInUse 24 = .ok (.iadd, 1) := by decide +kernel
theorem dX11_holdsInUse_25 : decode cX11_holdsInUse 25 = .ok (.istore_n 1, 1) := by decide +kernel
theorem dX11_holdsInUse_26 : decode cX11_holdsInUse 26 = .ok (.iinc 2 1, 3) := by decide +kernel
theorem dX11_holdsInUse_29 : decode cX11_holdsInUse 29 = .ok (.goto (-25), 3) := by decide +kernel
theorem dX11_holdsInUse_32 : decode cX11_holdsInUse 32 = .ok (.iload_n 1, 1) := by decide +kernel
theorem dX11_holdsInUse_33 : decode cX11_holdsInUse 33 = .ok (.ireturn, 1) := by decide +kernel
theorem dX11_hops_0 : decode cX11_hops 0 = .ok (.aload_n 0, 1) := by decide +kernel
theorem dX11_hops_1 : decode cX11_hops 1 = .ok (.getfield 12, 3) := by decide +kernel
theorem dX11_hops_4 : decode cX11_hops 4 = .ok (.iload_n 1, 1) := by decide +kernel
theorem dX11_hops_5 : decode cX11_hops 5 = .ok (.invokevirtual 124, 3) := by decide +kernel
theorem dX11_hops_8 : decode cX11_hops 8 = .ok (.ifCond .eq 14, 3) := by decide +kernel
theorem dX11_hops_11 : decode cX11_hops 11 = .ok (.aload_n 0, 1) := by decide +kernel
theorem dX11_hops_12 : decode cX11_hops 12 = .ok (.getfield 12, 3) := by decide +kernel
theorem dX11_hops_15 : decode cX11_hops 15 = .ok (.iload_n 2, 1) := by decide +kernel
theorem dX11_hops_16 : decode cX11_hops 16 = .ok (.invokevirtual 124, 3) := by decide +kernel
theorem dX11_hops_19 : decode cX11_hops 19 = .ok (.ifCond .ne 5, 3) := by decide +kernel
theorem dX11_hops_22 : decode cX11_hops 22 = .ok (.iconst (-1), 1) := by decide +kernel
theorem dX11_hops_23 : decode cX11_hops 23 = .ok (.ireturn, 1) := by decide +kernel
theorem dX11_hops_24 : decode cX11_hops 24 = .ok (.iload_n 3, 1) := by decide +kernel
theorem dX11_hops_25 : decode cX11_hops 25 = .ok (.iconst 0, 1) := by decide +kernel
theorem dX11_hops_26 : decode cX11_hops 26 = .ok (.bipush 98, 2) := by decide +kernel
theorem dX11_hops_28 : decode cX11_hops 28 = .ok (.invokestatic 113, 3) := by decide +kernel
theorem dX11_hops_31 : decode cX11_hops 31 = .ok (.ifCond .ne 6, 3) := by decide +kernel
theorem dX11_hops_34 : decode cX11_hops 34 = .ok (.bipush (-2), 2) := by decide +kernel
theorem dX11_hops_36 : decode cX11_hops 36 = .ok (.ireturn, 1) := by decide +kernel
theorem dX11_hops_37 : decode cX11_hops 37 = .ok (.aload_n 0, 1) := by decide +kernel
theorem dX11_hops_38 : decode cX11_hops 38 = .ok (.getfield 12, 3) := by decide +kernel
theorem dX11_hops_41 : decode cX11_hops 41 = .ok (.getfield 136, 3) := by decide +kernel
theorem dX11_hops_44 : decode cX11_hops 44 = .ok (.iload_n 1, 1) := by decide +kernel
theorem dX11_hops_45 : decode cX11_hops 45 = .ok (.invokestatic 132, 3) := by decide +kernel
theorem dX11_hops_48 : decode cX11_hops 48 = .ok (.ifCond .eq 17, 3) := by decide +kernel
theorem dX11_hops_51 : decode cX11_hops 51 = .ok (.aload_n 0, 1) := by decide +kernel
theorem dX11_hops_52 : decode cX11_hops 52 = .ok (.getfield 12, 3) := by decide +kernel
theorem dX11_hops_55 : decode cX11_hops 55 = .ok (.getfield 136, 3) := by decide +kernel
theorem dX11_hops_58 : decode cX11_hops 58 = .ok (.iload_n 2, 1) := by decide +kernel
theorem dX11_hops_59 : decode cX11_hops 59 = .ok (.invokestatic 132, 3) := by decide +kernel
theorem dX11_hops_62 : decode cX11_hops 62 = .ok (.ifCond .ne 6, 3) := by decide +kernel
theorem dX11_hops_65 : decode cX11_hops 65 = .ok (.bipush (-3), 2) := by decide +kernel
theorem dX11_hops_67 : decode cX11_hops 67 = .ok (.ireturn, 1) := by decide +kernel
theorem dX11_hops_68 : decode cX11_hops 68 = .ok (.aload_n 0, 1) := by decide +kernel
theorem dX11_hops_69 : decode cX11_hops 69 = .ok (.getfield 30, 3) := by decide +kernel
theorem dX11_hops_72 : decode cX11_hops 72 = .ok (.iload_n 1, 1) := by decide +kernel
theorem dX11_hops_73 : decode cX11_hops 73 = .ok (.iload_n 2, 1) := by decide +kernel
theorem dX11_hops_74 : decode cX11_hops 74 = .ok (.iload_n 3, 1) := by decide +kernel
theorem dX11_hops_75 : decode cX11_hops 75 = .ok (.invokevirtual 238, 3) := by decide +kernel
theorem dX11_hops_78 : decode cX11_hops 78 = .ok (.ireturn, 1) := by decide +kernel
theorem dX11_init_0 : decode cX11_init 0 = .ok (.aload_n 0, 1) := by decide +kernel
theorem dX11_init_1 : decode cX11_init 1 = .ok (.invokespecial 3, 3) := by decide +kernel
theorem dX11_init_4 : decode cX11_init 4 = .ok (.aload_n 0, 1) := by decide +kernel
theorem dX11_init_5 : decode cX11_init 5 = .ok (.new 9, 3) := by decide +kernel
theorem dX11_init_8 : decode cX11_init 8 = .ok (.dup, 1) := by decide +kernel
theorem dX11_init_9 : decode cX11_init 9 = .ok (.invokespecial 11, 3) := by decide +kernel
theorem dX11_init_12 : decode cX11_init 12 = .ok (.putfield 12, 3) := by decide +kernel
theorem dX11_init_15 : decode cX11_init 15 = .ok (.aload_n 0, 1) := by decide +kernel
theorem dX11_init_16 : decode cX11_init 16 = .ok (.new 18, 3) := by decide +kernel
theorem dX11_init_19 : decode cX11_init 19 = .ok (.dup, 1) := by decide +kernel
theorem dX11_init_20 : decode cX11_init 20 = .ok (.invokespecial 20, 3) := by decide +kernel
theorem dX11_init_23 : decode cX11_init 23 = .ok (.putfield 21, 3) := by decide +kernel
theorem dX11_init_26 : decode cX11_init 26 = .ok (.aload_n 0, 1) := by decide +kernel
theorem dX11_init_27 : decode cX11_init 27 = .ok (.new 25, 3) := by decide +kernel
theorem dX11_init_30 : decode cX11_init 30 = .ok (.dup, 1) := by decide +kernel
theorem dX11_init_31 : decode cX11_init 31 = .ok (.aload_n 0, 1) := by decide +kernel
theorem dX11_init_32 : decode cX11_init 32 = .ok (.getfield 12, 3) := by decide +kernel
theorem dX11_init_35 : decode cX11_init 35 = .ok (.aload_n 0, 1) := by decide +kernel
theorem dX11_init_36 : decode cX11_init 36 = .ok (.getfield 21, 3) := by decide +kernel
theorem dX11_init_39 : decode cX11_init 39 = .ok (.invokespecial 27, 3) := by decide +kernel
theorem dX11_init_42 : decode cX11_init 42 = .ok (.putfield 30, 3) := by decide +kernel
theorem dX11_init_45 : decode cX11_init 45 = .ok (.aload_n 0, 1) := by decide +kernel
theorem dX11_init_46 : decode cX11_init 46 = .ok (.new 34, 3) := by decide +kernel
theorem dX11_init_49 : decode cX11_init 49 = .ok (.dup, 1) := by decide +kernel
theorem dX11_init_50 : decode cX11_init 50 = .ok (.aload_n 0, 1) := by decide +kernel
theorem dX11_init_51 : decode cX11_init 51 = .ok (.getfield 12, 3) := by decide +kernel
theorem dX11_init_54 : decode cX11_init 54 = .ok (.aload_n 0, 1) := by decide +kernel
theorem dX11_init_55 : decode cX11_init 55 = .ok (.getfield 30, 3) := by decide +kernel
theorem dX11_init_58 : decode cX11_init 58 = .ok (.invokespecial 36, 3) := by decide +kernel
theorem dX11_init_61 : decode cX11_init 61 = .ok (.putfield 39, 3) := by decide +kernel
theorem dX11_init_64 : decode cX11_init 64 = .ok (.aload_n 0, 1) := by decide +kernel
theorem dX11_init_65 : decode cX11_init 65 = .ok (.new 43, 3) := by decide +kernel
theorem dX11_init_68 : decode cX11_init 68 = .ok (.dup, 1) := by decide +kernel
theorem dX11_init_69 : decode cX11_init 69 = .ok (.aload_n 0, 1) := by decide +kernel
theorem dX11_init_70 : decode cX11_init 70 = .ok (.getfield 12, 3) := by decide +kernel
theorem dX11_init_73 : decode cX11_init 73 = .ok (.aload_n 0, 1) := by decide +kernel
theorem dX11_init_74 : decode cX11_init 74 = .ok (.getfield 30, 3) := by decide +kernel
theorem dX11_init_77 : decode cX11_init 77 = .ok (.aload_n 0, 1) := by decide +kernel
theorem dX11_init_78 : decode cX11_init 78 = .ok (.getfield 39, 3) := by decide +kernel
theorem dX11_init_81 : decode cX11_init 81 = .ok (.invokespecial 45, 3) := by decide +kernel
theorem dX11_init_84 : decode cX11_init 84 = .ok (.putfield 48, 3) := by decide +kernel
theorem dX11_init_87 : decode cX11_init 87 = .ok (.aload_n 0, 1) := by decide +kernel
theorem dX11_init_88 : decode cX11_init 88 = .ok (.new 52, 3) := by decide +kernel
theorem dX11_init_91 : decode cX11_init 91 = .ok (.dup, 1) := by decide +kernel
theorem dX11_init_92 : decode cX11_init 92 = .ok (.aload_n 0, 1) := by decide +kernel
theorem dX11_init_93 : decode cX11_init 93 = .ok (.getfield 12, 3) := by decide +kernel
theorem dX11_init_96 : decode cX11_init 96 = .ok (.aload_n 0, 1) := by decide +kernel
theorem dX11_init_97 : decode cX11_init 97 = .ok (.getfield 30, 3) := by decide +kernel
theorem dX11_init_100 : decode cX11_init 100 = .ok (.invokespecial 54, 3) := by decide +kernel
theorem dX11_init_103 : decode cX11_init 103 = .ok (.putfield 55, 3) := by decide +kernel
theorem dX11_init_106 : decode cX11_init 106 = .ok (.aload_n 0, 1) := by decide +kernel
theorem dX11_init_107 : decode cX11_init 107 = .ok (.new 59, 3) := by decide +kernel
theorem dX11_init_110 : decode cX11_init 110 = .ok (.dup, 1) := by decide +kernel
theorem dX11_init_111 : decode cX11_init 111 = .ok (.aload_n 0, 1) := by decide +kernel
theorem dX11_init_112 : decode cX11_init 112 = .ok (.getfield 12, 3) := by decide +kernel
theorem dX11_init_115 : decode cX11_init 115 = .ok (.aload_n 0, 1) := by decide +kernel
theorem dX11_init_116 : decode cX11_init 116 = .ok (.getfield 21, 3) := by decide +kernel
theorem dX11_init_119 : decode cX11_init 119 = .ok (.aload_n 0, 1) := by decide +kernel
theorem dX11_init_120 : decode cX11_init 120 = .ok (.getfield 39, 3) := by decide +kernel
theorem dX11_init_123 : decode cX11_init 123 = .ok (.invokespecial 61, 3) := by decide +kernel
theorem dX11_init_126 : decode cX11_init 126 = .ok (.putfield 64, 3) := by decide +kernel
theorem dX11_init_129 : decode cX11_init 129 = .ok (.aload_n 0, 1) := by decide +kernel
theorem dX11_init_130 : decode cX11_init 130 = .ok (.new 68, 3) := by decide +kernel
theorem dX11_init_133 : decode cX11_init 133 = .ok (.dup, 1) := by decide +kernel
theorem dX11_init_134 : decode cX11_init 134 = .ok (.invokespecial 70, 3) := by decide +kernel
theorem dX11_init_137 : decode cX11_init 137 = .ok (.putfield 71, 3) := by decide +kernel
theorem dX11_init_140 : decode cX11_init 140 = .ok (.aload_n 0, 1) := by decide +kernel
theorem dX11_init_141 : decode cX11_init 141 = .ok (.iconst 2, 1) := by decide +kernel
theorem dX11_init_142 : decode cX11_init 142 = .ok (.anewarray 9, 3) := by decide +kernel
theorem dX11_init_145 : decode cX11_init 145 = .ok (.putfield 75, 3) := by decide +kernel
theorem dX11_init_148 : decode cX11_init 148 = .ok (.aload_n 0, 1) := by decide +kernel
theorem dX11_init_149 : decode cX11_init 149 = .ok (.iconst 2, 1) := by decide +kernel
theorem dX11_init_150 : decode cX11_init 150 = .ok (.newarray .boolean, 2) := by decide +kernel
theorem dX11_init_152 : decode cX11_init 152 = .ok (.putfield 79, 3) := by decide +kernel
theorem dX11_init_155 : decode cX11_init 155 = .ok (.aload_n 0, 1) := by decide +kernel
theorem dX11_init_156 : decode cX11_init 156 = .ok (.bipush 8, 2) := by decide +kernel
theorem dX11_init_158 : decode cX11_init 158 = .ok (.anewarray 83, 3) := by decide +kernel
theorem dX11_init_161 : decode cX11_init 161 = .ok (.putfield 85, 3) := by decide +kernel
theorem dX11_init_164 : decode cX11_init 164 = .ok (.aload_n 0, 1) := by decide +kernel
theorem dX11_init_165 : decode cX11_init 165 = .ok (.bipush 8, 2) := by decide +kernel
theorem dX11_init_167 : decode cX11_init 167 = .ok (.anewarray 89, 3) := by decide +kernel
theorem dX11_init_170 : decode cX11_init 170 = .ok (.putfield 91, 3) := by decide +kernel
theorem dX11_init_173 : decode cX11_init 173 = .ok (.aload_n 0, 1) := by decide +kernel
theorem dX11_init_174 : decode cX11_init 174 = .ok (.iconst 4, 1) := by decide +kernel
theorem dX11_init_175 : decode cX11_init 175 = .ok (.anewarray 95, 3) := by decide +kernel
theorem dX11_init_178 : decode cX11_init 178 = .ok (.putfield 97, 3) := by decide +kernel
theorem dX11_init_181 : decode cX11_init 181 = .ok (.aload_n 0, 1) := by decide +kernel
theorem dX11_init_182 : decode cX11_init 182 = .ok (.iconst 0, 1) := by decide +kernel
theorem dX11_init_183 : decode cX11_init 183 = .ok (.putfield 101, 3) := by decide +kernel
theorem dX11_init_186 : decode cX11_init 186 = .ok (.aload_n 0, 1) := by decide +kernel
theorem dX11_init_187 : decode cX11_init 187 = .ok (.iconst 0, 1) := by decide +kernel
theorem dX11_init_188 : decode cX11_init 188 = .ok (.putfield 105, 3) := by decide +kernel
theorem dX11_init_191 : decode cX11_init 191 = .ok (.aload_n 0, 1) := by decide +kernel
theorem dX11_init_192 : decode cX11_init 192 = .ok (.iconst 0, 1) := by decide +kernel
theorem dX11_init_193 : decode cX11_init 193 = .ok (.putfield 109, 3) := by decide +kernel
theorem dX11_init_196 : decode cX11_init 196 = .ok (.iconst 0, 1) := by decide +kernel
theorem dX11_init_197 : decode cX11_init 197 = .ok (.istore_n 1, 1) := by decide +kernel
theorem dX11_init_198 : decode cX11_init 198 = .ok (.iload_n 1, 1) := by decide +kernel
theorem dX11_init_199 : decode cX11_init 199 = .ok (.iconst 2, 1) := by decide +kernel
theorem dX11_init_200 : decode cX11_init 200 = .ok (.if_icmp .ge 22, 3) := by decide +kernel
theorem dX11_init_203 : decode cX11_init 203 = .ok (.aload_n 0, 1) := by decide +kernel
theorem dX11_init_204 : decode cX11_init 204 = .ok (.getfield 75, 3) := by decide +kernel
theorem dX11_init_207 : decode cX11_init 207 = .ok (.iload_n 1, 1) := by decide +kernel
theorem dX11_init_208 : decode cX11_init 208 = .ok (.new 9, 3) := by decide +kernel
theorem dX11_init_211 : decode cX11_init 211 = .ok (.dup, 1) := by decide +kernel
theorem dX11_init_212 : decode cX11_init 212 = .ok (.invokespecial 11, 3) := by decide +kernel
theorem dX11_init_215 : decode cX11_init 215 = .ok (.aastore, 1) := by decide +kernel
theorem dX11_init_216 : decode cX11_init 216 = .ok (.iinc 1 1, 3) := by decide +kernel
theorem dX11_init_219 : decode cX11_init 219 = .ok (.goto (-21), 3) := by decide +kernel
theorem dX11_init_222 : decode cX11_init 222 = .ok (.iconst 0, 1) := by decide +kernel
theorem dX11_init_223 : decode cX11_init 223 = .ok (.istore_n 1, 1) := by decide +kernel
theorem dX11_init_224 : decode cX11_init 224 = .ok (.iload_n 1, 1) := by decide +kernel
theorem dX11_init_225 : decode cX11_init 225 = .ok (.iconst 4, 1) := by decide +kernel
theorem dX11_init_226 : decode cX11_init 226 = .ok (.if_icmp .ge 22, 3) := by decide +kernel
theorem dX11_init_229 : decode cX11_init 229 = .ok (.aload_n 0, 1) := by decide +kernel
theorem dX11_init_230 : decode cX11_init 230 = .ok (.getfield 97, 3) := by decide +kernel
theorem dX11_init_233 : decode cX11_init 233 = .ok (.iload_n 1, 1) := by decide +kernel
theorem dX11_init_234 : decode cX11_init 234 = .ok (.new 95, 3) := by decide +kernel
theorem dX11_init_237 : decode cX11_init 237 = .ok (.dup, 1) := by decide +kernel
theorem dX11_init_238 : decode cX11_init 238 = .ok (.invokespecial 112, 3) := by decide +kernel
theorem dX11_init_241 : decode cX11_init 241 = .ok (.aastore, 1) := by decide +kernel
theorem dX11_init_242 : decode cX11_init 242 = .ok (.iinc 1 1, 3) := by decide +kernel
theorem dX11_init_245 : decode cX11_init 245 = .ok (.goto (-21), 3) := by decide +kernel
theorem dX11_init_248 : decode cX11_init 248 = .ok (.return_, 1) := by decide +kernel
theorem dX11_isHoldEmpty_0 : decode cX11_isHoldEmpty 0 = .ok (.aload_n 0, 1) := by decide +kernel
theorem dX11_isHoldEmpty_1 : decode cX11_isHoldEmpty 1 = .ok (.getfield 85, 3) := by decide +kernel
theorem dX11_isHoldEmpty_4 : decode cX11_isHoldEmpty 4 = .ok (.iload_n 1, 1) := by decide +kernel
theorem dX11_isHoldEmpty_5 : decode cX11_isHoldEmpty 5 = .ok (.aaload, 1) := by decide +kernel
theorem dX11_isHoldEmpty_6 : decode cX11_isHoldEmpty 6 = .ok (.ifnonnull 16, 3) := by decide +kernel
theorem dX11_isHoldEmpty_9 : decode cX11_isHoldEmpty 9 = .ok (.aload_n 0, 1) := by decide +kernel
theorem dX11_isHoldEmpty_10 : decode cX11_isHoldEmpty 10 = .ok (.getfield 91, 3) := by decide +kernel
theorem dX11_isHoldEmpty_13 : decode cX11_isHoldEmpty 13 = .ok (.iload_n 1, 1) := by decide +kernel
theorem dX11_isHoldEmpty_14 : decode cX11_isHoldEmpty 14 = .ok (.aaload, 1) := by decide +kernel
theorem dX11_isHoldEmpty_15 : decode cX11_isHoldEmpty 15 = .ok (.ifnonnull 7, 3) := by decide +kernel
theorem dX11_isHoldEmpty_18 : decode cX11_isHoldEmpty 18 = .ok (.iconst 1, 1) := by decide +kernel
theorem dX11_isHoldEmpty_19 : decode cX11_isHoldEmpty 19 = .ok (.goto 4, 3) := by decide +kernel
theorem dX11_isHoldEmpty_22 : decode cX11_isHoldEmpty 22 = .ok (.iconst 0, 1) := by decide +kernel
theorem dX11_isHoldEmpty_23 : decode cX11_isHoldEmpty 23 = .ok (.ireturn, 1) := by decide +kernel
theorem dX11_isSpan_0 : decode cX11_isSpan 0 = .ok (.iload_n 0, 1) := by decide +kernel
theorem dX11_isSpan_1 : decode cX11_isSpan 1 = .ok (.iconst 0, 1) := by decide +kernel
theorem dX11_isSpan_2 : decode cX11_isSpan 2 = .ok (.bipush 7, 2) := by decide +kernel
theorem dX11_isSpan_4 : decode cX11_isSpan 4 = .ok (.invokestatic 113, 3) := by decide +kernel
theorem dX11_isSpan_7 : decode cX11_isSpan 7 = .ok (.ifCond .eq 22, 3) := by decide +kernel
theorem dX11_isSpan_10 : decode cX11_isSpan 10 = .ok (.iload_n 1, 1) := by decide +kernel
theorem dX11_isSpan_11 : decode cX11_isSpan 11 = .ok (.iconst 0, 1) := by decide +kernel
theorem dX11_isSpan_12 : decode cX11_isSpan 12 = .ok (.bipush 7, 2) := by decide +kernel
theorem dX11_isSpan_14 : decode cX11_isSpan 14 = .ok (.invokestatic 113, 3) := by decide +kernel
theorem dX11_isSpan_17 : decode cX11_isSpan 17 = .ok (.ifCond .eq 12, 3) := by decide +kernel
theorem dX11_isSpan_20 : decode cX11_isSpan 20 = .ok (.iload_n 0, 1) := by decide +kernel
theorem dX11_isSpan_21 : decode cX11_isSpan 21 = .ok (.iload_n 1, 1) := by decide +kernel
theorem dX11_isSpan_22 : decode cX11_isSpan 22 = .ok (.if_icmp .gt 7, 3) := by decide +kernel
theorem dX11_isSpan_25 : decode cX11_isSpan 25 = .ok (.iconst 1, 1) := by decide +kernel
theorem dX11_isSpan_26 : decode cX11_isSpan 26 = .ok (.goto 4, 3) := by decide +kernel
theorem dX11_isSpan_29 : decode cX11_isSpan 29 = .ok (.iconst 0, 1) := by decide +kernel
theorem dX11_isSpan_30 : decode cX11_isSpan 30 = .ok (.ireturn, 1) := by decide +kernel
theorem dX11_isSpent_0 : decode cX11_isSpent 0 = .ok (.aload_n 0, 1) := by decide +kernel
theorem dX11_isSpent_1 : decode cX11_isSpent 1 = .ok (.invokevirtual 281, 3) := by decide +kernel
theorem dX11_isSpent_4 : decode cX11_isSpent 4 = .ok (.aload_n 0, 1) := by decide +kernel
theorem dX11_isSpent_5 : decode cX11_isSpent 5 = .ok (.getfield 48, 3) := by decide +kernel
theorem dX11_isSpent_8 : decode cX11_isSpent 8 = .ok (.iload_n 1, 1) := by decide +kernel
theorem dX11_isSpent_9 : decode cX11_isSpent 9 = .ok (.invokevirtual 497, 3) := by decide +kernel
theorem dX11_isSpent_12 : decode cX11_isSpent 12 = .ok (.aload_n 0, 1) := by decide +kernel
theorem dX11_isSpent_13 : decode cX11_isSpent 13 = .ok (.getfield 48, 3) := by decide +kernel
theorem dX11_isSpent_16 : decode cX11_isSpent 16 = .ok (.getfield 501, 3) := by decide +kernel
theorem dX11_isSpent_19 : decode cX11_isSpent 19 = .ok (.ireturn, 1) := by decide +kernel
theorem dX11_isTold_0 : decode cX11_isTold 0 = .ok (.iload_n 0, 1) := by decide +kernel
theorem dX11_isTold_1 : decode cX11_isTold 1 = .ok (.tableswitch 107 0 4 #[35, 66, 66, 74, 81], 35) := by decide +kernel
theorem dX11_isTold_36 : decode cX11_isTold 36 = .ok (.iload_n 1, 1) := by decide +kernel
theorem dX11_isTold_37 : decode cX11_isTold 37 = .ok (.iconst 0, 1) := by decide +kernel
theorem dX11_isTold_38 : decode cX11_isTold 38 = .ok (.bipush 98, 2) := by decide +kernel
theorem dX11_isTold_40 : decode cX11_isTold 40 = .ok (.invokestatic 113, 3) := by decide +kernel
theorem dX11_isTold_43 : decode cX11_isTold 43 = .ok (.ifCond .eq 22, 3) := by decide +kernel
theorem dX11_isTold_46 : decode cX11_isTold 46 = .ok (.iload_n 2, 1) := by decide +kernel
theorem dX11_isTold_47 : decode cX11_isTold 47 = .ok (.iconst 0, 1) := by decide +kernel
theorem dX11_isTold_48 : decode cX11_isTold 48 = .ok (.bipush 98, 2) := by decide +kernel
theorem dX11_isTold_50 : decode cX11_isTold 50 = .ok (.invokestatic 113, 3) := by decide +kernel
theorem dX11_isTold_53 : decode cX11_isTold 53 = .ok (.ifCond .eq 12, 3) := by decide +kernel
theorem dX11_isTold_56 : decode cX11_isTold 56 = .ok (.iload_n 1, 1) := by decide +kernel
theorem dX11_isTold_57 : decode cX11_isTold 57 = .ok (.iload_n 2, 1) := by decide +kernel
theorem dX11_isTold_58 : decode cX11_isTold 58 = .ok (.if_icmp .gt 7, 3) := by decide +kernel
theorem dX11_isTold_61 : decode cX11_isTold 61 = .ok (.iconst 1, 1) := by decide +kernel
theorem dX11_isTold_62 : decode cX11_isTold 62 = .ok (.goto 4, 3) := by decide +kernel
theorem dX11_isTold_65 : decode cX11_isTold 65 = .ok (.iconst 0, 1) := by decide +kernel
theorem dX11_isTold_66 : decode cX11_isTold 66 = .ok (.ireturn, 1) := by decide +kernel
theorem dX11_isTold_67 : decode cX11_isTold 67 = .ok (.iload_n 2, 1) := by decide +kernel
theorem dX11_isTold_68 : decode cX11_isTold 68 = .ok (.iconst 0, 1) := by decide +kernel
theorem dX11_isTold_69 : decode cX11_isTold 69 = .ok (.bipush 98, 2) := by decide +kernel
theorem dX11_isTold_71 : decode cX11_isTold 71 = .ok (.invokestatic 113, 3) := by decide +kernel
theorem dX11_isTold_74 : decode cX11_isTold 74 = .ok (.ireturn, 1) := by decide +kernel
theorem dX11_isTold_75 : decode cX11_isTold 75 = .ok (.iload_n 1, 1) := by decide +kernel
theorem dX11_isTold_76 : decode cX11_isTold 76 = .ok (.iconst 0, 1) := by decide +kernel
theorem dX11_isTold_77 : decode cX11_isTold 77 = .ok (.iconst 3, 1) := by decide +kernel
theorem dX11_isTold_78 : decode cX11_isTold 78 = .ok (.invokestatic 113, 3) := by decide +kernel
theorem dX11_isTold_81 : decode cX11_isTold 81 = .ok (.ireturn, 1) := by decide +kernel
theorem dX11_isTold_82 : decode cX11_isTold 82 = .ok (.iload_n 1, 1) := by decide +kernel
theorem dX11_isTold_83 : decode cX11_isTold 83 = .ok (.iconst 0, 1) := by decide +kernel
theorem dX11_isTold_84 : decode cX11_isTold 84 = .ok (.bipush 20, 2) := by decide +kernel
theorem dX11_isTold_86 : decode cX11_isTold 86 = .ok (.invokestatic 113, 3) := by decide +kernel
theorem dX11_isTold_89 : decode cX11_isTold 89 = .ok (.ifCond .eq 17, 3) := by decide +kernel
theorem dX11_isTold_92 : decode cX11_isTold 92 = .ok (.iload_n 2, 1) := by decide +kernel
theorem dX11_isTold_93 : decode cX11_isTold 93 = .ok (.iconst 1, 1) := by decide +kernel
theorem dX11_isTold_94 : decode cX11_isTold 94 = .ok (.bipush 98, 2) := by decide +kernel
theorem dX11_isTold_96 : decode cX11_isTold 96 = .ok (.invokestatic 113, 3) := by decide +kernel
theorem dX11_isTold_99 : decode cX11_isTold 99 = .ok (.ifCond .eq 7, 3) := by decide +kernel
theorem dX11_isTold_102 : decode cX11_isTold 102 = .ok (.iconst 1, 1) := by decide +kernel
theorem dX11_isTold_103 : decode cX11_isTold 103 = .ok (.goto 4, 3) := by decide +kernel
theorem dX11_isTold_106 : decode cX11_isTold 106 = .ok (.iconst 0, 1) := by decide +kernel
theorem dX11_isTold_107 : decode cX11_isTold 107 = .ok (.ireturn, 1) := by decide +kernel
theorem dX11_isTold_108 : decode cX11_isTold 108 = .ok (.iconst 0, 1) := by decide +kernel
theorem dX11_isTold_109 : decode cX11_isTold 109 = .ok (.ireturn, 1) := by decide +kernel
theorem dX11_keep_0 : decode cX11_keep 0 = .ok (.iload_n 1, 1) := by decide +kernel
theorem dX11_keep_1 : decode cX11_keep 1 = .ok (.iconst 0, 1) := by decide +kernel
theorem dX11_keep_2 : decode cX11_keep 2 = .ok (.iconst 1, 1) := by decide +kernel
theorem dX11_keep_3 : decode cX11_keep 3 = .ok (.invokestatic 113, 3) := by decide +kernel
theorem dX11_keep_6 : decode cX11_keep 6 = .ok (.ifCond .ne 5, 3) := by decide +kernel
theorem dX11_keep_9 : decode cX11_keep 9 = .ok (.iconst (-1), 1) := by decide +kernel
theorem dX11_keep_10 : decode cX11_keep 10 = .ok (.ireturn, 1) := by decide +kernel
theorem dX11_keep_11 : decode cX11_keep 11 = .ok (.aload_n 0, 1) := by decide +kernel
theorem dX11_keep_12 : decode cX11_keep 12 = .ok (.getfield 75, 3) := by decide +kernel
theorem dX11_keep_15 : decode cX11_keep 15 = .ok (.iload_n 1, 1) := by decide +kernel
theorem dX11_keep_16 : decode cX11_keep 16 = .ok (.aaload, 1) := by decide +kernel
theorem dX11_keep_17 : decode cX11_keep 17 = .ok (.aload_n 0, 1) := by decide +kernel
theorem dX11_keep_18 : decode cX11_keep 18 = .ok (.getfield 12, 3) := by decide +kernel
theorem dX11_keep_21 : decode cX11_keep 21 = .ok (.invokevirtual 414, 3) := by decide +kernel
theorem dX11_keep_24 : decode cX11_keep 24 = .ok (.aload_n 0, 1) := by decide +kernel
theorem dX11_keep_25 : decode cX11_keep 25 = .ok (.getfield 79, 3) := by decide +kernel
theorem dX11_keep_28 : decode cX11_keep 28 = .ok (.iload_n 1, 1) := by decide +kernel
theorem dX11_keep_29 : decode cX11_keep 29 = .ok (.iconst 1, 1) := by decide +kernel
theorem dX11_keep_30 : decode cX11_keep 30 = .ok (.bastore, 1) := by decide +kernel
theorem dX11_keep_31 : decode cX11_keep 31 = .ok (.iconst 1, 1) := by decide +kernel
theorem dX11_keep_32 : decode cX11_keep 32 = .ok (.ireturn, 1) := by decide +kernel
theorem dX11_keeps_0 : decode cX11_keeps 0 = .ok (.aload_n 0, 1) := by decide +kernel
theorem dX11_keeps_1 : decode cX11_keeps 1 = .ok (.getfield 12, 3) := by decide +kernel
theorem dX11_keeps_4 : decode cX11_keeps 4 = .ok (.iload_n 1, 1) := by decide +kernel
theorem dX11_keeps_5 : decode cX11_keeps 5 = .ok (.invokevirtual 256, 3) := by decide +kernel
theorem dX11_keeps_8 : decode cX11_keeps 8 = .ok (.ifCond .eq 25, 3) := by decide +kernel
theorem dX11_keeps_11 : decode cX11_keeps 11 = .ok (.aload_n 0, 1) := by decide +kernel
theorem dX11_keeps_12 : decode cX11_keeps 12 = .ok (.getfield 12, 3) := by decide +kernel
theorem dX11_keeps_15 : decode cX11_keeps 15 = .ok (.iload_n 2, 1) := by decide +kernel
theorem dX11_keeps_16 : decode cX11_keeps 16 = .ok (.invokevirtual 124, 3) := by decide +kernel
theorem dX11_keeps_19 : decode cX11_keeps 19 = .ok (.ifCond .eq 14, 3) := by decide +kernel
theorem dX11_keeps_22 : decode cX11_keeps 22 = .ok (.aload_n 0, 1) := by decide +kernel
theorem dX11_keeps_23 : decode cX11_keeps 23 = .ok (.getfield 12, 3) := by decide +kernel
theorem dX11_keeps_26 : decode cX11_keeps 26 = .ok (.iload_n 3, 1) := by decide +kernel
theorem dX11_keeps_27 : decode cX11_keeps 27 = .ok (.invokevirtual 124, 3) := by decide +kernel
theorem dX11_keeps_30 : decode cX11_keeps 30 = .ok (.ifCond .ne 5, 3) := by decide +kernel
theorem dX11_keeps_33 : decode cX11_keeps 33 = .ok (.iconst (-1), 1) := by decide +kernel
theorem dX11_keeps_34 : decode cX11_keeps 34 = .ok (.ireturn, 1) := by decide +kernel
theorem dX11_keeps_35 : decode cX11_keeps 35 = .ok (.aload_n 0, 1) := by decide +kernel
theorem dX11_keeps_36 : decode cX11_keeps 36 = .ok (.invokevirtual 281, 3) := by decide +kernel
theorem dX11_keeps_39 : decode cX11_keeps 39 = .ok (.aload_n 0, 1) := by decide +kernel
theorem dX11_keeps_40 : decode cX11_keeps 40 = .ok (.getfield 30, 3) := by decide +kernel
theorem dX11_keeps_43 : decode cX11_keeps 43 = .ok (.aload_n 0, 1) := by decide +kernel
theorem dX11_keeps_44 : decode cX11_keeps 44 = .ok (.getfield 12, 3) := by decide +kernel
theorem dX11_keeps_47 : decode cX11_keeps 47 = .ok (.getfield 259, 3) := by decide +kernel
theorem dX11_keeps_50 : decode cX11_keeps 50 = .ok (.iload_n 1, 1) := by decide +kernel
theorem dX11_keeps_51 : decode cX11_keeps 51 = .ok (.aaload, 1) := by decide +kernel
theorem dX11_keeps_52 : decode cX11_keeps 52 = .ok (.iload_n 2, 1) := by decide +kernel
theorem dX11_keeps_53 : decode cX11_keeps 53 = .ok (.iload_n 3, 1) := by decide +kernel
theorem dX11_keeps_54 : decode cX11_keeps 54 = .ok (.invokevirtual 284, 3) := by decide +kernel
theorem dX11_keeps_57 : decode cX11_keeps 57 = .ok (.ifCond .eq 7, 3) := by decide +kernel
theorem dX11_keeps_60 : decode cX11_keeps 60 = .ok (.iconst 1, 1) := by decide +kernel
theorem dX11_keeps_61 : decode cX11_keeps 61 = .ok (.goto 4, 3) := by decide +kernel
theorem dX11_keeps_64 : decode cX11_keeps 64 = .ok (.iconst 0, 1) := by decide +kernel
theorem dX11_keeps_65 : decode cX11_keeps 65 = .ok (.ireturn, 1) := by decide +kernel
theorem dX11_lay_0 : decode cX11_lay 0 = .ok (.aload_n 0, 1) := by decide +kernel
theorem dX11_lay_1 : decode cX11_lay 1 = .ok (.iconst 0, 1) := by decide +kernel
theorem dX11_lay_2 : decode cX11_lay 2 = .ok (.putfield 109, 3) := by decide +kernel
theorem dX11_lay_5 : decode cX11_lay 5 = .ok (.iload_n 1, 1) := by decide +kernel
theorem dX11_lay_6 : decode cX11_lay 6 = .ok (.iconst 0, 1) := by decide +kernel
theorem dX11_lay_7 : decode cX11_lay 7 = .ok (.iconst 3, 1) := by decide +kernel
theorem dX11_lay_8 : decode cX11_lay 8 = .ok (.invokestatic 113, 3) := by decide +kernel
theorem dX11_lay_11 : decode cX11_lay 11 = .ok (.ifCond .ne 5, 3) := by decide +kernel
theorem dX11_lay_14 : decode cX11_lay 14 = .ok (.iconst (-1), 1) := by decide +kernel
theorem dX11_lay_15 : decode cX11_lay 15 = .ok (.ireturn, 1) := by decide +kernel
theorem dX11_lay_16 : decode cX11_lay 16 = .ok (.aload_n 0, 1) := by decide +kernel
theorem dX11_lay_17 : decode cX11_lay 17 = .ok (.getfield 97, 3) := by decide +kernel
theorem dX11_lay_20 : decode cX11_lay 20 = .ok (.iload_n 1, 1) := by decide +kernel
theorem dX11_lay_21 : decode cX11_lay 21 = .ok (.aaload, 1) := by decide +kernel
theorem dX11_lay_22 : decode cX11_lay 22 = .ok (.invokevirtual 447, 3) := by decide +kernel
theorem dX11_lay_25 : decode cX11_lay 25 = .ok (.ifCond .eq 9, 3) := by decide +kernel
theorem dX11_lay_28 : decode cX11_lay 28 = .ok (.aload_n 0, 1) := by decide +kernel
theorem dX11_lay_29 : decode cX11_lay 29 = .ok (.iconst 1, 1) := by decide +kernel
theorem dX11_lay_30 : decode cX11_lay 30 = .ok (.invokevirtual 158, 3) := by decide +kernel
theorem dX11_lay_33 : decode cX11_lay 33 = .ok (.ireturn, 1) := by decide +kernel
theorem dX11_lay_34 : decode cX11_lay 34 = .ok (.aload_n 0, 1) := by decide +kernel
theorem dX11_lay_35 : decode cX11_lay 35 = .ok (.getfield 97, 3) := by decide +kernel
theorem dX11_lay_38 : decode cX11_lay 38 = .ok (.iload_n 1, 1) := by decide +kernel
theorem dX11_lay_39 : decode cX11_lay 39 = .ok (.aaload, 1) := by decide +kernel
theorem dX11_lay_40 : decode cX11_lay 40 = .ok (.iload_n 2, 1) := by decide +kernel
theorem dX11_lay_41 : decode cX11_lay 41 = .ok (.iconst 1, 1) := by decide +kernel
theorem dX11_lay_42 : decode cX11_lay 42 = .ok (.invokevirtual 154, 3) := by decide +kernel
theorem dX11_lay_45 : decode cX11_lay 45 = .ok (.ifCond .ne 9, 3) := by decide +kernel
theorem dX11_lay_48 : decode cX11_lay 48 = .ok (.aload_n 0, 1) := by decide +kernel
theorem dX11_lay_49 : decode cX11_lay 49 = .ok (.iconst 3, 1) := by decide +kernel
theorem dX11_lay_50 : decode cX11_lay 50 = .ok (.invokevirtual 158, 3) := by decide +kernel
theorem dX11_lay_53 : decode cX11_lay 53 = .ok (.ireturn, 1) := by decide +kernel
theorem dX11_lay_54 : decode cX11_lay 54 = .ok (.aload_n 0, 1) := by decide +kernel
theorem dX11_lay_55 : decode cX11_lay 55 = .ok (.getfield 97, 3) := by decide +kernel
theorem dX11_lay_58 : decode cX11_lay 58 = .ok (.iload_n 1, 1) := by decide +kernel
theorem dX11_lay_59 : decode cX11_lay 59 = .ok (.aaload, 1) := by decide +kernel
theorem dX11_lay_60 : decode cX11_lay 60 = .ok (.iload_n 2, 1) := by decide +kernel
theorem dX11_lay_61 : decode cX11_lay 61 = .ok (.lload_n 3, 1) := by decide +kernel
theorem dX11_lay_62 : decode cX11_lay 62 = .ok (.invokevirtual 453, 3) := by decide +kernel
theorem dX11_lay_65 : decode cX11_lay 65 = .ok (.iconst 1, 1) := by decide +kernel
theorem dX11_lay_66 : decode cX11_lay 66 = .ok (.ireturn, 1) := by decide +kernel
theorem dX11_liars_0 : decode cX11_liars 0 = .ok (.iload_n 1, 1) := by decide +kernel
theorem dX11_liars_1 : decode cX11_liars 1 = .ok (.iconst 0, 1) := by decide +kernel
theorem dX11_liars_2 : decode cX11_liars 2 = .ok (.iconst 1, 1) := by decide +kernel
theorem dX11_liars_3 : decode cX11_liars 3 = .ok (.invokestatic 113, 3) := by decide +kernel
theorem dX11_liars_6 : decode cX11_liars 6 = .ok (.ifCond .ne 6, 3) := by decide +kernel
theorem dX11_liars_9 : decode cX11_liars 9 = .ok (.bipush (-2), 2) := by decide +kernel
theorem dX11_liars_11 : decode cX11_liars 11 = .ok (.ireturn, 1) := by decide +kernel
theorem dX11_liars_12 : decode cX11_liars 12 = .ok (.aload_n 0, 1) := by decide +kernel
theorem dX11_liars_13 : decode cX11_liars 13 = .ok (.invokevirtual 206, 3) := by decide +kernel
theorem dX11_liars_16 : decode cX11_liars 16 = .ok (.invokevirtual 402, 3) := by decide +kernel
theorem dX11_liars_19 : decode cX11_liars 19 = .ok (.aload_n 0, 1) := by decide +kernel
theorem dX11_liars_20 : decode cX11_liars 20 = .ok (.getfield 39, 3) := by decide +kernel
theorem dX11_liars_23 : decode cX11_liars 23 = .ok (.getfield 405, 3) := by decide +kernel
theorem dX11_liars_26 : decode cX11_liars 26 = .ok (.bipush (-9), 2) := by decide +kernel
theorem dX11_liars_28 : decode cX11_liars 28 = .ok (.if_icmp .ne 6, 3) := by decide +kernel
theorem dX11_liars_31 : decode cX11_liars 31 = .ok (.bipush (-9), 2) := by decide +kernel
theorem dX11_liars_33 : decode cX11_liars 33 = .ok (.ireturn, 1) := by decide +kernel
theorem dX11_liars_34 : decode cX11_liars 34 = .ok (.iload_n 1, 1) := by decide +kernel
theorem dX11_liars_35 : decode cX11_liars 35 = .ok (.ifCond .ne 13, 3) := by decide +kernel
theorem dX11_liars_38 : decode cX11_liars 38 = .ok (.aload_n 0, 1) := by decide +kernel
theorem dX11_liars_39 : decode cX11_liars 39 = .ok (.getfield 39, 3) := by decide +kernel
theorem dX11_liars_42 : decode cX11_liars 42 = .ok (.getfield 405, 3) := by decide +kernel
theorem dX11_liars_45 : decode cX11_liars 45 = .ok (.goto 10, 3) := by decide +kernel
theorem dX11_liars_48 : decode cX11_liars 48 = .ok (.aload_n 0, 1) := by decide +kernel
theorem dX11_liars_49 : decode cX11_liars 49 = .ok (.getfield 39, 3) := by decide +kernel
theorem dX11_liars_52 : decode cX11_liars 52 = .ok (.getfield 408, 3) := by decide +kernel
theorem dX11_liars_55 : decode cX11_liars 55 = .ok (.ireturn, 1) := by decide +kernel
theorem dX11_lies_0 : decode cX11_lies 0 = .ok (.aload_n 0, 1) := by decide +kernel
theorem dX11_lies_1 : decode cX11_lies 1 = .ok (.getfield 12, 3) := by decide +kernel
theorem dX11_lies_4 : decode cX11_lies 4 = .ok (.iload_n 1, 1) := by decide +kernel
theorem dX11_lies_5 : decode cX11_lies 5 = .ok (.invokevirtual 182, 3) := by decide +kernel
theorem dX11_lies_8 : decode cX11_lies 8 = .ok (.ifCond .ne 5, 3) := by decide +kernel
theorem dX11_lies_11 : decode cX11_lies 11 = .ok (.iconst (-1), 1) := by decide +kernel
theorem dX11_lies_12 : decode cX11_lies 12 = .ok (.ireturn, 1) := by decide +kernel
theorem dX11_lies_13 : decode cX11_lies 13 = .ok (.aload_n 0, 1) := by decide +kernel
theorem dX11_lies_14 : decode cX11_lies 14 = .ok (.invokevirtual 206, 3) := by decide +kernel
theorem dX11_lies_17 : decode cX11_lies 17 = .ok (.invokevirtual 402, 3) := by decide +kernel
theorem dX11_lies_20 : decode cX11_lies 20 = .ok (.aload_n 0, 1) := by decide +kernel
theorem dX11_lies_21 : decode cX11_lies 21 = .ok (.getfield 39, 3) := by decide +kernel
theorem dX11_lies_24 : decode cX11_lies 24 = .ok (.getfield 405, 3) := by decide +kernel
theorem dX11_lies_27 : decode cX11_lies 27 = .ok (.bipush (-9), 2) := by decide +kernel
theorem dX11_lies_29 : decode cX11_lies 29 = .ok (.if_icmp .ne 6, 3) := by decide +kernel
theorem dX11_lies_32 : decode cX11_lies 32 = .ok (.bipush (-9), 2) := by decide +kernel
theorem dX11_lies_34 : decode cX11_lies 34 = .ok (.ireturn, 1) := by decide +kernel
theorem dX11_lies_35 : decode cX11_lies 35 = .ok (.aload_n 0, 1) := by decide +kernel
theorem dX11_lies_36 : decode cX11_lies 36 = .ok (.getfield 39, 3) := by decide +kernel
theorem dX11_lies_39 : decode cX11_lies 39 = .ok (.getfield 411, 3) := by decide +kernel
theorem dX11_lies_42 : decode cX11_lies 42 = .ok (.iload_n 1, 1) := by decide +kernel
theorem dX11_lies_43 : decode cX11_lies 43 = .ok (.iaload, 1) := by decide +kernel
theorem dX11_lies_44 : decode cX11_lies 44 = .ok (.istore_n 2, 1) := by decide +kernel
theorem dX11_lies_45 : decode cX11_lies 45 = .ok (.iload_n 2, 1) := by decide +kernel
theorem dX11_lies_46 : decode cX11_lies 46 = .ok (.aload_n 0, 1) := by decide +kernel
theorem dX11_lies_47 : decode cX11_lies 47 = .ok (.getfield 39, 3) := by decide +kernel
theorem dX11_lies_50 : decode cX11_lies 50 = .ok (.getfield 408, 3) := by decide +kernel
theorem dX11_lies_53 : decode cX11_lies 53 = .ok (.if_icmp .ne 7, 3) := by decide +kernel
theorem dX11_lies_56 : decode cX11_lies 56 = .ok (.iconst 2, 1) := by decide +kernel
theorem dX11_lies_57 : decode cX11_lies 57 = .ok (.goto 12, 3) := by decide +kernel
theorem dX11_lies_60 : decode cX11_lies 60 = .ok (.iload_n 2, 1) := by decide +kernel
theorem dX11_lies_61 : decode cX11_lies 61 = .ok (.ifCond .le 7, 3) := by decide +kernel
theorem dX11_lies_64 : decode cX11_lies 64 = .ok (.iconst 1, 1) := by decide +kernel
theorem dX11_lies_65 : decode cX11_lies 65 = .ok (.goto 4, 3) := by decide +kernel
theorem dX11_lies_68 : decode cX11_lies 68 = .ok (.iconst 0, 1) := by decide +kernel
theorem dX11_lies_69 : decode cX11_lies 69 = .ok (.ireturn, 1) := by decide +kernel
theorem dX11_loose_0 : decode cX11_loose 0 = .ok (.iload_n 1, 1) := by decide +kernel
theorem dX11_loose_1 : decode cX11_loose 1 = .ok (.iconst 0, 1) := by decide +kernel
theorem dX11_loose_2 : decode cX11_loose 2 = .ok (.bipush 7, 2) := by decide +kernel
theorem dX11_loose_4 : decode cX11_loose 4 = .ok (.invokestatic 113, 3) := by decide +kernel
theorem dX11_loose_7 : decode cX11_loose 7 = .ok (.ifCond .ne 5, 3) := by decide +kernel
theorem dX11_loose_10 : decode cX11_loose 10 = .ok (.iconst (-1), 1) := by decide +kernel
theorem dX11_loose_11 : decode cX11_loose 11 = .ok (.ireturn, 1) := by decide +kernel
theorem dX11_loose_12 : decode cX11_loose 12 = .ok (.aload_n 0, 1) := by decide +kernel
theorem dX11_loose_13 : decode cX11_loose 13 = .ok (.iload_n 1, 1) := by decide +kernel
theorem dX11_loose_14 : decode cX11_loose 14 = .ok (.invokevirtual 418, 3) := by decide +kernel
theorem dX11_loose_17 : decode cX11_loose 17 = .ok (.ifCond .eq 5, 3) := by decide +kernel
theorem dX11_loose_20 : decode cX11_loose 20 = .ok (.iconst 0, 1) := by decide +kernel
theorem dX11_loose_21 : decode cX11_loose 21 = .ok (.ireturn, 1) := by decide +kernel
theorem dX11_loose_22 : decode cX11_loose 22 = .ok (.aload_n 0, 1) := by decide +kernel
theorem dX11_loose_23 : decode cX11_loose 23 = .ok (.getfield 85, 3) := by decide +kernel
theorem dX11_loose_26 : decode cX11_loose 26 = .ok (.iload_n 1, 1) := by decide +kernel
theorem dX11_loose_27 : decode cX11_loose 27 = .ok (.aconst_null, 1) := by decide +kernel
theorem dX11_loose_28 : decode cX11_loose 28 = .ok (.aastore, 1) := by decide +kernel
theorem dX11_loose_29 : decode cX11_loose 29 = .ok (.aload_n 0, 1) := by decide +kernel
theorem dX11_loose_30 : decode cX11_loose 30 = .ok (.getfield 91, 3) := by decide +kernel
theorem dX11_loose_33 : decode cX11_loose 33 = .ok (.iload_n 1, 1) := by decide +kernel
theorem dX11_loose_34 : decode cX11_loose 34 = .ok (.aconst_null, 1) := by decide +kernel
theorem dX11_loose_35 : decode cX11_loose 35 = .ok (.aastore, 1) := by decide +kernel
theorem dX11_loose_36 : decode cX11_loose 36 = .ok (.iconst 1, 1) := by decide +kernel
theorem dX11_loose_37 : decode cX11_loose 37 = .ok (.ireturn, 1) := by decide +kernel
theorem dX11_lose_0 : decode cX11_lose 0 = .ok (.iload_n 1, 1) := by decide +kernel
theorem dX11_lose_1 : decode cX11_lose 1 = .ok (.iconst 0, 1) := by decide +kernel
theorem dX11_lose_2 : decode cX11_lose 2 = .ok (.iconst 3, 1) := by decide +kernel
theorem dX11_lose_3 : decode cX11_lose 3 = .ok (.invokestatic 113, 3) := by decide +kernel
theorem dX11_lose_6 : decode cX11_lose 6 = .ok (.ifCond .ne 5, 3) := by decide +kernel
theorem dX11_lose_9 : decode cX11_lose 9 = .ok (.iconst (-1), 1) := by decide +kernel
theorem dX11_lose_10 : decode cX11_lose 10 = .ok (.ireturn, 1) := by decide +kernel
theorem dX11_lose_11 : decode cX11_lose 11 = .ok (.aload_n 0, 1) := by decide +kernel
theorem dX11_lose_12 : decode cX11_lose 12 = .ok (.getfield 97, 3) := by decide +kernel
theorem dX11_lose_15 : decode cX11_lose 15 = .ok (.iload_n 1, 1) := by decide +kernel
theorem dX11_lose_16 : decode cX11_lose 16 = .ok (.aaload, 1) := by decide +kernel
theorem dX11_lose_17 : decode cX11_lose 17 = .ok (.invokevirtual 447, 3) := by decide +kernel
theorem dX11_lose_20 : decode cX11_lose 20 = .ok (.ifCond .eq 5, 3) := by decide +kernel
theorem dX11_lose_23 : decode cX11_lose 23 = .ok (.iconst 0, 1) := by decide +kernel
theorem dX11_lose_24 : decode cX11_lose 24 = .ok (.ireturn, 1) := by decide +kernel
theorem dX11_lose_25 : decode cX11_lose 25 = .ok (.aload_n 0, 1) := by decide +kernel
theorem dX11_lose_26 : decode cX11_lose 26 = .ok (.getfield 97, 3) := by decide +kernel
theorem dX11_lose_29 : decode cX11_lose 29 = .ok (.iload_n 1, 1) := by decide +kernel
theorem dX11_lose_30 : decode cX11_lose 30 = .ok (.aaload, 1) := by decide +kernel
theorem dX11_lose_31 : decode cX11_lose 31 = .ok (.invokevirtual 450, 3) := by decide +kernel
theorem dX11_lose_34 : decode cX11_lose 34 = .ok (.iconst 1, 1) := by decide +kernel
theorem dX11_lose_35 : decode cX11_lose 35 = .ok (.ireturn, 1) := by decide +kernel
theorem dX11_lowest_0 : decode cX11_lowest 0 = .ok (.lload_n 0, 1) := by decide +kernel
theorem dX11_lowest_1 : decode cX11_lowest 1 = .ok (.lload_n 0, 1) := by decide +kernel
theorem dX11_lowest_2 : decode cX11_lowest 2 = .ok (.lneg, 1) := by decide +kernel
theorem dX11_lowest_3 : decode cX11_lowest 3 = .ok (.land, 1) := by decide +kernel
theorem dX11_lowest_4 : decode cX11_lowest 4 = .ok (.lconst 1, 1) := by decide +kernel
theorem dX11_lowest_5 : decode cX11_lowest 5 = .ok (.lsub, 1) := by decide +kernel
theorem dX11_lowest_6 : decode cX11_lowest 6 = .ok (.invokestatic 168, 3) := by decide +kernel
theorem dX11_lowest_9 : decode cX11_lowest 9 = .ok (.ireturn, 1) := by decide +kernel
theorem dX11_makeReady_0 : decode cX11_makeReady 0 = .ok (.aload_n 0, 1) := by decide +kernel
theorem dX11_makeReady_1 : decode cX11_makeReady 1 = .ok (.getfield 101, 3) := by decide +kernel
theorem dX11_makeReady_4 : decode cX11_makeReady 4 = .ok (.ifCond .ne 22, 3) := by decide +kernel
theorem dX11_makeReady_7 : decode cX11_makeReady 7 = .ok (.aload_n 0, 1) := by decide +kernel
theorem dX11_makeReady_8 : decode cX11_makeReady 8 = .ok (.getfield 30, 3) := by decide +kernel
theorem dX11_makeReady_11 : decode cX11_makeReady 11 = .ok (.invokevirtual 491, 3) := by decide +kernel
theorem dX11_makeReady_14 : decode cX11_makeReady 14 = .ok (.aload_n 0, 1) := by decide +kernel
theorem dX11_makeReady_15 : decode cX11_makeReady 15 = .ok (.getfield 39, 3) := by decide +kernel
theorem dX11_makeReady_18 : decode cX11_makeReady 18 = .ok (.invokevirtual 494, 3) := by decide +kernel
theorem dX11_makeReady_21 : decode cX11_makeReady 21 = .ok (.aload_n 0, 1) := by decide +kernel
theorem dX11_makeReady_22 : decode cX11_makeReady 22 = .ok (.iconst 1, 1) := by decide +kernel
theorem dX11_makeReady_23 : decode cX11_makeReady 23 = .ok (.putfield 101, 3) := by decide +kernel
theorem dX11_makeReady_26 : decode cX11_makeReady 26 = .ok (.return_, 1) := by decide +kernel
theorem dX11_many_0 : decode cX11_many 0 = .ok (.iload_n 1, 1) := by decide +kernel
theorem dX11_many_1 : decode cX11_many 1 = .ok (.tableswitch 149 0 9 #[55, 66, 74, 82, 93, 101, 109, 117, 128, 133], 55) := by decide +kernel
theorem dX11_many_56 : decode cX11_many 56 = .ok (.aload_n 0, 1) := by decide +kernel
theorem dX11_many_57 : decode cX11_many 57 = .ok (.getfield 12, 3) := by decide +kernel
theorem dX11_many_60 : decode cX11_many 60 = .ok (.getfield 136, 3) := by decide +kernel
theorem dX11_many_63 : decode cX11_many 63 = .ok (.invokestatic 168, 3) := by decide +kernel
theorem dX11_many_66 : decode cX11_many 66 = .ok (.ireturn, 1) := by decide +kernel
theorem dX11_many_67 : decode cX11_many 67 = .ok (.aload_n 0, 1) := by decide +kernel
theorem dX11_many_68 : decode cX11_many 68 = .ok (.getfield 12, 3) := by decide +kernel
theorem dX11_many_71 : decode cX11_many 71 = .ok (.getfield 172, 3) := by decide +kernel
theorem dX11_many_74 : decode cX11_many 74 = .ok (.ireturn, 1) := by decide +kernel
theorem dX11_many_75 : decode cX11_many 75 = .ok (.aload_n 0, 1) := by decide +kernel
theorem dX11_many_76 : decode cX11_many 76 = .ok (.getfield 12, 3) := by decide +kernel
theorem dX11_many_79 : decode cX11_many 79 = .ok (.getfield 245, 3) := by decide +kernel
theorem dX11_many_82 : decode cX11_many 82 = .ok (.ireturn, 1) := by decide +kernel
theorem dX11_many_83 : decode cX11_many 83 = .ok (.aload_n 0, 1) := by decide +kernel
theorem dX11_many_84 : decode cX11_many 84 = .ok (.getfield 12, 3) := by decide +kernel
theorem dX11_many_87 : decode cX11_many 87 = .ok (.getfield 222, 3) := by decide +kernel
theorem dX11_many_90 : decode cX11_many 90 = .ok (.invokestatic 168, 3) := by decide +kernel
theorem dX11_many_93 : decode cX11_many 93 = .ok (.ireturn, 1) := by decide +kernel
theorem dX11_many_94 : decode cX11_many 94 = .ok (.aload_n 0, 1) := by decide +kernel
theorem dX11_many_95 : decode cX11_many 95 = .ok (.getfield 12, 3) := by decide +kernel
theorem dX11_many_98 : decode cX11_many 98 = .ok (.getfield 375, 3) := by decide +kernel
theorem dX11_many_101 : decode cX11_many 101 = .ok (.ireturn, 1) := by decide +kernel
theorem dX11_many_102 : decode cX11_many 102 = .ok (.aload_n 0, 1) := by decide +kernel
theorem dX11_many_103 : decode cX11_many 103 = .ok (.invokevirtual 206, 3) := by decide +kernel
theorem dX11_many_106 : decode cX11_many 106 = .ok (.invokevirtual 472, 3) := by decide +kernel
theorem dX11_many_109 : decode cX11_many 109 = .ok (.ireturn, 1) := by decide +kernel
theorem dX11_many_110 : decode cX11_many 110 = .ok (.aload_n 0, 1) := by decide +kernel
theorem dX11_many_111 : decode cX11_many 111 = .ok (.invokevirtual 206, 3) := by decide +kernel
theorem dX11_many_114 : decode cX11_many 114 = .ok (.invokevirtual 475, 3) := by decide +kernel
theorem dX11_many_117 : decode cX11_many 117 = .ok (.ireturn, 1) := by decide +kernel
theorem dX11_many_118 : decode cX11_many 118 = .ok (.aload_n 0, 1) := by decide +kernel
theorem dX11_many_119 : decode cX11_many 119 = .ok (.getfield 12, 3) := by decide +kernel
theorem dX11_many_122 : decode cX11_many 122 = .ok (.invokevirtual 478, 3) := by decide +kernel
theorem dX11_many_125 : decode cX11_many 125 = .ok (.invokestatic 481, 3) := by decide +kernel
theorem dX11_many_128 : decode cX11_many 128 = .ok (.ireturn, 1) := by decide +kernel
theorem dX11_many_129 : decode cX11_many 129 = .ok (.aload_n 0, 1) := by decide +kernel
theorem dX11_many_130 : decode cX11_many 130 = .ok (.invokevirtual 485, 3) := by decide +kernel
theorem dX11_many_133 : decode cX11_many 133 = .ok (.ireturn, 1) := by decide +kernel
theorem dX11_many_134 : decode cX11_many 134 = .ok (.aload_n 0, 1) := by decide +kernel
theorem dX11_many_135 : decode cX11_many 135 = .ok (.getfield 12, 3) := by decide +kernel
theorem dX11_many_138 : decode cX11_many 138 = .ok (.getfield 291, 3) := by decide +kernel
theorem dX11_many_141 : decode cX11_many 141 = .ok (.ifCond .eq 7, 3) := by decide +kernel
theorem dX11_many_144 : decode cX11_many 144 = .ok (.iconst 1, 1) := by decide +kernel
theorem dX11_many_145 : decode cX11_many 145 = .ok (.goto 4, 3) := by decide +kernel
theorem dX11_many_148 : decode cX11_many 148 = .ok (.iconst 0, 1) := by decide +kernel
theorem dX11_many_149 : decode cX11_many 149 = .ok (.ireturn, 1) := by decide +kernel
theorem dX11_many_150 : decode cX11_many 150 = .ok (.bipush (-2), 2) := by decide +kernel
theorem dX11_many_152 : decode cX11_many 152 = .ok (.ireturn, 1) := by decide +kernel
theorem dX11_measure_0 : decode cX11_measure 0 = .ok (.aload_n 0, 1) := by decide +kernel
theorem dX11_measure_1 : decode cX11_measure 1 = .ok (.getfield 12, 3) := by decide +kernel
theorem dX11_measure_4 : decode cX11_measure 4 = .ok (.iload_n 2, 1) := by decide +kernel
theorem dX11_measure_5 : decode cX11_measure 5 = .ok (.invokevirtual 182, 3) := by decide +kernel
theorem dX11_measure_8 : decode cX11_measure 8 = .ok (.ifCond .eq 14, 3) := by decide +kernel
theorem dX11_measure_11 : decode cX11_measure 11 = .ok (.aload_n 0, 1) := by decide +kernel
theorem dX11_measure_12 : decode cX11_measure 12 = .ok (.getfield 12, 3) := by decide +kernel
theorem dX11_measure_15 : decode cX11_measure 15 = .ok (.iload_n 3, 1) := by decide +kernel
theorem dX11_measure_16 : decode cX11_measure 16 = .ok (.invokevirtual 182, 3) := by decide +kernel
theorem dX11_measure_19 : decode cX11_measure 19 = .ok (.ifCond .ne 5, 3) := by decide +kernel
theorem dX11_measure_22 : decode cX11_measure 22 = .ok (.iconst (-1), 1) := by decide +kernel
theorem dX11_measure_23 : decode cX11_measure 23 = .ok (.ireturn, 1) := by decide +kernel
theorem dX11_measure_24 : decode cX11_measure 24 = .ok (.iload_n 2, 1) := by decide +kernel
theorem dX11_measure_25 : decode cX11_measure 25 = .ok (.iload_n 3, 1) := by decide +kernel
theorem dX11_measure_26 : decode cX11_measure 26 = .ok (.if_icmp .eq 14, 3) := by decide +kernel
theorem dX11_measure_29 : decode cX11_measure 29 = .ok (.iload_n 1, 1) := by decide +kernel
theorem dX11_measure_30 : decode cX11_measure 30 = .ok (.iload 4, 2) := by decide +kernel
theorem dX11_measure_32 : decode cX11_measure 32 = .ok (.iload 5, 2) := by decide +kernel
theorem dX11_measure_34 : decode cX11_measure 34 = .ok (.invokestatic 242, 3) := by decide +kernel
theorem dX11_measure_37 : decode cX11_measure 37 = .ok (.ifCond .ne 6, 3) := by decide +kernel
theorem dX11_measure_40 : decode cX11_measure 40 = .ok (.bipush (-2), 2) := by decide +kernel
theorem dX11_measure_42 : decode cX11_measure 42 = .ok (.ireturn, 1) := by decide +kernel
theorem dX11_measure_43 : decode cX11_measure 43 = .ok (.aload_n 0, 1) := by decide +kernel
theorem dX11_measure_44 : decode cX11_measure 44 = .ok (.getfield 12, 3) := by decide +kernel
theorem dX11_measure_47 : decode cX11_measure 47 = .ok (.getfield 245, 3) := by decide +kernel
theorem dX11_measure_50 : decode cX11_measure 50 = .ok (.bipush 60, 2) := by decide +kernel
theorem dX11_measure_52 : decode cX11_measure 52 = .ok (.if_icmp .lt 6, 3) := by decide +kernel
theorem dX11_measure_55 : decode cX11_measure 55 = .ok (.bipush (-4), 2) := by decide +kernel
theorem dX11_measure_57 : decode cX11_measure 57 = .ok (.ireturn, 1) := by decide +kernel
theorem dX11_measure_58 : decode cX11_measure 58 = .ok (.aload_n 0, 1) := by decide +kernel
theorem dX11_measure_59 : decode cX11_measure 59 = .ok (.getfield 12, 3) := by decide +kernel
theorem dX11_measure_62 : decode cX11_measure 62 = .ok (.iload_n 1, 1) := by decide +kernel
theorem dX11_measure_63 : decode cX11_measure 63 = .ok (.iload_n 2, 1) := by decide +kernel
theorem dX11_measure_64 : decode cX11_measure 64 = .ok (.iload_n 3, 1) := by decide +kernel
theorem dX11_measure_65 : decode cX11_measure 65 = .ok (.iload_n 1, 1) := by decide +kernel
theorem dX11_measure_66 : decode cX11_measure 66 = .ok (.iconst 1, 1) := by decide +kernel
theorem dX11_measure_67 : decode cX11_measure 67 = .ok (.if_icmp .eq 8, 3) := by decide +kernel
theorem dX11_measure_70 : decode cX11_measure 70 = .ok (.iload_n 1, 1) := by decide +kernel
theorem dX11_measure_71 : decode cX11_measure 71 = .ok (.iconst 2, 1) := by decide +kernel
theorem dX11_measure_72 : decode cX11_measure 72 = .ok (.if_icmp .ne 7, 3) := by decide +kernel
theorem dX11_measure_75 : decode cX11_measure 75 = .ok (.iconst 0, 1) := by decide +kernel
theorem dX11_measure_76 : decode cX11_measure 76 = .ok (.goto 5, 3) := by decide +kernel
theorem dX11_measure_79 : decode cX11_measure 79 = .ok (.iload 4, 2) := by decide +kernel
theorem dX11_measure_81 : decode cX11_measure 81 = .ok (.iload_n 1, 1) := by decide +kernel
theorem dX11_measure_82 : decode cX11_measure 82 = .ok (.iconst 3, 1) := by decide +kernel
theorem dX11_measure_83 : decode cX11_measure 83 = .ok (.if_icmp .ne 7, 3) := by decide +kernel
theorem dX11_measure_86 : decode cX11_measure 86 = .ok (.iconst 0, 1) := by decide +kernel
theorem dX11_measure_87 : decode cX11_measure 87 = .ok (.goto 5, 3) := by decide +kernel
theorem dX11_measure_90 : decode cX11_measure 90 = .ok (.iload 5, 2) := by decide +kernel
theorem dX11_measure_92 : decode cX11_measure 92 = .ok (.invokevirtual 248, 3) := by decide +kernel
theorem dX11_measure_95 : decode cX11_measure 95 = .ok (.istore 6, 2) := by decide +kernel
theorem dX11_measure_97 : decode cX11_measure 97 = .ok (.aload_n 0, 1) := by decide +kernel
theorem dX11_measure_98 : decode cX11_measure 98 = .ok (.invokevirtual 179, 3) := by decide +kernel
theorem dX11_measure_101 : decode cX11_measure 101 = .ok (.iload 6, 2) := by decide +kernel
theorem dX11_measure_103 : decode cX11_measure 103 = .ok (.ireturn, 1) := by decide +kernel
theorem dX11_measures_0 : decode cX11_measures 0 = .ok (.aload_n 0, 1) := by decide +kernel
theorem dX11_measures_1 : decode cX11_measures 1 = .ok (.iload_n 1, 1) := by decide +kernel
theorem dX11_measures_2 : decode cX11_measures 2 = .ok (.iload_n 2, 1) := by decide +kernel
theorem dX11_measures_3 : decode cX11_measures 3 = .ok (.invokevirtual 144, 3) := by decide +kernel
theorem dX11_measures_6 : decode cX11_measures 6 = .ok (.istore 5, 2) := by decide +kernel
theorem dX11_measures_8 : decode cX11_measures 8 = .ok (.iload 5, 2) := by decide +kernel
theorem dX11_measures_10 : decode cX11_measures 10 = .ok (.ifCond .eq 6, 3) := by decide +kernel
theorem dX11_measures_13 : decode cX11_measures 13 = .ok (.iload 5, 2) := by decide +kernel
theorem dX11_measures_15 : decode cX11_measures 15 = .ok (.ireturn, 1) := by decide +kernel
theorem dX11_measures_16 : decode cX11_measures 16 = .ok (.iload 4, 2) := by decide +kernel
theorem dX11_measures_18 : decode cX11_measures 18 = .ok (.ifCond .ge 11, 3) := by decide +kernel
theorem dX11_measures_21 : decode cX11_measures 21 = .ok (.aload_n 0, 1) := by decide +kernel
theorem dX11_measures_22 : decode cX11_measures 22 = .ok (.iconst 4, 1) := by decide +kernel
theorem dX11_measures_23 : decode cX11_measures 23 = .ok (.invokevirtual 158, 3) := by decide +kernel
theorem dX11_measures_26 : decode cX11_measures 26 = .ok (.goto 16, 3) := by decide +kernel
theorem dX11_measures_29 : decode cX11_measures 29 = .ok (.aload_n 0, 1) := by decide +kernel
theorem dX11_measures_30 : decode cX11_measures 30 = .ok (.aload_n 0, 1) := by decide +kernel
theorem dX11_measures_31 : decode cX11_measures 31 = .ok (.getfield 97, 3) := by decide +kernel
theorem dX11_measures_34 : decode cX11_measures 34 = .ok (.iload_n 1, 1) := by decide +kernel
theorem dX11_measures_35 : decode cX11_measures 35 = .ok (.aaload, 1) := by decide +kernel
theorem dX11_measures_36 : decode cX11_measures 36 = .ok (.iload_n 3, 1) := by decide +kernel
theorem dX11_measures_37 : decode cX11_measures 37 = .ok (.iload 4, 2) := by decide +kernel
theorem dX11_measures_39 : decode cX11_measures 39 = .ok (.invokevirtual 252, 3) := by decide +kernel
theorem dX11_measures_42 : decode cX11_measures 42 = .ok (.ireturn, 1) := by decide +kernel
theorem dX11_measuresFrom_0 : decode cX11_measuresFrom 0 = .ok (.iload_n 2, 1) := by decide +kernel
theorem dX11_measuresFrom_1 : decode cX11_measuresFrom 1 = .ok (.istore 4, 2) := by decide +kernel
theorem dX11_measuresFrom_3 : decode cX11_measuresFrom 3 = .ok (.iconst 0, 1) := by decide +kernel
theorem dX11_measuresFrom_4 : decode cX11_measuresFrom 4 = .ok (.istore 5, 2) := by decide +kernel
theorem dX11_measuresFrom_6 : decode cX11_measuresFrom 6 = .ok (.iload 5, 2) := by decide +kernel
theorem dX11_measuresFrom_8 : decode cX11_measuresFrom 8 = .ok (.iload_n 3, 1) := by decide +kernel
theorem dX11_measuresFrom_9 : decode cX11_measuresFrom 9 = .ok (.if_icmp .ge 84, 3) := by decide +kernel
theorem dX11_measuresFrom_12 : decode cX11_measuresFrom 12 = .ok (.aload_n 1, 1) := by decide +kernel
theorem dX11_measuresFrom_13 : decode cX11_measuresFrom 13 = .ok (.iload 4, 2) := by decide +kernel
theorem dX11_measuresFrom_15 : decode cX11_measuresFrom 15 = .ok (.iconst 5, 1) := by decide +kernel
theorem dX11_measuresFrom_16 : decode cX11_measuresFrom 16 = .ok (.invokevirtual 154, 3) := by decide +kernel
theorem dX11_measuresFrom_19 : decode cX11_measuresFrom 19 = .ok (.ifCond .ne 11, 3) := by decide +kernel
theorem dX11_measuresFrom_22 : decode cX11_measuresFrom 22 = .ok (.aload_n 0, 1) := by decide +kernel
theorem dX11_measuresFrom_23 : decode cX11_measuresFrom 23 = .ok (.iconst 3, 1) := by decide +kernel
theorem dX11_measuresFrom_24 : decode cX11_measuresFrom 24 = .ok (.putfield 109, 3) := by decide +kernel
theorem dX11_measuresFrom_27 : decode cX11_measuresFrom 27 = .ok (.iload 5, 2) := by decide +kernel
theorem dX11_measuresFrom_29 : decode cX11_measuresFrom 29 = .ok (.ireturn, 1) := by decide +kernel
theorem dX11_measuresFrom_30 : decode cX11_measuresFrom 30 = .ok (.aload_n 1, 1) := by decide +kernel
theorem dX11_measuresFrom_31 : decode cX11_measuresFrom 31 = .ok (.getfield 457, 3) := by decide +kernel
theorem dX11_measuresFrom_34 : decode cX11_measuresFrom 34 = .ok (.astore 6, 2) := by decide +kernel
theorem dX11_measuresFrom_36 : decode cX11_measuresFrom 36 = .ok (.aload_n 0, 1) := by decide +kernel
theorem dX11_measuresFrom_37 : decode cX11_measuresFrom 37 = .ok (.aload 6, 2) := by decide +kernel
theorem dX11_measuresFrom_39 : decode cX11_measuresFrom 39 = .ok (.iload 4, 2) := by decide +kernel
theorem dX11_measuresFrom_41 : decode cX11_measuresFrom 41 = .ok (.laload, 1) := by decide +kernel
theorem dX11_measuresFrom_42 : decode cX11_measuresFrom 42 = .ok (.l2i, 1) := by decide +kernel
theorem dX11_measuresFrom_43 : decode cX11_measuresFrom 43 = .ok (.aload 6, 2) := by decide +kernel
theorem dX11_measuresFrom_45 : decode cX11_measuresFrom 45 = .ok (.iload 4, 2) := by decide +kernel
theorem dX11_measuresFrom_47 : decode cX11_measuresFrom 47 = .ok (.iconst 1, 1) := by decide +kernel
theorem dX11_measuresFrom_48 : decode cX11_measuresFrom 48 = .ok (.iadd, 1) := by decide +kernel
theorem dX11_measuresFrom_49 : decode cX11_measuresFrom 49 = .ok (.laload, 1) := by decide +kernel
theorem dX11_measuresFrom_50 : decode cX11_measuresFrom 50 = .ok (.l2i, 1) := by decide +kernel
theorem dX11_measuresFrom_51 : decode cX11_measuresFrom 51 = .ok (.aload 6, 2) := by decide +kernel
theorem dX11_measuresFrom_53 : decode cX11_measuresFrom 53 = .ok (.iload 4, 2) := by decide +kernel
theorem dX11_measuresFrom_55 : decode cX11_measuresFrom 55 = .ok (.iconst 2, 1) := by decide +kernel
theorem dX11_measuresFrom_56 : decode cX11_measuresFrom 56 = .ok (.iadd, 1) := by decide +kernel
theorem dX11_measuresFrom_57 : decode cX11_measuresFrom 57 = .ok (.laload, 1) := by decide +kernel
theorem dX11_measuresFrom_58 : decode cX11_measuresFrom 58 = .ok (.l2i, 1) := by decide +kernel
theorem dX11_measuresFrom_59 : decode cX11_measuresFrom 59 = .ok (.aload 6, 2) := by decide +kernel
theorem dX11_measuresFrom_61 : decode cX11_measuresFrom 61 = .ok (.iload 4, 2) := by decide +kernel
theorem dX11_measuresFrom_63 : decode cX11_measuresFrom 63 = .ok (.iconst 3, 1) := by decide +kernel
theorem dX11_measuresFrom_64 : decode cX11_measuresFrom 64 = .ok (.iadd, 1) := by decide +kernel
theorem dX11_measuresFrom_65 : decode cX11_measuresFrom 65 = .ok (.laload, 1) := by decide +kernel
theorem dX11_measuresFrom_66 : decode cX11_measuresFrom 66 = .ok (.l2i, 1) := by decide +kernel
theorem dX11_measuresFrom_67 : decode cX11_measuresFrom 67 = .ok (.aload 6, 2) := by decide +kernel
theorem dX11_measuresFrom_69 : decode cX11_measuresFrom 69 = .ok (.iload 4, 2) := by decide +kernel
theorem dX11_measuresFrom_71 : decode cX11_measuresFrom 71 = .ok (.iconst 4, 1) := by decide +kernel
theorem dX11_measuresFrom_72 : decode cX11_measuresFrom 72 = .ok (.iadd, 1) := by decide +kernel
theorem dX11_measuresFrom_73 : decode cX11_measuresFrom 73 = .ok (.laload, 1) := by decide +kernel
theorem dX11_measuresFrom_74 : decode cX11_measuresFrom 74 = .ok (.l2i, 1) := by decide +kernel
theorem dX11_measuresFrom_75 : decode cX11_measuresFrom 75 = .ok (.invokevirtual 504, 3) := by decide +kernel
theorem dX11_measuresFrom_78 : decode cX11_measuresFrom 78 = .ok (.ifCond .ge 6, 3) := by decide +kernel
theorem dX11_measuresFrom_81 : decode cX11_measuresFrom 81 = .ok (.iload 5, 2) := by decide +kernel
theorem dX11_measuresFrom_83 : decode cX11_measuresFrom 83 = .ok (.ireturn, 1) := by decide +kernel
theorem dX11_measuresFrom_84 : decode cX11_measuresFrom 84 = .ok (.iinc 4 5, 3) := by decide +kernel
theorem dX11_measuresFrom_87 : decode cX11_measuresFrom 87 = .ok (.iinc 5 1, 3) := by decide +kernel
theorem dX11_measuresFrom_90 : decode cX11_measuresFrom 90 = .ok (.goto (-84), 3) := by decide +kernel
theorem dX11_measuresFrom_93 : decode cX11_measuresFrom 93 = .ok (.iload_n 3, 1) := by decide +kernel
theorem dX11_measuresFrom_94 : decode cX11_measuresFrom 94 = .ok (.ireturn, 1) := by decide +kernel
theorem dX11_mover_0 : decode cX11_mover 0 = .ok (.iload_n 1, 1) := by decide +kernel
theorem dX11_mover_1 : decode cX11_mover 1 = .ok (.iconst 2, 1) := by decide +kernel
theorem dX11_mover_2 : decode cX11_mover 2 = .ok (.bipush 8, 2) := by decide +kernel
theorem dX11_mover_4 : decode cX11_mover 4 = .ok (.invokestatic 113, 3) := by decide +kernel
theorem dX11_mover_7 : decode cX11_mover 7 = .ok (.ifCond .eq 13, 3) := by decide +kernel
theorem dX11_mover_10 : decode cX11_mover 10 = .ok (.iload_n 2, 1) := by decide +kernel
theorem dX11_mover_11 : decode cX11_mover 11 = .ok (.iconst 0, 1) := by decide +kernel
theorem dX11_mover_12 : decode cX11_mover 12 = .ok (.bipush 98, 2) := by decide +kernel
theorem dX11_mover_14 : decode cX11_mover 14 = .ok (.invokestatic 113, 3) := by decide +kernel
theorem dX11_mover_17 : decode cX11_mover 17 = .ok (.ifCond .ne 6, 3) := by decide +kernel
theorem dX11_mover_20 : decode cX11_mover 20 = .ok (.bipush (-2), 2) := by decide +kernel
theorem dX11_mover_22 : decode cX11_mover 22 = .ok (.ireturn, 1) := by decide +kernel
theorem dX11_mover_23 : decode cX11_mover 23 = .ok (.aload_n 0, 1) := by decide +kernel
theorem dX11_mover_24 : decode cX11_mover 24 = .ok (.getfield 12, 3) := by decide +kernel
theorem dX11_mover_27 : decode cX11_mover 27 = .ok (.getfield 375, 3) := by decide +kernel
theorem dX11_mover_30 : decode cX11_mover 30 = .ok (.iconst 3, 1) := by decide +kernel
theorem dX11_mover_31 : decode cX11_mover 31 = .ok (.if_icmp .ge 33, 3) := by decide +kernel
theorem dX11_mover_34 : decode cX11_mover 34 = .ok (.aload_n 0, 1) := by decide +kernel
theorem dX11_mover_35 : decode cX11_mover 35 = .ok (.getfield 12, 3) := by decide +kernel
theorem dX11_mover_38 : decode cX11_mover 38 = .ok (.getfield 172, 3) := by decide +kernel
theorem dX11_mover_41 : decode cX11_mover 41 = .ok (.iload_n 1, 1) := by decide +kernel
theorem dX11_mover_42 : decode cX11_mover 42 = .ok (.iadd, 1) := by decide +kernel
theorem dX11_mover_43 : decode cX11_mover 43 = .ok (.bipush 24, 2) := by decide +kernel
theorem dX11_mover_45 : decode cX11_mover 45 = .ok (.if_icmp .gt 19, 3) := by decide +kernel
theorem dX11_mover_48 : decode cX11_mover 48 = .ok (.aload_n 0, 1) := by decide +kernel
theorem dX11_mover_49 : decode cX11_mover 49 = .ok (.getfield 12, 3) := by decide +kernel
theorem dX11_mover_52 : decode cX11_mover 52 = .ok (.getfield 245, 3) := by decide +kernel
theorem dX11_mover_55 : decode cX11_mover 55 = .ok (.iload_n 1, 1) := by decide +kernel
theorem dX11_mover_56 : decode cX11_mover 56 = .ok (.iadd, 1) := by decide +kernel
theorem dX11_mover_57 : decode cX11_mover 57 = .ok (.iconst 1, 1) := by decide +kernel
theorem dX11_mover_58 : decode cX11_mover 58 = .ok (.isub, 1) := by decide +kernel
theorem dX11_mover_59 : decode cX11_mover 59 = .ok (.bipush 60, 2) := by decide +kernel
theorem dX11_mover_61 : decode cX11_mover 61 = .ok (.if_icmp .le 6, 3) := by decide +kernel
theorem dX11_mover_64 : decode cX11_mover 64 = .ok (.bipush (-4), 2) := by decide +kernel
theorem dX11_mover_66 : decode cX11_mover 66 = .ok (.ireturn, 1) := by decide +kernel
theorem dX11_mover_67 : decode cX11_mover 67 = .ok (.aload_n 0, 1) := by decide +kernel
theorem dX11_mover_68 : decode cX11_mover 68 = .ok (.getfield 12, 3) := by decide +kernel
theorem dX11_mover_71 : decode cX11_mover 71 = .ok (.iload_n 1, 1) := by decide +kernel
theorem dX11_mover_72 : decode cX11_mover 72 = .ok (.iload_n 2, 1) := by decide +kernel
theorem dX11_mover_73 : decode cX11_mover 73 = .ok (.invokevirtual 378, 3) := by decide +kernel
theorem dX11_mover_76 : decode cX11_mover 76 = .ok (.istore_n 3, 1) := by decide +kernel
theorem dX11_mover_77 : decode cX11_mover 77 = .ok (.aload_n 0, 1) := by decide +kernel
theorem dX11_mover_78 : decode cX11_mover 78 = .ok (.invokevirtual 179, 3) := by decide +kernel
theorem dX11_mover_81 : decode cX11_mover 81 = .ok (.iload_n 3, 1) := by decide +kernel
theorem dX11_mover_82 : decode cX11_mover 82 = .ok (.ireturn, 1) := by decide +kernel
theorem dX11_narrowed_0 : decode cX11_narrowed 0 = .ok (.aload_n 0, 1) := by decide +kernel
theorem dX11_narrowed_1 : decode cX11_narrowed 1 = .ok (.invokevirtual 281, 3) := by decide +kernel
theorem dX11_narrowed_4 : decode cX11_narrowed 4 = .ok (.aload_n 0, 1) := by decide +kernel
theorem dX11_narrowed_5 : decode cX11_narrowed 5 = .ok (.getfield 39, 3) := by decide +kernel
theorem dX11_narrowed_8 : decode cX11_narrowed 8 = .ok (.areturn, 1) := by decide +kernel
theorem dX11_nth_0 : decode cX11_nth 0 = .ok (.aload_n 0, 1) := by decide +kernel
theorem dX11_nth_1 : decode cX11_nth 1 = .ok (.getfield 12, 3) := by decide +kernel
theorem dX11_nth_4 : decode cX11_nth 4 = .ok (.iload_n 1, 1) := by decide +kernel
theorem dX11_nth_5 : decode cX11_nth 5 = .ok (.invokevirtual 182, 3) := by decide +kernel
theorem dX11_nth_8 : decode cX11_nth 8 = .ok (.ifCond .eq 7, 3) := by decide +kernel
theorem dX11_nth_11 : decode cX11_nth 11 = .ok (.iload_n 2, 1) := by decide +kernel
theorem dX11_nth_12 : decode cX11_nth 12 = .ok (.ifCond .ge 5, 3) := by decide +kernel
theorem dX11_nth_15 : decode cX11_nth 15 = .ok (.iconst (-1), 1) := by decide +kernel
theorem dX11_nth_16 : decode cX11_nth 16 = .ok (.ireturn, 1) := by decide +kernel
theorem dX11_nth_17 : decode cX11_nth 17 = .ok (.aload_n 0, 1) := by decide +kernel
theorem dX11_nth_18 : decode cX11_nth 18 = .ok (.iload_n 1, 1) := by decide +kernel
theorem dX11_nth_19 : decode cX11_nth 19 = .ok (.invokevirtual 297, 3) := by decide +kernel
theorem dX11_nth_22 : decode cX11_nth 22 = .ok (.ifCond .eq 6, 3) := by decide +kernel
theorem dX11_nth_25 : decode cX11_nth 25 = .ok (.bipush (-6), 2) := by decide +kernel
theorem dX11_nth_27 : decode cX11_nth 27 = .ok (.ireturn, 1) := by decide +kernel
theorem dX11_nth_28 : decode cX11_nth 28 = .ok (.iload_n 2, 1) := by decide +kernel
theorem dX11_nth_29 : decode cX11_nth 29 = .ok (.aload_n 0, 1) := by decide +kernel
theorem dX11_nth_30 : decode cX11_nth 30 = .ok (.getfield 48, 3) := by decide +kernel
theorem dX11_nth_33 : decode cX11_nth 33 = .ok (.getfield 303, 3) := by decide +kernel
theorem dX11_nth_36 : decode cX11_nth 36 = .ok (.if_icmp .ge 22, 3) := by decide +kernel
theorem dX11_nth_39 : decode cX11_nth 39 = .ok (.aload_n 0, 1) := by decide +kernel
theorem dX11_nth_40 : decode cX11_nth 40 = .ok (.getfield 48, 3) := by decide +kernel
theorem dX11_nth_43 : decode cX11_nth 43 = .ok (.iload_n 2, 1) := by decide +kernel
theorem dX11_nth_44 : decode cX11_nth 44 = .ok (.aload_n 0, 1) := by decide +kernel
theorem dX11_nth_45 : decode cX11_nth 45 = .ok (.getfield 48, 3) := by decide +kernel
theorem dX11_nth_48 : decode cX11_nth 48 = .ok (.iload_n 1, 1) := by decide +kernel
theorem dX11_nth_49 : decode cX11_nth 49 = .ok (.invokevirtual 306, 3) := by decide +kernel
theorem dX11_nth_52 : decode cX11_nth 52 = .ok (.invokevirtual 309, 3) := by decide +kernel
theorem dX11_nth_55 : decode cX11_nth 55 = .ok (.goto 4, 3) := by decide +kernel
theorem dX11_nth_58 : decode cX11_nth 58 = .ok (.iconst (-1), 1) := by decide +kernel
theorem dX11_nth_59 : decode cX11_nth 59 = .ok (.ireturn, 1) := by decide +kernel
theorem dX11_placings_0 : decode cX11_placings 0 = .ok (.aload_n 0, 1) := by decide +kernel
theorem dX11_placings_1 : decode cX11_placings 1 = .ok (.getfield 12, 3) := by decide +kernel
theorem dX11_placings_4 : decode cX11_placings 4 = .ok (.iload_n 1, 1) := by decide +kernel
theorem dX11_placings_5 : decode cX11_placings 5 = .ok (.invokevirtual 182, 3) := by decide +kernel
theorem dX11_placings_8 : decode cX11_placings 8 = .ok (.ifCond .ne 5, 3) := by decide +kernel
theorem dX11_placings_11 : decode cX11_placings 11 = .ok (.iconst (-1), 1) := by decide +kernel
theorem dX11_placings_12 : decode cX11_placings 12 = .ok (.ireturn, 1) := by decide +kernel
theorem dX11_placings_13 : decode cX11_placings 13 = .ok (.aload_n 0, 1) := by decide +kernel
theorem dX11_placings_14 : decode cX11_placings 14 = .ok (.iload_n 1, 1) := by decide +kernel
theorem dX11_placings_15 : decode cX11_placings 15 = .ok (.invokevirtual 297, 3) := by decide +kernel
theorem dX11_placings_18 : decode cX11_placings 18 = .ok (.istore_n 2, 1) := by decide +kernel
theorem dX11_placings_19 : decode cX11_placings 19 = .ok (.aload_n 0, 1) := by decide +kernel
theorem dX11_placings_20 : decode cX11_placings 20 = .ok (.aload_n 0, 1) := by decide +kernel
theorem dX11_placings_21 : decode cX11_placings 21 = .ok (.getfield 48, 3) := by decide +kernel
theorem dX11_placings_24 : decode cX11_placings 24 = .ok (.getfield 300, 3) := by decide +kernel
theorem dX11_placings_27 : decode cX11_placings 27 = .ok (.putfield 105, 3) := by decide +kernel
theorem dX11_placings_30 : decode cX11_placings 30 = .ok (.iload_n 2, 1) := by decide +kernel
theorem dX11_placings_31 : decode cX11_placings 31 = .ok (.ifCond .eq 8, 3) := by decide +kernel
theorem dX11_placings_34 : decode cX11_placings 34 = .ok (.bipush (-6), 2) := by decide +kernel
theorem dX11_placings_36 : decode cX11_placings 36 = .ok (.goto 10, 3) := by decide +kernel
theorem dX11_placings_39 : decode cX11_placings 39 = .ok (.aload_n 0, 1) := by decide +kernel
theorem dX11_placings_40 : decode cX11_placings 40 = .ok (.getfield 48, 3) := by decide +kernel
theorem dX11_placings_43 : decode cX11_placings 43 = .ok (.getfield 303, 3) := by decide +kernel
theorem dX11_placings_46 : decode cX11_placings 46 = .ok (.ireturn, 1) := by decide +kernel
theorem dX11_plan_0 : decode cX11_plan 0 = .ok (.aload_n 0, 1) := by decide +kernel
theorem dX11_plan_1 : decode cX11_plan 1 = .ok (.iload_n 1, 1) := by decide +kernel
theorem dX11_plan_2 : decode cX11_plan 2 = .ok (.iload_n 2, 1) := by decide +kernel
theorem dX11_plan_3 : decode cX11_plan 3 = .ok (.invokevirtual 144, 3) := by decide +kernel
theorem dX11_plan_6 : decode cX11_plan 6 = .ok (.istore 4, 2) := by decide +kernel
theorem dX11_plan_8 : decode cX11_plan 8 = .ok (.iload 4, 2) := by decide +kernel
theorem dX11_plan_10 : decode cX11_plan 10 = .ok (.ifCond .eq 6, 3) := by decide +kernel
theorem dX11_plan_13 : decode cX11_plan 13 = .ok (.iload 4, 2) := by decide +kernel
theorem dX11_plan_15 : decode cX11_plan 15 = .ok (.ireturn, 1) := by decide +kernel
theorem dX11_plan_16 : decode cX11_plan 16 = .ok (.aload_n 0, 1) := by decide +kernel
theorem dX11_plan_17 : decode cX11_plan 17 = .ok (.getfield 97, 3) := by decide +kernel
theorem dX11_plan_20 : decode cX11_plan 20 = .ok (.iload_n 1, 1) := by decide +kernel
theorem dX11_plan_21 : decode cX11_plan 21 = .ok (.aaload, 1) := by decide +kernel
theorem dX11_plan_22 : decode cX11_plan 22 = .ok (.astore 5, 2) := by decide +kernel
theorem dX11_plan_24 : decode cX11_plan 24 = .ok (.aload 5, 2) := by decide +kernel
theorem dX11_plan_26 : decode cX11_plan 26 = .ok (.iload_n 3, 1) := by decide +kernel
theorem dX11_plan_27 : decode cX11_plan 27 = .ok (.aload_n 0, 1) := by decide +kernel
theorem dX11_plan_28 : decode cX11_plan 28 = .ok (.getfield 12, 3) := by decide +kernel
theorem dX11_plan_31 : decode cX11_plan 31 = .ok (.getfield 148, 3) := by decide +kernel
theorem dX11_plan_34 : decode cX11_plan 34 = .ok (.aload_n 0, 1) := by decide +kernel
theorem dX11_plan_35 : decode cX11_plan 35 = .ok (.getfield 12, 3) := by decide +kernel
theorem dX11_plan_38 : decode cX11_plan 38 = .ok (.getfield 151, 3) := by decide +kernel
theorem dX11_plan_41 : decode cX11_plan 41 = .ok (.imul, 1) := by decide +kernel
theorem dX11_plan_42 : decode cX11_plan 42 = .ok (.invokevirtual 154, 3) := by decide +kernel
theorem dX11_plan_45 : decode cX11_plan 45 = .ok (.ifCond .ne 9, 3) := by decide +kernel
theorem dX11_plan_48 : decode cX11_plan 48 = .ok (.aload_n 0, 1) := by decide +kernel
theorem dX11_plan_49 : decode cX11_plan 49 = .ok (.iconst 3, 1) := by decide +kernel
theorem dX11_plan_50 : decode cX11_plan 50 = .ok (.invokevirtual 158, 3) := by decide +kernel
theorem dX11_plan_53 : decode cX11_plan 53 = .ok (.ireturn, 1) := by decide +kernel
theorem dX11_plan_54 : decode cX11_plan 54 = .ok (.aload_n 0, 1) := by decide +kernel
theorem dX11_plan_55 : decode cX11_plan 55 = .ok (.aload 5, 2) := by decide +kernel
theorem dX11_plan_57 : decode cX11_plan 57 = .ok (.iload_n 3, 1) := by decide +kernel
theorem dX11_plan_58 : decode cX11_plan 58 = .ok (.invokevirtual 162, 3) := by decide +kernel
theorem dX11_plan_61 : decode cX11_plan 61 = .ok (.lstore 6, 2) := by decide +kernel
theorem dX11_plan_63 : decode cX11_plan 63 = .ok (.aload_n 0, 1) := by decide +kernel
theorem dX11_plan_64 : decode cX11_plan 64 = .ok (.getfield 12, 3) := by decide +kernel
theorem dX11_plan_67 : decode cX11_plan 67 = .ok (.invokevirtual 128, 3) := by decide +kernel
theorem dX11_plan_70 : decode cX11_plan 70 = .ok (.lload 6, 2) := by decide +kernel
theorem dX11_plan_72 : decode cX11_plan 72 = .ok (.ldc2_w 166, 3) := by decide +kernel
theorem dX11_plan_75 : decode cX11_plan 75 = .ok (.lxor, 1) := by decide +kernel
theorem dX11_plan_76 : decode cX11_plan 76 = .ok (.land, 1) := by decide +kernel
theorem dX11_plan_77 : decode cX11_plan 77 = .ok (.lconst 0, 1) := by decide +kernel
theorem dX11_plan_78 : decode cX11_plan 78 = .ok (.lcmp, 1) := by decide +kernel
theorem dX11_plan_79 : decode cX11_plan 79 = .ok (.ifCond .eq 6, 3) := by decide +kernel
theorem dX11_plan_82 : decode cX11_plan 82 = .ok (.bipush (-3), 2) := by decide +kernel
theorem dX11_plan_84 : decode cX11_plan 84 = .ok (.ireturn, 1) := by decide +kernel
theorem dX11_plan_85 : decode cX11_plan 85 = .ok (.aload_n 0, 1) := by decide +kernel
theorem dX11_plan_86 : decode cX11_plan 86 = .ok (.getfield 12, 3) := by decide +kernel
theorem dX11_plan_89 : decode cX11_plan 89 = .ok (.lload 6, 2) := by decide +kernel
theorem dX11_plan_91 : decode cX11_plan 91 = .ok (.putfield 136, 3) := by decide +kernel
theorem dX11_plan_94 : decode cX11_plan 94 = .ok (.aload_n 0, 1) := by decide +kernel
theorem dX11_plan_95 : decode cX11_plan 95 = .ok (.invokevirtual 121, 3) := by decide +kernel
theorem dX11_plan_98 : decode cX11_plan 98 = .ok (.lload 6, 2) := by decide +kernel
theorem dX11_plan_100 : decode cX11_plan 100 = .ok (.invokestatic 168, 3) := by decide +kernel
theorem dX11_plan_103 : decode cX11_plan 103 = .ok (.ireturn, 1) := by decide +kernel
theorem dX11_planned_0 : decode cX11_planned 0 = .ok (.lconst 0, 1) := by decide +kernel
theorem dX11_planned_1 : decode cX11_planned 1 = .ok (.lstore_n 3, 1) := by decide +kernel
theorem dX11_planned_2 : decode cX11_planned 2 = .ok (.iconst 0, 1) := by decide +kernel
theorem dX11_planned_3 : decode cX11_planned 3 = .ok (.istore 5, 2) := by decide +kernel
theorem dX11_planned_5 : decode cX11_planned 5 = .ok (.iload 5, 2) := by decide +kernel
theorem dX11_planned_7 : decode cX11_planned 7 = .ok (.aload_n 0, 1) := by decide +kernel
theorem dX11_planned_8 : decode cX11_planned 8 = .ok (.getfield 12, 3) := by decide +kernel
theorem dX11_planned_11 : decode cX11_planned 11 = .ok (.getfield 151, 3) := by decide +kernel
theorem dX11_planned_14 : decode cX11_planned 14 = .ok (.if_icmp .ge 69, 3) := by decide +kernel
theorem dX11_planned_17 : decode cX11_planned 17 = .ok (.iconst 0, 1) := by decide +kernel
theorem dX11_planned_18 : decode cX11_planned 18 = .ok (.istore 6, 2) := by decide +kernel
theorem dX11_planned_20 : decode cX11_planned 20 = .ok (.iload 6, 2) := by decide +kernel
theorem dX11_planned_22 : decode cX11_planned 22 = .ok (.aload_n 0, 1) := by decide +kernel
theorem dX11_planned_23 : decode cX11_planned 23 = .ok (.getfield 12, 3) := by decide +kernel
theorem dX11_planned_26 : decode cX11_planned 26 = .ok (.getfield 148, 3) := by decide +kernel
theorem dX11_planned_29 : decode cX11_planned 29 = .ok (.if_icmp .ge 48, 3) := by decide +kernel
theorem dX11_planned_32 : decode cX11_planned 32 = .ok (.aload_n 1, 1) := by decide +kernel
theorem dX11_planned_33 : decode cX11_planned 33 = .ok (.getfield 457, 3) := by decide +kernel
theorem dX11_planned_36 : decode cX11_planned 36 = .ok (.iload_n 2, 1) := by decide +kernel
theorem dX11_planned_37 : decode cX11_planned 37 = .ok (.iload 5, 2) := by decide +kernel
theorem dX11_planned_39 : decode cX11_planned 39 = .ok (.aload_n 0, 1) := by decide +kernel
theorem dX11_planned_40 : decode cX11_planned 40 = .ok (.getfield 12, 3) := by decide +kernel
theorem dX11_planned_43 : decode cX11_planned 43 = .ok (.getfield 148, 3) := by decide +kernel
theorem dX11_planned_46 : decode cX11_planned 46 = .ok (.imul, 1) := by decide +kernel
theorem dX11_planned_47 : decode cX11_planned 47 = .ok (.iadd, 1) := by decide +kernel
theorem dX11_planned_48 : decode cX11_planned 48 = .ok (.iload 6, 2) := by decide +kernel
theorem dX11_planned_50 : decode cX11_planned 50 = .ok (.iadd, 1) := by decide +kernel
theorem dX11_planned_51 : decode cX11_planned 51 = .ok (.laload, 1) := by decide +kernel
theorem dX11_planned_52 : decode cX11_planned 52 = .ok (.lconst 0, 1) := by decide +kernel
theorem dX11_planned_53 : decode cX11_planned 53 = .ok (.lcmp, 1) := by decide +kernel
theorem dX11_planned_54 : decode cX11_planned 54 = .ok (.ifCond .ne 17, 3) := by decide +kernel
theorem dX11_planned_57 : decode cX11_planned 57 = .ok (.lload_n 3, 1) := by decide +kernel
theorem dX11_planned_58 : decode cX11_planned 58 = .ok (.bipush 8, 2) := by decide +kernel
theorem dX11_planned_60 : decode cX11_planned 60 = .ok (.iload 5, 2) := by decide +kernel
theorem dX11_planned_62 : decode cX11_planned 62 = .ok (.imul, 1) := by decide +kernel
theorem dX11_planned_63 : decode cX11_planned 63 = .ok (.iload 6, 2) := by decide +kernel
theorem dX11_planned_65 : decode cX11_planned 65 = .ok (.iadd, 1) := by decide +kernel
theorem dX11_planned_66 : decode cX11_planned 66 = .ok (.invokestatic 140, 3) := by decide +kernel
theorem dX11_planned_69 : decode cX11_planned 69 = .ok (.lor, 1) := by decide +kernel
theorem dX11_planned_70 : decode cX11_planned 70 = .ok (.lstore_n 3, 1) := by decide +kernel
theorem dX11_planned_71 : decode cX11_planned 71 = .ok (.iinc 6 1, 3) := by decide +kernel
theorem dX11_planned_74 : decode cX11_planned 74 = .ok (.goto (-54), 3) := by decide +kernel
theorem dX11_planned_77 : decode cX11_planned 77 = .ok (.iinc 5 1, 3) := by decide +kernel
theorem dX11_planned_80 : decode cX11_planned 80 = .ok (.goto (-75), 3) := by decide +kernel
theorem dX11_planned_83 : decode cX11_planned 83 = .ok (.lload_n 3, 1) := by decide +kernel
theorem dX11_planned_84 : decode cX11_planned 84 = .ok (.lreturn, 1) := by decide +kernel
theorem dX11_put_0 : decode cX11_put 0 = .ok (.aload_n 0, 1) := by decide +kernel
theorem dX11_put_1 : decode cX11_put 1 = .ok (.getfield 12, 3) := by decide +kernel
theorem dX11_put_4 : decode cX11_put 4 = .ok (.iload_n 1, 1) := by decide +kernel
theorem dX11_put_5 : decode cX11_put 5 = .ok (.invokevirtual 182, 3) := by decide +kernel
theorem dX11_put_8 : decode cX11_put 8 = .ok (.ifCond .eq 20, 3) := by decide +kernel
theorem dX11_put_11 : decode cX11_put 11 = .ok (.iload_n 2, 1) := by decide +kernel
theorem dX11_put_12 : decode cX11_put 12 = .ok (.bipush (-9), 2) := by decide +kernel
theorem dX11_put_14 : decode cX11_put 14 = .ok (.if_icmp .eq 16, 3) := by decide +kernel
theorem dX11_put_17 : decode cX11_put 17 = .ok (.aload_n 0, 1) := by decide +kernel
theorem dX11_put_18 : decode cX11_put 18 = .ok (.getfield 12, 3) := by decide +kernel
theorem dX11_put_21 : decode cX11_put 21 = .ok (.iload_n 2, 1) := by decide +kernel
theorem dX11_put_22 : decode cX11_put 22 = .ok (.invokevirtual 124, 3) := by decide +kernel
theorem dX11_put_25 : decode cX11_put 25 = .ok (.ifCond .ne 5, 3) := by decide +kernel
theorem dX11_put_28 : decode cX11_put 28 = .ok (.iconst (-1), 1) := by decide +kernel
theorem dX11_put_29 : decode cX11_put 29 = .ok (.ireturn, 1) := by decide +kernel
theorem dX11_put_30 : decode cX11_put 30 = .ok (.aload_n 0, 1) := by decide +kernel
theorem dX11_put_31 : decode cX11_put 31 = .ok (.getfield 12, 3) := by decide +kernel
theorem dX11_put_34 : decode cX11_put 34 = .ok (.getfield 225, 3) := by decide +kernel
theorem dX11_put_37 : decode cX11_put 37 = .ok (.iload_n 1, 1) := by decide +kernel
theorem dX11_put_38 : decode cX11_put 38 = .ok (.iaload, 1) := by decide +kernel
theorem dX11_put_39 : decode cX11_put 39 = .ok (.istore_n 3, 1) := by decide +kernel
theorem dX11_put_40 : decode cX11_put 40 = .ok (.aload_n 0, 1) := by decide +kernel
theorem dX11_put_41 : decode cX11_put 41 = .ok (.getfield 12, 3) := by decide +kernel
theorem dX11_put_44 : decode cX11_put 44 = .ok (.getfield 225, 3) := by decide +kernel
theorem dX11_put_47 : decode cX11_put 47 = .ok (.iload_n 1, 1) := by decide +kernel
theorem dX11_put_48 : decode cX11_put 48 = .ok (.iload_n 2, 1) := by decide +kernel
theorem dX11_put_49 : decode cX11_put 49 = .ok (.iastore, 1) := by decide +kernel
theorem dX11_put_50 : decode cX11_put 50 = .ok (.iload_n 3, 1) := by decide +kernel
theorem dX11_put_51 : decode cX11_put 51 = .ok (.ireturn, 1) := by decide +kernel
theorem dX11_quarrel_0 : decode cX11_quarrel 0 = .ok (.aload_n 0, 1) := by decide +kernel
theorem dX11_quarrel_1 : decode cX11_quarrel 1 = .ok (.invokevirtual 206, 3) := by decide +kernel
theorem dX11_quarrel_4 : decode cX11_quarrel 4 = .ok (.invokevirtual 275, 3) := by decide +kernel
theorem dX11_quarrel_7 : decode cX11_quarrel 7 = .ok (.ifCond .eq 16, 3) := by decide +kernel
theorem dX11_quarrel_10 : decode cX11_quarrel 10 = .ok (.aload_n 0, 1) := by decide +kernel
theorem dX11_quarrel_11 : decode cX11_quarrel 11 = .ok (.getfield 39, 3) := by decide +kernel
theorem dX11_quarrel_14 : decode cX11_quarrel 14 = .ok (.invokevirtual 278, 3) := by decide +kernel
theorem dX11_quarrel_17 : decode cX11_quarrel 17 = .ok (.invokestatic 168, 3) := by decide +kernel
theorem dX11_quarrel_20 : decode cX11_quarrel 20 = .ok (.goto 5, 3) := by decide +kernel
theorem dX11_quarrel_23 : decode cX11_quarrel 23 = .ok (.bipush (-9), 2) := by decide +kernel
theorem dX11_quarrel_25 : decode cX11_quarrel 25 = .ok (.ireturn, 1) := by decide +kernel
theorem dX11_refusalOfBodies_0 : decode cX11_refusalOfBodies 0 = .ok (.aload_n 0, 1) := by decide +kernel
theorem dX11_refusalOfBodies_1 : decode cX11_refusalOfBodies 1 = .ok (.iconst 0, 1) := by decide +kernel
theorem dX11_refusalOfBodies_2 : decode cX11_refusalOfBodies 2 = .ok (.putfield 109, 3) := by decide +kernel
theorem dX11_refusalOfBodies_5 : decode cX11_refusalOfBodies 5 = .ok (.iload_n 1, 1) := by decide +kernel
theorem dX11_refusalOfBodies_6 : decode cX11_refusalOfBodies 6 = .ok (.iconst 0, 1) := by decide +kernel
theorem dX11_refusalOfBodies_7 : decode cX11_refusalOfBodies 7 = .ok (.bipush 7, 2) := by decide +kernel
theorem dX11_refusalOfBodies_9 : decode cX11_refusalOfBodies 9 = .ok (.invokestatic 113, 3) := by decide +kernel
theorem dX11_refusalOfBodies_12 : decode cX11_refusalOfBodies 12 = .ok (.ifCond .ne 5, 3) := by decide +kernel
theorem dX11_refusalOfBodies_15 : decode cX11_refusalOfBodies 15 = .ok (.iconst (-1), 1) := by decide +kernel
theorem dX11_refusalOfBodies_16 : decode cX11_refusalOfBodies 16 = .ok (.ireturn, 1) := by decide +kernel
theorem dX11_refusalOfBodies_17 : decode cX11_refusalOfBodies 17 = .ok (.iload_n 2, 1) := by decide +kernel
theorem dX11_refusalOfBodies_18 : decode cX11_refusalOfBodies 18 = .ok (.iconst 0, 1) := by decide +kernel
theorem dX11_refusalOfBodies_19 : decode cX11_refusalOfBodies 19 = .ok (.iconst 1, 1) := by decide +kernel
theorem dX11_refusalOfBodies_20 : decode cX11_refusalOfBodies 20 = .ok (.invokestatic 113, 3) := by decide +kernel
theorem dX11_refusalOfBodies_23 : decode cX11_refusalOfBodies 23 = .ok (.ifCond .ne 6, 3) := by decide +kernel
theorem dX11_refusalOfBodies_26 : decode cX11_refusalOfBodies 26 = .ok (.bipush (-2), 2) := by decide +kernel
theorem dX11_refusalOfBodies_28 : decode cX11_refusalOfBodies 28 = .ok (.ireturn, 1) := by decide +kernel
theorem dX11_refusalOfBodies_29 : decode cX11_refusalOfBodies 29 = .ok (.aload_n 0, 1) := by decide +kernel
theorem dX11_refusalOfBodies_30 : decode cX11_refusalOfBodies 30 = .ok (.iload_n 1, 1) := by decide +kernel
theorem dX11_refusalOfBodies_31 : decode cX11_refusalOfBodies 31 = .ok (.invokevirtual 418, 3) := by decide +kernel
theorem dX11_refusalOfBodies_34 : decode cX11_refusalOfBodies 34 = .ok (.ifCond .eq 9, 3) := by decide +kernel
theorem dX11_refusalOfBodies_37 : decode cX11_refusalOfBodies 37 = .ok (.aload_n 0, 1) := by decide +kernel
theorem dX11_refusalOfBodies_38 : decode cX11_refusalOfBodies 38 = .ok (.iconst 1, 1) := by decide +kernel
theorem dX11_refusalOfBodies_39 : decode cX11_refusalOfBodies 39 = .ok (.invokevirtual 158, 3) := by decide +kernel
theorem dX11_refusalOfBodies_42 : decode cX11_refusalOfBodies 42 = .ok (.ireturn, 1) := by decide +kernel
theorem dX11_refusalOfBodies_43 : decode cX11_refusalOfBodies 43 = .ok (.iload_n 2, 1) := by decide +kernel
theorem dX11_refusalOfBodies_44 : decode cX11_refusalOfBodies 44 = .ok (.ifCond .ne 20, 3) := by decide +kernel
theorem dX11_refusalOfBodies_47 : decode cX11_refusalOfBodies 47 = .ok (.aload_n 0, 1) := by decide +kernel
theorem dX11_refusalOfBodies_48 : decode cX11_refusalOfBodies 48 = .ok (.getfield 85, 3) := by decide +kernel
theorem dX11_refusalOfBodies_51 : decode cX11_refusalOfBodies 51 = .ok (.iload_n 1, 1) := by decide +kernel
theorem dX11_refusalOfBodies_52 : decode cX11_refusalOfBodies 52 = .ok (.aaload, 1) := by decide +kernel
theorem dX11_refusalOfBodies_53 : decode cX11_refusalOfBodies 53 = .ok (.ifnull 7, 3) := by decide +kernel
theorem dX11_refusalOfBodies_56 : decode cX11_refusalOfBodies 56 = .ok (.iconst 1, 1) := by decide +kernel
theorem dX11_refusalOfBodies_57 : decode cX11_refusalOfBodies 57 = .ok (.goto 21, 3) := by decide +kernel
theorem dX11_refusalOfBodies_60 : decode cX11_refusalOfBodies 60 = .ok (.iconst 0, 1) := by decide +kernel
theorem dX11_refusalOfBodies_61 : decode cX11_refusalOfBodies 61 = .ok (.goto 17, 3) := by decide +kernel
theorem dX11_refusalOfBodies_64 : decode cX11_refusalOfBodies 64 = .ok (.aload_n 0, 1) := by decide +kernel
theorem dX11_refusalOfBodies_65 : decode cX11_refusalOfBodies 65 = .ok (.getfield 91, 3) := by decide +kernel
theorem dX11_refusalOfBodies_68 : decode cX11_refusalOfBodies 68 = .ok (.iload_n 1, 1) := by decide +kernel
theorem dX11_refusalOfBodies_69 : decode cX11_refusalOfBodies 69 = .ok (.aaload, 1) := by decide +kernel
theorem dX11_refusalOfBodies_70 : decode cX11_refusalOfBodies 70 = .ok (.ifnull 7, 3) := by decide +kernel
theorem dX11_refusalOfBodies_73 : decode cX11_refusalOfBodies 73 = .ok (.iconst 1, 1) := by decide +kernel
theorem dX11_refusalOfBodies_74 : decode cX11_refusalOfBodies 74 = .ok (.goto 4, 3) := by decide +kernel
theorem dX11_refusalOfBodies_77 : decode cX11_refusalOfBodies 77 = .ok (.iconst 0, 1) := by decide +kernel
theorem dX11_refusalOfBodies_78 : decode cX11_refusalOfBodies 78 = .ok (.istore_n 3, 1) := by decide +kernel
theorem dX11_refusalOfBodies_79 : decode cX11_refusalOfBodies 79 = .ok (.iload_n 3, 1) := by decide +kernel
theorem dX11_refusalOfBodies_80 : decode cX11_refusalOfBodies 80 = .ok (.ifCond .eq 7, 3) := by decide +kernel
theorem dX11_refusalOfBodies_83 : decode cX11_refusalOfBodies 83 = .ok (.iconst 0, 1) := by decide +kernel
theorem dX11_refusalOfBodies_84 : decode cX11_refusalOfBodies 84 = .ok (.goto 8, 3) := by decide +kernel
theorem dX11_refusalOfBodies_87 : decode cX11_refusalOfBodies 87 = .ok (.aload_n 0, 1) := by decide +kernel
theorem dX11_refusalOfBodies_88 : decode cX11_refusalOfBodies 88 = .ok (.iconst 2, 1) := by decide +kernel
theorem dX11_refusalOfBodies_89 : decode cX11_refusalOfBodies 89 = .ok (.invokevirtual 158, 3) := by decide +kernel
theorem dX11_refusalOfBodies_92 : decode cX11_refusalOfBodies 92 = .ok (.ireturn, 1) := by decide +kernel
theorem dX11_refusalOfFlip_0 : decode cX11_refusalOfFlip 0 = .ok (.aload_n 0, 1) := by decide +kernel
theorem dX11_refusalOfFlip_1 : decode cX11_refusalOfFlip 1 = .ok (.iload_n 1, 1) := by decide +kernel
theorem dX11_refusalOfFlip_2 : decode cX11_refusalOfFlip 2 = .ok (.invokevirtual 350, 3) := by decide +kernel
theorem dX11_refusalOfFlip_5 : decode cX11_refusalOfFlip 5 = .ok (.istore_n 3, 1) := by decide +kernel
theorem dX11_refusalOfFlip_6 : decode cX11_refusalOfFlip 6 = .ok (.iload_n 3, 1) := by decide +kernel
theorem dX11_refusalOfFlip_7 : decode cX11_refusalOfFlip 7 = .ok (.ifCond .eq 5, 3) := by decide +kernel
theorem dX11_refusalOfFlip_10 : decode cX11_refusalOfFlip 10 = .ok (.iload_n 3, 1) := by decide +kernel
theorem dX11_refusalOfFlip_11 : decode cX11_refusalOfFlip 11 = .ok (.ireturn, 1) := by decide +kernel
theorem dX11_refusalOfFlip_12 : decode cX11_refusalOfFlip 12 = .ok (.aload_n 0, 1) := by decide +kernel
theorem dX11_refusalOfFlip_13 : decode cX11_refusalOfFlip 13 = .ok (.invokevirtual 281, 3) := by decide +kernel
theorem dX11_refusalOfFlip_16 : decode cX11_refusalOfFlip 16 = .ok (.iload_n 2, 1) := by decide +kernel
theorem dX11_refusalOfFlip_17 : decode cX11_refusalOfFlip 17 = .ok (.ifCond .lt 26, 3) := by decide +kernel
theorem dX11_refusalOfFlip_20 : decode cX11_refusalOfFlip 20 = .ok (.aload_n 0, 1) := by decide +kernel
theorem dX11_refusalOfFlip_21 : decode cX11_refusalOfFlip 21 = .ok (.getfield 55, 3) := by decide +kernel
theorem dX11_refusalOfFlip_24 : decode cX11_refusalOfFlip 24 = .ok (.aload_n 0, 1) := by decide +kernel
theorem dX11_refusalOfFlip_25 : decode cX11_refusalOfFlip 25 = .ok (.getfield 12, 3) := by decide +kernel
theorem dX11_refusalOfFlip_28 : decode cX11_refusalOfFlip 28 = .ok (.iload_n 1, 1) := by decide +kernel
theorem dX11_refusalOfFlip_29 : decode cX11_refusalOfFlip 29 = .ok (.invokevirtual 288, 3) := by decide +kernel
theorem dX11_refusalOfFlip_32 : decode cX11_refusalOfFlip 32 = .ok (.iload_n 2, 1) := by decide +kernel
theorem dX11_refusalOfFlip_33 : decode cX11_refusalOfFlip 33 = .ok (.invokevirtual 353, 3) := by decide +kernel
theorem dX11_refusalOfFlip_36 : decode cX11_refusalOfFlip 36 = .ok (.ifCond .eq 7, 3) := by decide +kernel
theorem dX11_refusalOfFlip_39 : decode cX11_refusalOfFlip 39 = .ok (.iconst 0, 1) := by decide +kernel
theorem dX11_refusalOfFlip_40 : decode cX11_refusalOfFlip 40 = .ok (.goto 4, 3) := by decide +kernel
theorem dX11_refusalOfFlip_43 : decode cX11_refusalOfFlip 43 = .ok (.iconst (-1), 1) := by decide +kernel
theorem dX11_refusalOfFlip_44 : decode cX11_refusalOfFlip 44 = .ok (.ireturn, 1) := by decide +kernel
theorem dX11_refusalOfFlips_0 : decode cX11_refusalOfFlips 0 = .ok (.aload_n 0, 1) := by decide +kernel
theorem dX11_refusalOfFlips_1 : decode cX11_refusalOfFlips 1 = .ok (.getfield 12, 3) := by decide +kernel
theorem dX11_refusalOfFlips_4 : decode cX11_refusalOfFlips 4 = .ok (.iload_n 1, 1) := by decide +kernel
theorem dX11_refusalOfFlips_5 : decode cX11_refusalOfFlips 5 = .ok (.invokevirtual 182, 3) := by decide +kernel
theorem dX11_refusalOfFlips_8 : decode cX11_refusalOfFlips 8 = .ok (.ifCond .ne 5, 3) := by decide +kernel
theorem dX11_refusalOfFlips_11 : decode cX11_refusalOfFlips 11 = .ok (.iconst (-1), 1) := by decide +kernel
theorem dX11_refusalOfFlips_12 : decode cX11_refusalOfFlips 12 = .ok (.ireturn, 1) := by decide +kernel
theorem dX11_refusalOfFlips_13 : decode cX11_refusalOfFlips 13 = .ok (.aload_n 0, 1) := by decide +kernel
theorem dX11_refusalOfFlips_14 : decode cX11_refusalOfFlips 14 = .ok (.getfield 12, 3) := by decide +kernel
theorem dX11_refusalOfFlips_17 : decode cX11_refusalOfFlips 17 = .ok (.iload_n 1, 1) := by decide +kernel
theorem dX11_refusalOfFlips_18 : decode cX11_refusalOfFlips 18 = .ok (.invokevirtual 288, 3) := by decide +kernel
theorem dX11_refusalOfFlips_21 : decode cX11_refusalOfFlips 21 = .ok (.aload_n 0, 1) := by decide +kernel
theorem dX11_refusalOfFlips_22 : decode cX11_refusalOfFlips 22 = .ok (.getfield 12, 3) := by decide +kernel
theorem dX11_refusalOfFlips_25 : decode cX11_refusalOfFlips 25 = .ok (.invokevirtual 478, 3) := by decide +kernel
theorem dX11_refusalOfFlips_28 : decode cX11_refusalOfFlips 28 = .ok (.iconst (-1), 1) := by decide +kernel
theorem dX11_refusalOfFlips_29 : decode cX11_refusalOfFlips 29 = .ok (.ixor, 1) := by decide +kernel
theorem dX11_refusalOfFlips_30 : decode cX11_refusalOfFlips 30 = .ok (.iand, 1) := by decide +kernel
theorem dX11_refusalOfFlips_31 : decode cX11_refusalOfFlips 31 = .ok (.ifCond .eq 8, 3) := by decide +kernel
theorem dX11_refusalOfFlips_34 : decode cX11_refusalOfFlips 34 = .ok (.bipush (-3), 2) := by decide +kernel
theorem dX11_refusalOfFlips_36 : decode cX11_refusalOfFlips 36 = .ok (.goto 4, 3) := by decide +kernel
theorem dX11_refusalOfFlips_39 : decode cX11_refusalOfFlips 39 = .ok (.iconst 0, 1) := by decide +kernel
theorem dX11_refusalOfFlips_40 : decode cX11_refusalOfFlips 40 = .ok (.ireturn, 1) := by decide +kernel
theorem dX11_refusalOfRow_0 : decode cX11_refusalOfRow 0 = .ok (.aload_n 0, 1) := by decide +kernel
theorem dX11_refusalOfRow_1 : decode cX11_refusalOfRow 1 = .ok (.iconst 0, 1) := by decide +kernel
theorem dX11_refusalOfRow_2 : decode cX11_refusalOfRow 2 = .ok (.putfield 109, 3) := by decide +kernel
theorem dX11_refusalOfRow_5 : decode cX11_refusalOfRow 5 = .ok (.iload_n 1, 1) := by decide +kernel
theorem dX11_refusalOfRow_6 : decode cX11_refusalOfRow 6 = .ok (.iconst 0, 1) := by decide +kernel
theorem dX11_refusalOfRow_7 : decode cX11_refusalOfRow 7 = .ok (.iconst 3, 1) := by decide +kernel
theorem dX11_refusalOfRow_8 : decode cX11_refusalOfRow 8 = .ok (.invokestatic 113, 3) := by decide +kernel
theorem dX11_refusalOfRow_11 : decode cX11_refusalOfRow 11 = .ok (.ifCond .ne 5, 3) := by decide +kernel
theorem dX11_refusalOfRow_14 : decode cX11_refusalOfRow 14 = .ok (.iconst (-1), 1) := by decide +kernel
theorem dX11_refusalOfRow_15 : decode cX11_refusalOfRow 15 = .ok (.ireturn, 1) := by decide +kernel
theorem dX11_refusalOfRow_16 : decode cX11_refusalOfRow 16 = .ok (.iload_n 2, 1) := by decide +kernel
theorem dX11_refusalOfRow_17 : decode cX11_refusalOfRow 17 = .ok (.iconst 0, 1) := by decide +kernel
theorem dX11_refusalOfRow_18 : decode cX11_refusalOfRow 18 = .ok (.iconst 3, 1) := by decide +kernel
theorem dX11_refusalOfRow_19 : decode cX11_refusalOfRow 19 = .ok (.invokestatic 113, 3) := by decide +kernel
theorem dX11_refusalOfRow_22 : decode cX11_refusalOfRow 22 = .ok (.ifCond .ne 6, 3) := by decide +kernel
theorem dX11_refusalOfRow_25 : decode cX11_refusalOfRow 25 = .ok (.bipush (-2), 2) := by decide +kernel
theorem dX11_refusalOfRow_27 : decode cX11_refusalOfRow 27 = .ok (.ireturn, 1) := by decide +kernel
theorem dX11_refusalOfRow_28 : decode cX11_refusalOfRow 28 = .ok (.aload_n 0, 1) := by decide +kernel
theorem dX11_refusalOfRow_29 : decode cX11_refusalOfRow 29 = .ok (.getfield 97, 3) := by decide +kernel
theorem dX11_refusalOfRow_32 : decode cX11_refusalOfRow 32 = .ok (.iload_n 1, 1) := by decide +kernel
theorem dX11_refusalOfRow_33 : decode cX11_refusalOfRow 33 = .ok (.aaload, 1) := by decide +kernel
theorem dX11_refusalOfRow_34 : decode cX11_refusalOfRow 34 = .ok (.invokevirtual 447, 3) := by decide +kernel
theorem dX11_refusalOfRow_37 : decode cX11_refusalOfRow 37 = .ok (.ifCond .eq 9, 3) := by decide +kernel
theorem dX11_refusalOfRow_40 : decode cX11_refusalOfRow 40 = .ok (.aload_n 0, 1) := by decide +kernel
theorem dX11_refusalOfRow_41 : decode cX11_refusalOfRow 41 = .ok (.iconst 1, 1) := by decide +kernel
theorem dX11_refusalOfRow_42 : decode cX11_refusalOfRow 42 = .ok (.invokevirtual 158, 3) := by decide +kernel
theorem dX11_refusalOfRow_45 : decode cX11_refusalOfRow 45 = .ok (.ireturn, 1) := by decide +kernel
theorem dX11_refusalOfRow_46 : decode cX11_refusalOfRow 46 = .ok (.aload_n 0, 1) := by decide +kernel
theorem dX11_refusalOfRow_47 : decode cX11_refusalOfRow 47 = .ok (.getfield 97, 3) := by decide +kernel
theorem dX11_refusalOfRow_50 : decode cX11_refusalOfRow 50 = .ok (.iload_n 1, 1) := by decide +kernel
theorem dX11_refusalOfRow_51 : decode cX11_refusalOfRow 51 = .ok (.aaload, 1) := by decide +kernel
theorem dX11_refusalOfRow_52 : decode cX11_refusalOfRow 52 = .ok (.getfield 460, 3) := by decide +kernel
theorem dX11_refusalOfRow_55 : decode cX11_refusalOfRow 55 = .ok (.iload_n 2, 1) := by decide +kernel
theorem dX11_refusalOfRow_56 : decode cX11_refusalOfRow 56 = .ok (.if_icmp .ne 7, 3) := by decide +kernel
theorem dX11_refusalOfRow_59 : decode cX11_refusalOfRow 59 = .ok (.iconst 0, 1) := by decide +kernel
theorem dX11_refusalOfRow_60 : decode cX11_refusalOfRow 60 = .ok (.goto 8, 3) := by decide +kernel
theorem dX11_refusalOfRow_63 : decode cX11_refusalOfRow 63 = .ok (.aload_n 0, 1) := by decide +kernel
theorem dX11_refusalOfRow_64 : decode cX11_refusalOfRow 64 = .ok (.iconst 2, 1) := by decide +kernel
theorem dX11_refusalOfRow_65 : decode cX11_refusalOfRow 65 = .ok (.invokevirtual 158, 3) := by decide +kernel
theorem dX11_refusalOfRow_68 : decode cX11_refusalOfRow 68 = .ok (.ireturn, 1) := by decide +kernel
theorem dX11_sheet_0 : decode cX11_sheet 0 = .ok (.aload_n 0, 1) := by decide +kernel
theorem dX11_sheet_1 : decode cX11_sheet 1 = .ok (.iconst 0, 1) := by decide +kernel
theorem dX11_sheet_2 : decode cX11_sheet 2 = .ok (.putfield 109, 3) := by decide +kernel
theorem dX11_sheet_5 : decode cX11_sheet 5 = .ok (.iload_n 1, 1) := by decide +kernel
theorem dX11_sheet_6 : decode cX11_sheet 6 = .ok (.iconst 0, 1) := by decide +kernel
theorem dX11_sheet_7 : decode cX11_sheet 7 = .ok (.iconst 3, 1) := by decide +kernel
theorem dX11_sheet_8 : decode cX11_sheet 8 = .ok (.invokestatic 113, 3) := by decide +kernel
theorem dX11_sheet_11 : decode cX11_sheet 11 = .ok (.ifCond .ne 5, 3) := by decide +kernel
theorem dX11_sheet_14 : decode cX11_sheet 14 = .ok (.iconst (-1), 1) := by decide +kernel
theorem dX11_sheet_15 : decode cX11_sheet 15 = .ok (.ireturn, 1) := by decide +kernel
theorem dX11_sheet_16 : decode cX11_sheet 16 = .ok (.iload_n 2, 1) := by decide +kernel
theorem dX11_sheet_17 : decode cX11_sheet 17 = .ok (.iconst 0, 1) := by decide +kernel
theorem dX11_sheet_18 : decode cX11_sheet 18 = .ok (.iconst 3, 1) := by decide +kernel
theorem dX11_sheet_19 : decode cX11_sheet 19 = .ok (.invokestatic 113, 3) := by decide +kernel
theorem dX11_sheet_22 : decode cX11_sheet 22 = .ok (.ifCond .eq 9, 3) := by decide +kernel
theorem dX11_sheet_25 : decode cX11_sheet 25 = .ok (.iload_n 3, 1) := by decide +kernel
theorem dX11_sheet_26 : decode cX11_sheet 26 = .ok (.bipush 64, 2) := by decide +kernel
theorem dX11_sheet_28 : decode cX11_sheet 28 = .ok (.if_icmp .le 6, 3) := by decide +kernel
theorem dX11_sheet_31 : decode cX11_sheet 31 = .ok (.bipush (-2), 2) := by decide +kernel
theorem dX11_sheet_33 : decode cX11_sheet 33 = .ok (.ireturn, 1) := by decide +kernel
theorem dX11_sheet_34 : decode cX11_sheet 34 = .ok (.iload_n 3, 1) := by decide +kernel
theorem dX11_sheet_35 : decode cX11_sheet 35 = .ok (.ifCond .ge 9, 3) := by decide +kernel
theorem dX11_sheet_38 : decode cX11_sheet 38 = .ok (.aload_n 0, 1) := by decide +kernel
theorem dX11_sheet_39 : decode cX11_sheet 39 = .ok (.iconst 4, 1) := by decide +kernel
theorem dX11_sheet_40 : decode cX11_sheet 40 = .ok (.invokevirtual 158, 3) := by decide +kernel
theorem dX11_sheet_43 : decode cX11_sheet 43 = .ok (.ireturn, 1) := by decide +kernel
theorem dX11_sheet_44 : decode cX11_sheet 44 = .ok (.aload_n 0, 1) := by decide +kernel
theorem dX11_sheet_45 : decode cX11_sheet 45 = .ok (.getfield 97, 3) := by decide +kernel
theorem dX11_sheet_48 : decode cX11_sheet 48 = .ok (.iload_n 1, 1) := by decide +kernel
theorem dX11_sheet_49 : decode cX11_sheet 49 = .ok (.aaload, 1) := by decide +kernel
theorem dX11_sheet_50 : decode cX11_sheet 50 = .ok (.iload_n 2, 1) := by decide +kernel
theorem dX11_sheet_51 : decode cX11_sheet 51 = .ok (.iload_n 3, 1) := by decide +kernel
theorem dX11_sheet_52 : decode cX11_sheet 52 = .ok (.invokevirtual 444, 3) := by decide +kernel
theorem dX11_sheet_55 : decode cX11_sheet 55 = .ok (.iconst 1, 1) := by decide +kernel
theorem dX11_sheet_56 : decode cX11_sheet 56 = .ok (.ireturn, 1) := by decide +kernel
theorem dX11_sure_0 : decode cX11_sure 0 = .ok (.aload_n 0, 1) := by decide +kernel
theorem dX11_sure_1 : decode cX11_sure 1 = .ok (.getfield 12, 3) := by decide +kernel
theorem dX11_sure_4 : decode cX11_sure 4 = .ok (.iload_n 1, 1) := by decide +kernel
theorem dX11_sure_5 : decode cX11_sure 5 = .ok (.invokevirtual 182, 3) := by decide +kernel
theorem dX11_sure_8 : decode cX11_sure 8 = .ok (.ifCond .ne 5, 3) := by decide +kernel
theorem dX11_sure_11 : decode cX11_sure 11 = .ok (.iconst (-1), 1) := by decide +kernel
theorem dX11_sure_12 : decode cX11_sure 12 = .ok (.ireturn, 1) := by decide +kernel
theorem dX11_sure_13 : decode cX11_sure 13 = .ok (.aload_n 0, 1) := by decide +kernel
theorem dX11_sure_14 : decode cX11_sure 14 = .ok (.iload_n 1, 1) := by decide +kernel
theorem dX11_sure_15 : decode cX11_sure 15 = .ok (.invokevirtual 297, 3) := by decide +kernel
theorem dX11_sure_18 : decode cX11_sure 18 = .ok (.ifCond .eq 8, 3) := by decide +kernel
theorem dX11_sure_21 : decode cX11_sure 21 = .ok (.bipush (-6), 2) := by decide +kernel
theorem dX11_sure_23 : decode cX11_sure 23 = .ok (.goto 18, 3) := by decide +kernel
theorem dX11_sure_26 : decode cX11_sure 26 = .ok (.aload_n 0, 1) := by decide +kernel
theorem dX11_sure_27 : decode cX11_sure 27 = .ok (.getfield 48, 3) := by decide +kernel
theorem dX11_sure_30 : decode cX11_sure 30 = .ok (.aload_n 0, 1) := by decide +kernel
theorem dX11_sure_31 : decode cX11_sure 31 = .ok (.getfield 48, 3) := by decide +kernel
theorem dX11_sure_34 : decode cX11_sure 34 = .ok (.iload_n 1, 1) := by decide +kernel
theorem dX11_sure_35 : decode cX11_sure 35 = .ok (.invokevirtual 306, 3) := by decide +kernel
theorem dX11_sure_38 : decode cX11_sure 38 = .ok (.invokevirtual 312, 3) := by decide +kernel
theorem dX11_sure_41 : decode cX11_sure 41 = .ok (.ireturn, 1) := by decide +kernel
theorem dX11_take_0 : decode cX11_take 0 = .ok (.aload_n 0, 1) := by decide +kernel
theorem dX11_take_1 : decode cX11_take 1 = .ok (.getfield 12, 3) := by decide +kernel
theorem dX11_take_4 : decode cX11_take 4 = .ok (.iload_n 1, 1) := by decide +kernel
theorem dX11_take_5 : decode cX11_take 5 = .ok (.invokevirtual 182, 3) := by decide +kernel
theorem dX11_take_8 : decode cX11_take 8 = .ok (.ifCond .eq 7, 3) := by decide +kernel
theorem dX11_take_11 : decode cX11_take 11 = .ok (.iload_n 2, 1) := by decide +kernel
theorem dX11_take_12 : decode cX11_take 12 = .ok (.ifCond .ge 5, 3) := by decide +kernel
theorem dX11_take_15 : decode cX11_take 15 = .ok (.iconst (-1), 1) := by decide +kernel
theorem dX11_take_16 : decode cX11_take 16 = .ok (.ireturn, 1) := by decide +kernel
theorem dX11_take_17 : decode cX11_take 17 = .ok (.aload_n 0, 1) := by decide +kernel
theorem dX11_take_18 : decode cX11_take 18 = .ok (.iload_n 1, 1) := by decide +kernel
theorem dX11_take_19 : decode cX11_take 19 = .ok (.invokevirtual 297, 3) := by decide +kernel
theorem dX11_take_22 : decode cX11_take 22 = .ok (.ifCond .eq 6, 3) := by decide +kernel
theorem dX11_take_25 : decode cX11_take 25 = .ok (.bipush (-6), 2) := by decide +kernel
theorem dX11_take_27 : decode cX11_take 27 = .ok (.ireturn, 1) := by decide +kernel
theorem dX11_take_28 : decode cX11_take 28 = .ok (.iload_n 2, 1) := by decide +kernel
theorem dX11_take_29 : decode cX11_take 29 = .ok (.aload_n 0, 1) := by decide +kernel
theorem dX11_take_30 : decode cX11_take 30 = .ok (.getfield 48, 3) := by decide +kernel
theorem dX11_take_33 : decode cX11_take 33 = .ok (.getfield 303, 3) := by decide +kernel
theorem dX11_take_36 : decode cX11_take 36 = .ok (.if_icmp .lt 5, 3) := by decide +kernel
theorem dX11_take_39 : decode cX11_take 39 = .ok (.iconst (-1), 1) := by decide +kernel
theorem dX11_take_40 : decode cX11_take 40 = .ok (.ireturn, 1) := by decide +kernel
theorem dX11_take_41 : decode cX11_take 41 = .ok (.iconst 0, 1) := by decide +kernel
theorem dX11_take_42 : decode cX11_take 42 = .ok (.istore_n 3, 1) := by decide +kernel
theorem dX11_take_43 : decode cX11_take 43 = .ok (.iload_n 3, 1) := by decide +kernel
theorem dX11_take_44 : decode cX11_take 44 = .ok (.aload_n 0, 1) := by decide +kernel
theorem dX11_take_45 : decode cX11_take 45 = .ok (.getfield 48, 3) := by decide +kernel
theorem dX11_take_48 : decode cX11_take 48 = .ok (.getfield 335, 3) := by decide +kernel
theorem dX11_take_51 : decode cX11_take 51 = .ok (.if_icmp .ge 35, 3) := by decide +kernel
theorem dX11_take_54 : decode cX11_take 54 = .ok (.aload_n 0, 1) := by decide +kernel
theorem dX11_take_55 : decode cX11_take 55 = .ok (.getfield 12, 3) := by decide +kernel
theorem dX11_take_58 : decode cX11_take 58 = .ok (.getfield 225, 3) := by decide +kernel
theorem dX11_take_61 : decode cX11_take 61 = .ok (.aload_n 0, 1) := by decide +kernel
theorem dX11_take_62 : decode cX11_take 62 = .ok (.getfield 48, 3) := by decide +kernel
theorem dX11_take_65 : decode cX11_take 65 = .ok (.getfield 329, 3) := by decide +kernel
theorem dX11_take_68 : decode cX11_take 68 = .ok (.iload_n 3, 1) := by decide +kernel
theorem dX11_take_69 : decode cX11_take 69 = .ok (.iaload, 1) := by decide +kernel
theorem dX11_take_70 : decode cX11_take 70 = .ok (.aload_n 0, 1) := by decide +kernel
theorem dX11_take_71 : decode cX11_take 71 = .ok (.getfield 48, 3) := by decide +kernel
theorem dX11_take_74 : decode cX11_take 74 = .ok (.iload_n 2, 1) := by decide +kernel
theorem dX11_take_75 : decode cX11_take 75 = .ok (.iload_n 3, 1) := by decide +kernel
theorem dX11_take_76 : decode cX11_take 76 = .ok (.invokevirtual 309, 3) := by decide +kernel
theorem dX11_take_79 : decode cX11_take 79 = .ok (.iastore, 1) := by decide +kernel
theorem dX11_take_80 : decode cX11_take 80 = .ok (.iinc 3 1, 3) := by decide +kernel
theorem dX11_take_83 : decode cX11_take 83 = .ok (.goto (-40), 3) := by decide +kernel
theorem dX11_take_86 : decode cX11_take 86 = .ok (.aload_n 0, 1) := by decide +kernel
theorem dX11_take_87 : decode cX11_take 87 = .ok (.getfield 48, 3) := by decide +kernel
theorem dX11_take_90 : decode cX11_take 90 = .ok (.getfield 335, 3) := by decide +kernel
theorem dX11_take_93 : decode cX11_take 93 = .ok (.ireturn, 1) := by decide +kernel
theorem dX11_tell_0 : decode cX11_tell 0 = .ok (.aload_n 0, 1) := by decide +kernel
theorem dX11_tell_1 : decode cX11_tell 1 = .ok (.iload_n 1, 1) := by decide +kernel
theorem dX11_tell_2 : decode cX11_tell 2 = .ok (.iload_n 2, 1) := by decide +kernel
theorem dX11_tell_3 : decode cX11_tell 3 = .ok (.invokevirtual 428, 3) := by decide +kernel
theorem dX11_tell_6 : decode cX11_tell 6 = .ok (.istore_n 3, 1) := by decide +kernel
theorem dX11_tell_7 : decode cX11_tell 7 = .ok (.iload_n 3, 1) := by decide +kernel
theorem dX11_tell_8 : decode cX11_tell 8 = .ok (.ifCond .eq 5, 3) := by decide +kernel
theorem dX11_tell_11 : decode cX11_tell 11 = .ok (.iload_n 3, 1) := by decide +kernel
theorem dX11_tell_12 : decode cX11_tell 12 = .ok (.ireturn, 1) := by decide +kernel
theorem dX11_tell_13 : decode cX11_tell 13 = .ok (.iload_n 2, 1) := by decide +kernel
theorem dX11_tell_14 : decode cX11_tell 14 = .ok (.ifCond .ne 19, 3) := by decide +kernel
theorem dX11_tell_17 : decode cX11_tell 17 = .ok (.aload_n 0, 1) := by decide +kernel
theorem dX11_tell_18 : decode cX11_tell 18 = .ok (.getfield 71, 3) := by decide +kernel
theorem dX11_tell_21 : decode cX11_tell 21 = .ok (.aload_n 0, 1) := by decide +kernel
theorem dX11_tell_22 : decode cX11_tell 22 = .ok (.getfield 85, 3) := by decide +kernel
theorem dX11_tell_25 : decode cX11_tell 25 = .ok (.iload_n 1, 1) := by decide +kernel
theorem dX11_tell_26 : decode cX11_tell 26 = .ok (.aaload, 1) := by decide +kernel
theorem dX11_tell_27 : decode cX11_tell 27 = .ok (.invokevirtual 431, 3) := by decide +kernel
theorem dX11_tell_30 : decode cX11_tell 30 = .ok (.goto 16, 3) := by decide +kernel
theorem dX11_tell_33 : decode cX11_tell 33 = .ok (.aload_n 0, 1) := by decide +kernel
theorem dX11_tell_34 : decode cX11_tell 34 = .ok (.getfield 71, 3) := by decide +kernel
theorem dX11_tell_37 : decode cX11_tell 37 = .ok (.aload_n 0, 1) := by decide +kernel
theorem dX11_tell_38 : decode cX11_tell 38 = .ok (.getfield 91, 3) := by decide +kernel
theorem dX11_tell_41 : decode cX11_tell 41 = .ok (.iload_n 1, 1) := by decide +kernel
theorem dX11_tell_42 : decode cX11_tell 42 = .ok (.aaload, 1) := by decide +kernel
theorem dX11_tell_43 : decode cX11_tell 43 = .ok (.invokevirtual 435, 3) := by decide +kernel
theorem dX11_tell_46 : decode cX11_tell 46 = .ok (.ireturn, 1) := by decide +kernel
theorem dX11_thing_0 : decode cX11_thing 0 = .ok (.iload_n 1, 1) := by decide +kernel
theorem dX11_thing_1 : decode cX11_thing 1 = .ok (.iconst 0, 1) := by decide +kernel
theorem dX11_thing_2 : decode cX11_thing 2 = .ok (.iconst 2, 1) := by decide +kernel
theorem dX11_thing_3 : decode cX11_thing 3 = .ok (.invokestatic 113, 3) := by decide +kernel
theorem dX11_thing_6 : decode cX11_thing 6 = .ok (.ifCond .ne 6, 3) := by decide +kernel
theorem dX11_thing_9 : decode cX11_thing 9 = .ok (.bipush (-2), 2) := by decide +kernel
theorem dX11_thing_11 : decode cX11_thing 11 = .ok (.ireturn, 1) := by decide +kernel
theorem dX11_thing_12 : decode cX11_thing 12 = .ok (.iload_n 1, 1) := by decide +kernel
theorem dX11_thing_13 : decode cX11_thing 13 = .ok (.ifCond .eq 16, 3) := by decide +kernel
theorem dX11_thing_16 : decode cX11_thing 16 = .ok (.aload_n 0, 1) := by decide +kernel
theorem dX11_thing_17 : decode cX11_thing 17 = .ok (.getfield 12, 3) := by decide +kernel
theorem dX11_thing_20 : decode cX11_thing 20 = .ok (.iload_n 2, 1) := by decide +kernel
theorem dX11_thing_21 : decode cX11_thing 21 = .ok (.invokevirtual 124, 3) := by decide +kernel
theorem dX11_thing_24 : decode cX11_thing 24 = .ok (.ifCond .ne 5, 3) := by decide +kernel
theorem dX11_thing_27 : decode cX11_thing 27 = .ok (.iconst (-1), 1) := by decide +kernel
theorem dX11_thing_28 : decode cX11_thing 28 = .ok (.ireturn, 1) := by decide +kernel
theorem dX11_thing_29 : decode cX11_thing 29 = .ok (.iload_n 1, 1) := by decide +kernel
theorem dX11_thing_30 : decode cX11_thing 30 = .ok (.ifCond .eq 20, 3) := by decide +kernel
theorem dX11_thing_33 : decode cX11_thing 33 = .ok (.aload_n 0, 1) := by decide +kernel
theorem dX11_thing_34 : decode cX11_thing 34 = .ok (.getfield 12, 3) := by decide +kernel
theorem dX11_thing_37 : decode cX11_thing 37 = .ok (.getfield 136, 3) := by decide +kernel
theorem dX11_thing_40 : decode cX11_thing 40 = .ok (.iload_n 2, 1) := by decide +kernel
theorem dX11_thing_41 : decode cX11_thing 41 = .ok (.invokestatic 132, 3) := by decide +kernel
theorem dX11_thing_44 : decode cX11_thing 44 = .ok (.ifCond .ne 6, 3) := by decide +kernel
theorem dX11_thing_47 : decode cX11_thing 47 = .ok (.bipush (-3), 2) := by decide +kernel
theorem dX11_thing_49 : decode cX11_thing 49 = .ok (.ireturn, 1) := by decide +kernel
theorem dX11_thing_50 : decode cX11_thing 50 = .ok (.aload_n 0, 1) := by decide +kernel
theorem dX11_thing_51 : decode cX11_thing 51 = .ok (.getfield 12, 3) := by decide +kernel
theorem dX11_thing_54 : decode cX11_thing 54 = .ok (.getfield 172, 3) := by decide +kernel
theorem dX11_thing_57 : decode cX11_thing 57 = .ok (.bipush 24, 2) := by decide +kernel
theorem dX11_thing_59 : decode cX11_thing 59 = .ok (.if_icmp .lt 6, 3) := by decide +kernel
theorem dX11_thing_62 : decode cX11_thing 62 = .ok (.bipush (-4), 2) := by decide +kernel
theorem dX11_thing_64 : decode cX11_thing 64 = .ok (.ireturn, 1) := by decide +kernel
theorem dX11_thing_65 : decode cX11_thing 65 = .ok (.aload_n 0, 1) := by decide +kernel
theorem dX11_thing_66 : decode cX11_thing 66 = .ok (.getfield 12, 3) := by decide +kernel
theorem dX11_thing_69 : decode cX11_thing 69 = .ok (.iload_n 1, 1) := by decide +kernel
theorem dX11_thing_70 : decode cX11_thing 70 = .ok (.iload_n 1, 1) := by decide +kernel
theorem dX11_thing_71 : decode cX11_thing 71 = .ok (.ifCond .ne 8, 3) := by decide +kernel
theorem dX11_thing_74 : decode cX11_thing 74 = .ok (.bipush (-9), 2) := by decide +kernel
theorem dX11_thing_76 : decode cX11_thing 76 = .ok (.goto 4, 3) := by decide +kernel
theorem dX11_thing_79 : decode cX11_thing 79 = .ok (.iload_n 2, 1) := by decide +kernel
theorem dX11_thing_80 : decode cX11_thing 80 = .ok (.bipush (-9), 2) := by decide +kernel
theorem dX11_thing_82 : decode cX11_thing 82 = .ok (.bipush (-9), 2) := by decide +kernel
theorem dX11_thing_84 : decode cX11_thing 84 = .ok (.invokevirtual 175, 3) := by decide +kernel
theorem dX11_thing_87 : decode cX11_thing 87 = .ok (.istore_n 3, 1) := by decide +kernel
theorem dX11_thing_88 : decode cX11_thing 88 = .ok (.aload_n 0, 1) := by decide +kernel
theorem dX11_thing_89 : decode cX11_thing 89 = .ok (.invokevirtual 179, 3) := by decide +kernel
theorem dX11_thing_92 : decode cX11_thing 92 = .ok (.iload_n 3, 1) := by decide +kernel
theorem dX11_thing_93 : decode cX11_thing 93 = .ok (.ireturn, 1) := by decide +kernel
theorem dX11_tick_0 : decode cX11_tick 0 = .ok (.aload_n 0, 1) := by decide +kernel
theorem dX11_tick_1 : decode cX11_tick 1 = .ok (.getfield 12, 3) := by decide +kernel
theorem dX11_tick_4 : decode cX11_tick 4 = .ok (.iload_n 1, 1) := by decide +kernel
theorem dX11_tick_5 : decode cX11_tick 5 = .ok (.iload_n 2, 1) := by decide +kernel
theorem dX11_tick_6 : decode cX11_tick 6 = .ok (.invokevirtual 381, 3) := by decide +kernel
theorem dX11_tick_9 : decode cX11_tick 9 = .ok (.ifCond .eq 17, 3) := by decide +kernel
theorem dX11_tick_12 : decode cX11_tick 12 = .ok (.aload_n 0, 1) := by decide +kernel
theorem dX11_tick_13 : decode cX11_tick 13 = .ok (.getfield 12, 3) := by decide +kernel
theorem dX11_tick_16 : decode cX11_tick 16 = .ok (.getfield 384, 3) := by decide +kernel
theorem dX11_tick_19 : decode cX11_tick 19 = .ok (.iload_n 1, 1) := by decide +kernel
theorem dX11_tick_20 : decode cX11_tick 20 = .ok (.iaload, 1) := by decide +kernel
theorem dX11_tick_21 : decode cX11_tick 21 = .ok (.iload_n 2, 1) := by decide +kernel
theorem dX11_tick_22 : decode cX11_tick 22 = .ok (.iadd, 1) := by decide +kernel
theorem dX11_tick_23 : decode cX11_tick 23 = .ok (.goto 4, 3) := by decide +kernel
theorem dX11_tick_26 : decode cX11_tick 26 = .ok (.iconst (-1), 1) := by decide +kernel
theorem dX11_tick_27 : decode cX11_tick 27 = .ok (.ireturn, 1) := by decide +kernel
theorem dX11_together_0 : decode cX11_together 0 = .ok (.aload_n 0, 1) := by decide +kernel
theorem dX11_together_1 : decode cX11_together 1 = .ok (.getfield 12, 3) := by decide +kernel
theorem dX11_together_4 : decode cX11_together 4 = .ok (.iload_n 1, 1) := by decide +kernel
theorem dX11_together_5 : decode cX11_together 5 = .ok (.invokevirtual 182, 3) := by decide +kernel
theorem dX11_together_8 : decode cX11_together 8 = .ok (.ifCond .eq 37, 3) := by decide +kernel
theorem dX11_together_11 : decode cX11_together 11 = .ok (.aload_n 0, 1) := by decide +kernel
theorem dX11_together_12 : decode cX11_together 12 = .ok (.getfield 12, 3) := by decide +kernel
theorem dX11_together_15 : decode cX11_together 15 = .ok (.iload_n 3, 1) := by decide +kernel
theorem dX11_together_16 : decode cX11_together 16 = .ok (.invokevirtual 182, 3) := by decide +kernel
theorem dX11_together_19 : decode cX11_together 19 = .ok (.ifCond .eq 26, 3) := by decide +kernel
theorem dX11_together_22 : decode cX11_together 22 = .ok (.aload_n 0, 1) := by decide +kernel
theorem dX11_together_23 : decode cX11_together 23 = .ok (.getfield 12, 3) := by decide +kernel
theorem dX11_together_26 : decode cX11_together 26 = .ok (.iload_n 2, 1) := by decide +kernel
theorem dX11_together_27 : decode cX11_together 27 = .ok (.invokevirtual 124, 3) := by decide +kernel
theorem dX11_together_30 : decode cX11_together 30 = .ok (.ifCond .eq 15, 3) := by decide +kernel
theorem dX11_together_33 : decode cX11_together 33 = .ok (.aload_n 0, 1) := by decide +kernel
theorem dX11_together_34 : decode cX11_together 34 = .ok (.getfield 12, 3) := by decide +kernel
theorem dX11_together_37 : decode cX11_together 37 = .ok (.iload 4, 2) := by decide +kernel
theorem dX11_together_39 : decode cX11_together 39 = .ok (.invokevirtual 124, 3) := by decide +kernel
theorem dX11_together_42 : decode cX11_together 42 = .ok (.ifCond .ne 5, 3) := by decide +kernel
theorem dX11_together_45 : decode cX11_together 45 = .ok (.iconst (-1), 1) := by decide +kernel
theorem dX11_together_46 : decode cX11_together 46 = .ok (.ireturn, 1) := by decide +kernel
theorem dX11_together_47 : decode cX11_together 47 = .ok (.aload_n 0, 1) := by decide +kernel
theorem dX11_together_48 : decode cX11_together 48 = .ok (.iload_n 1, 1) := by decide +kernel
theorem dX11_together_49 : decode cX11_together 49 = .ok (.invokevirtual 297, 3) := by decide +kernel
theorem dX11_together_52 : decode cX11_together 52 = .ok (.ifCond .eq 6, 3) := by decide +kernel
theorem dX11_together_55 : decode cX11_together 55 = .ok (.bipush (-6), 2) := by decide +kernel
theorem dX11_together_57 : decode cX11_together 57 = .ok (.ireturn, 1) := by decide +kernel
theorem dX11_together_58 : decode cX11_together 58 = .ok (.aload_n 0, 1) := by decide +kernel
theorem dX11_together_59 : decode cX11_together 59 = .ok (.getfield 48, 3) := by decide +kernel
theorem dX11_together_62 : decode cX11_together 62 = .ok (.iload_n 3, 1) := by decide +kernel
theorem dX11_together_63 : decode cX11_together 63 = .ok (.invokevirtual 306, 3) := by decide +kernel
theorem dX11_together_66 : decode cX11_together 66 = .ok (.bipush (-9), 2) := by decide +kernel
theorem dX11_together_68 : decode cX11_together 68 = .ok (.if_icmp .eq 38, 3) := by decide +kernel
theorem dX11_together_71 : decode cX11_together 71 = .ok (.aload_n 0, 1) := by decide +kernel
theorem dX11_together_72 : decode cX11_together 72 = .ok (.getfield 48, 3) := by decide +kernel
theorem dX11_together_75 : decode cX11_together 75 = .ok (.aload_n 0, 1) := by decide +kernel
theorem dX11_together_76 : decode cX11_together 76 = .ok (.getfield 48, 3) := by decide +kernel
theorem dX11_together_79 : decode cX11_together 79 = .ok (.iload_n 1, 1) := by decide +kernel
theorem dX11_together_80 : decode cX11_together 80 = .ok (.invokevirtual 306, 3) := by decide +kernel
theorem dX11_together_83 : decode cX11_together 83 = .ok (.iload_n 2, 1) := by decide +kernel
theorem dX11_together_84 : decode cX11_together 84 = .ok (.aload_n 0, 1) := by decide +kernel
theorem dX11_together_85 : decode cX11_together 85 = .ok (.getfield 48, 3) := by decide +kernel
theorem dX11_together_88 : decode cX11_together 88 = .ok (.iload_n 3, 1) := by decide +kernel
theorem dX11_together_89 : decode cX11_together 89 = .ok (.invokevirtual 306, 3) := by decide +kernel
theorem dX11_together_92 : decode cX11_together 92 = .ok (.iload 4, 2) := by decide +kernel
theorem dX11_together_94 : decode cX11_together 94 = .ok (.invokevirtual 318, 3) := by decide +kernel
theorem dX11_together_97 : decode cX11_together 97 = .ok (.ifCond .eq 7, 3) := by decide +kernel
theorem dX11_together_100 : decode cX11_together 100 = .ok (.iconst 1, 1) := by decide +kernel
theorem dX11_together_101 : decode cX11_together 101 = .ok (.goto 4, 3) := by decide +kernel
theorem dX11_together_104 : decode cX11_together 104 = .ok (.iconst 0, 1) := by decide +kernel
theorem dX11_together_105 : decode cX11_together 105 = .ok (.ireturn, 1) := by decide +kernel
theorem dX11_together_106 : decode cX11_together 106 = .ok (.aload_n 0, 1) := by decide +kernel
theorem dX11_together_107 : decode cX11_together 107 = .ok (.getfield 48, 3) := by decide +kernel
theorem dX11_together_110 : decode cX11_together 110 = .ok (.aload_n 0, 1) := by decide +kernel
theorem dX11_together_111 : decode cX11_together 111 = .ok (.getfield 48, 3) := by decide +kernel
theorem dX11_together_114 : decode cX11_together 114 = .ok (.iload_n 1, 1) := by decide +kernel
theorem dX11_together_115 : decode cX11_together 115 = .ok (.invokevirtual 306, 3) := by decide +kernel
theorem dX11_together_118 : decode cX11_together 118 = .ok (.iload_n 2, 1) := by decide +kernel
theorem dX11_together_119 : decode cX11_together 119 = .ok (.invokevirtual 322, 3) := by decide +kernel
theorem dX11_together_122 : decode cX11_together 122 = .ok (.istore 5, 2) := by decide +kernel
theorem dX11_together_124 : decode cX11_together 124 = .ok (.aload_n 0, 1) := by decide +kernel
theorem dX11_together_125 : decode cX11_together 125 = .ok (.iload_n 3, 1) := by decide +kernel
theorem dX11_together_126 : decode cX11_together 126 = .ok (.invokevirtual 297, 3) := by decide +kernel
theorem dX11_together_129 : decode cX11_together 129 = .ok (.ifCond .eq 6, 3) := by decide +kernel
theorem dX11_together_132 : decode cX11_together 132 = .ok (.bipush (-6), 2) := by decide +kernel
theorem dX11_together_134 : decode cX11_together 134 = .ok (.ireturn, 1) := by decide +kernel
theorem dX11_together_135 : decode cX11_together 135 = .ok (.iload 5, 2) := by decide +kernel
theorem dX11_together_137 : decode cX11_together 137 = .ok (.ifCond .eq 27, 3) := by decide +kernel
theorem dX11_together_140 : decode cX11_together 140 = .ok (.aload_n 0, 1) := by decide +kernel
theorem dX11_together_141 : decode cX11_together 141 = .ok (.getfield 48, 3) := by decide +kernel
theorem dX11_together_144 : decode cX11_together 144 = .ok (.aload_n 0, 1) := by decide +kernel
theorem dX11_together_145 : decode cX11_together 145 = .ok (.getfield 48, 3) := by decide +kernel
theorem dX11_together_148 : decode cX11_together 148 = .ok (.iload_n 3, 1) := by decide +kernel
theorem dX11_together_149 : decode cX11_together 149 = .ok (.invokevirtual 306, 3) := by decide +kernel
theorem dX11_together_152 : decode cX11_together 152 = .ok (.iload 4, 2) := by decide +kernel
theorem dX11_together_154 : decode cX11_together 154 = .ok (.invokevirtual 322, 3) := by decide +kernel
theorem dX11_together_157 : decode cX11_together 157 = .ok (.ifCond .eq 7, 3) := by decide +kernel
theorem dX11_together_160 : decode cX11_together 160 = .ok (.iconst 1, 1) := by decide +kernel
theorem dX11_together_161 : decode cX11_together 161 = .ok (.goto 4, 3) := by decide +kernel
theorem dX11_together_164 : decode cX11_together 164 = .ok (.iconst 0, 1) := by decide +kernel
theorem dX11_together_165 : decode cX11_together 165 = .ok (.ireturn, 1) := by decide +kernel
theorem dX11_told_0 : decode cX11_told 0 = .ok (.aload_n 0, 1) := by decide +kernel
theorem dX11_told_1 : decode cX11_told 1 = .ok (.getfield 12, 3) := by decide +kernel
theorem dX11_told_4 : decode cX11_told 4 = .ok (.iload_n 1, 1) := by decide +kernel
theorem dX11_told_5 : decode cX11_told 5 = .ok (.invokevirtual 256, 3) := by decide +kernel
theorem dX11_told_8 : decode cX11_told 8 = .ok (.ifCond .ne 5, 3) := by decide +kernel
theorem dX11_told_11 : decode cX11_told 11 = .ok (.iconst (-1), 1) := by decide +kernel
theorem dX11_told_12 : decode cX11_told 12 = .ok (.ireturn, 1) := by decide +kernel
theorem dX11_told_13 : decode cX11_told 13 = .ok (.aload_n 0, 1) := by decide +kernel
theorem dX11_told_14 : decode cX11_told 14 = .ok (.getfield 12, 3) := by decide +kernel
theorem dX11_told_17 : decode cX11_told 17 = .ok (.getfield 259, 3) := by decide +kernel
theorem dX11_told_20 : decode cX11_told 20 = .ok (.iload_n 1, 1) := by decide +kernel
theorem dX11_told_21 : decode cX11_told 21 = .ok (.aaload, 1) := by decide +kernel
theorem dX11_told_22 : decode cX11_told 22 = .ok (.astore_n 3, 1) := by decide +kernel
theorem dX11_told_23 : decode cX11_told 23 = .ok (.iload_n 2, 1) := by decide +kernel
theorem dX11_told_24 : decode cX11_told 24 = .ok (.tableswitch 119 0 6 #[44, 49, 54, 59, 64, 69, 89], 44) := by decide +kernel
theorem dX11_told_68 : decode cX11_told 68 = .ok (.aload_n 3, 1) := by decide +kernel
theorem dX11_told_69 : decode cX11_told 69 = .ok (.getfield 262, 3) := by decide +kernel
theorem dX11_told_72 : decode cX11_told 72 = .ok (.ireturn, 1) := by decide +kernel
theorem dX11_told_73 : decode cX11_told 73 = .ok (.aload_n 3, 1) := by decide +kernel
theorem dX11_told_74 : decode cX11_told 74 = .ok (.getfield 263, 3) := by decide +kernel
theorem dX11_told_77 : decode cX11_told 77 = .ok (.ireturn, 1) := by decide +kernel
theorem dX11_told_78 : decode cX11_told 78 = .ok (.aload_n 3, 1) := by decide +kernel
theorem dX11_told_79 : decode cX11_told 79 = .ok (.getfield 266, 3) := by decide +kernel
theorem dX11_told_82 : decode cX11_told 82 = .ok (.ireturn, 1) := by decide +kernel
theorem dX11_told_83 : decode cX11_told 83 = .ok (.aload_n 3, 1) := by decide +kernel
theorem dX11_told_84 : decode cX11_told 84 = .ok (.getfield 269, 3) := by decide +kernel
theorem dX11_told_87 : decode cX11_told 87 = .ok (.ireturn, 1) := by decide +kernel
theorem dX11_told_88 : decode cX11_told 88 = .ok (.aload_n 3, 1) := by decide +kernel
theorem dX11_told_89 : decode cX11_told 89 = .ok (.getfield 272, 3) := by decide +kernel
theorem dX11_told_92 : decode cX11_told 92 = .ok (.ireturn, 1) := by decide +kernel
theorem dX11_told_93 : decode cX11_told 93 = .ok (.aload_n 0, 1) := by decide +kernel
theorem dX11_told_94 : decode cX11_told 94 = .ok (.getfield 12, 3) := by decide +kernel
theorem dX11_told_97 : decode cX11_told 97 = .ok (.getfield 222, 3) := by decide +kernel
theorem dX11_told_100 : decode cX11_told 100 = .ok (.iload_n 1, 1) := by decide +kernel
theorem dX11_told_101 : decode cX11_told 101 = .ok (.invokestatic 132, 3) := by decide +kernel
theorem dX11_told_104 : decode cX11_told 104 = .ok (.ifCond .eq 7, 3) := by decide +kernel
theorem dX11_told_107 : decode cX11_told 107 = .ok (.iconst 1, 1) := by decide +kernel
theorem dX11_told_108 : decode cX11_told 108 = .ok (.goto 4, 3) := by decide +kernel
theorem dX11_told_111 : decode cX11_told 111 = .ok (.iconst 0, 1) := by decide +kernel
theorem dX11_told_112 : decode cX11_told 112 = .ok (.ireturn, 1) := by decide +kernel
theorem dX11_told_113 : decode cX11_told 113 = .ok (.aload_n 0, 1) := by decide +kernel
theorem dX11_told_114 : decode cX11_told 114 = .ok (.invokevirtual 206, 3) := by decide +kernel
theorem dX11_told_117 : decode cX11_told 117 = .ok (.invokevirtual 275, 3) := by decide +kernel
theorem dX11_told_120 : decode cX11_told 120 = .ok (.ifCond .eq 21, 3) := by decide +kernel
theorem dX11_told_123 : decode cX11_told 123 = .ok (.aload_n 0, 1) := by decide +kernel
theorem dX11_told_124 : decode cX11_told 124 = .ok (.getfield 39, 3) := by decide +kernel
theorem dX11_told_127 : decode cX11_told 127 = .ok (.invokevirtual 278, 3) := by decide +kernel
theorem dX11_told_130 : decode cX11_told 130 = .ok (.iload_n 1, 1) := by decide +kernel
theorem dX11_told_131 : decode cX11_told 131 = .ok (.invokestatic 132, 3) := by decide +kernel
theorem dX11_told_134 : decode cX11_told 134 = .ok (.ifCond .eq 7, 3) := by decide +kernel
theorem dX11_told_137 : decode cX11_told 137 = .ok (.iconst 1, 1) := by decide +kernel
theorem dX11_told_138 : decode cX11_told 138 = .ok (.goto 4, 3) := by decide +kernel
theorem dX11_told_141 : decode cX11_told 141 = .ok (.iconst 0, 1) := by decide +kernel
theorem dX11_told_142 : decode cX11_told 142 = .ok (.ireturn, 1) := by decide +kernel
theorem dX11_told_143 : decode cX11_told 143 = .ok (.bipush (-2), 2) := by decide +kernel
theorem dX11_told_145 : decode cX11_told 145 = .ok (.ireturn, 1) := by decide +kernel
theorem dX11_trace_0 : decode cX11_trace 0 = .ok (.aload_n 0, 1) := by decide +kernel
theorem dX11_trace_1 : decode cX11_trace 1 = .ok (.getfield 71, 3) := by decide +kernel
theorem dX11_trace_4 : decode cX11_trace 4 = .ok (.getfield 469, 3) := by decide +kernel
theorem dX11_trace_7 : decode cX11_trace 7 = .ok (.ireturn, 1) := by decide +kernel
theorem dX11_trials_0 : decode cX11_trials 0 = .ok (.aload_n 0, 1) := by decide +kernel
theorem dX11_trials_1 : decode cX11_trials 1 = .ok (.getfield 105, 3) := by decide +kernel
theorem dX11_trials_4 : decode cX11_trials 4 = .ok (.ireturn, 1) := by decide +kernel
theorem dX11_trust_0 : decode cX11_trust 0 = .ok (.aload_n 0, 1) := by decide +kernel
theorem dX11_trust_1 : decode cX11_trust 1 = .ok (.getfield 12, 3) := by decide +kernel
theorem dX11_trust_4 : decode cX11_trust 4 = .ok (.iload_n 1, 1) := by decide +kernel
theorem dX11_trust_5 : decode cX11_trust 5 = .ok (.invokevirtual 182, 3) := by decide +kernel
theorem dX11_trust_8 : decode cX11_trust 8 = .ok (.ifCond .ne 5, 3) := by decide +kernel
theorem dX11_trust_11 : decode cX11_trust 11 = .ok (.iconst (-1), 1) := by decide +kernel
theorem dX11_trust_12 : decode cX11_trust 12 = .ok (.ireturn, 1) := by decide +kernel
theorem dX11_trust_13 : decode cX11_trust 13 = .ok (.aload_n 0, 1) := by decide +kernel
theorem dX11_trust_14 : decode cX11_trust 14 = .ok (.getfield 12, 3) := by decide +kernel
theorem dX11_trust_17 : decode cX11_trust 17 = .ok (.getfield 229, 3) := by decide +kernel
theorem dX11_trust_20 : decode cX11_trust 20 = .ok (.i2l, 1) := by decide +kernel
theorem dX11_trust_21 : decode cX11_trust 21 = .ok (.iload_n 1, 1) := by decide +kernel
theorem dX11_trust_22 : decode cX11_trust 22 = .ok (.invokestatic 132, 3) := by decide +kernel
theorem dX11_trust_25 : decode cX11_trust 25 = .ok (.iload_n 2, 1) := by decide +kernel
theorem dX11_trust_26 : decode cX11_trust 26 = .ok (.if_icmp .ne 5, 3) := by decide +kernel
theorem dX11_trust_29 : decode cX11_trust 29 = .ok (.iconst 0, 1) := by decide +kernel
theorem dX11_trust_30 : decode cX11_trust 30 = .ok (.ireturn, 1) := by decide +kernel
theorem dX11_trust_31 : decode cX11_trust 31 = .ok (.aload_n 0, 1) := by decide +kernel
theorem dX11_trust_32 : decode cX11_trust 32 = .ok (.getfield 12, 3) := by decide +kernel
theorem dX11_trust_35 : decode cX11_trust 35 = .ok (.dup, 1) := by decide +kernel
theorem dX11_trust_36 : decode cX11_trust 36 = .ok (.getfield 229, 3) := by decide +kernel
theorem dX11_trust_39 : decode cX11_trust 39 = .ok (.iconst 1, 1) := by decide +kernel
theorem dX11_trust_40 : decode cX11_trust 40 = .ok (.iload_n 1, 1) := by decide +kernel
theorem dX11_trust_41 : decode cX11_trust 41 = .ok (.ishl, 1) := by decide +kernel
theorem dX11_trust_42 : decode cX11_trust 42 = .ok (.ixor, 1) := by decide +kernel
theorem dX11_trust_43 : decode cX11_trust 43 = .ok (.putfield 229, 3) := by decide +kernel
theorem dX11_trust_46 : decode cX11_trust 46 = .ok (.aload_n 0, 1) := by decide +kernel
theorem dX11_trust_47 : decode cX11_trust 47 = .ok (.getfield 39, 3) := by decide +kernel
theorem dX11_trust_50 : decode cX11_trust 50 = .ok (.invokevirtual 399, 3) := by decide +kernel
theorem dX11_trust_53 : decode cX11_trust 53 = .ok (.iconst 1, 1) := by decide +kernel
theorem dX11_trust_54 : decode cX11_trust 54 = .ok (.ireturn, 1) := by decide +kernel
theorem dX11_turn_0 : decode cX11_turn 0 = .ok (.aload_n 0, 1) := by decide +kernel
theorem dX11_turn_1 : decode cX11_turn 1 = .ok (.getfield 12, 3) := by decide +kernel
theorem dX11_turn_4 : decode cX11_turn 4 = .ok (.iload_n 1, 1) := by decide +kernel
theorem dX11_turn_5 : decode cX11_turn 5 = .ok (.invokevirtual 256, 3) := by decide +kernel
theorem dX11_turn_8 : decode cX11_turn 8 = .ok (.ifCond .ne 5, 3) := by decide +kernel
theorem dX11_turn_11 : decode cX11_turn 11 = .ok (.iconst (-1), 1) := by decide +kernel
theorem dX11_turn_12 : decode cX11_turn 12 = .ok (.ireturn, 1) := by decide +kernel
theorem dX11_turn_13 : decode cX11_turn 13 = .ok (.aload_n 0, 1) := by decide +kernel
theorem dX11_turn_14 : decode cX11_turn 14 = .ok (.getfield 12, 3) := by decide +kernel
theorem dX11_turn_17 : decode cX11_turn 17 = .ok (.getfield 222, 3) := by decide +kernel
theorem dX11_turn_20 : decode cX11_turn 20 = .ok (.iload_n 1, 1) := by decide +kernel
theorem dX11_turn_21 : decode cX11_turn 21 = .ok (.invokestatic 132, 3) := by decide +kernel
theorem dX11_turn_24 : decode cX11_turn 24 = .ok (.iload_n 2, 1) := by decide +kernel
theorem dX11_turn_25 : decode cX11_turn 25 = .ok (.if_icmp .ne 5, 3) := by decide +kernel
theorem dX11_turn_28 : decode cX11_turn 28 = .ok (.iconst 0, 1) := by decide +kernel
theorem dX11_turn_29 : decode cX11_turn 29 = .ok (.ireturn, 1) := by decide +kernel
theorem dX11_turn_30 : decode cX11_turn 30 = .ok (.aload_n 0, 1) := by decide +kernel
theorem dX11_turn_31 : decode cX11_turn 31 = .ok (.getfield 12, 3) := by decide +kernel
theorem dX11_turn_34 : decode cX11_turn 34 = .ok (.dup, 1) := by decide +kernel
theorem dX11_turn_35 : decode cX11_turn 35 = .ok (.getfield 222, 3) := by decide +kernel
theorem dX11_turn_38 : decode cX11_turn 38 = .ok (.iload_n 1, 1) := by decide +kernel
theorem dX11_turn_39 : decode cX11_turn 39 = .ok (.invokestatic 140, 3) := by decide +kernel
theorem dX11_turn_42 : decode cX11_turn 42 = .ok (.lxor, 1) := by decide +kernel
theorem dX11_turn_43 : decode cX11_turn 43 = .ok (.putfield 222, 3) := by decide +kernel
theorem dX11_turn_46 : decode cX11_turn 46 = .ok (.aload_n 0, 1) := by decide +kernel
theorem dX11_turn_47 : decode cX11_turn 47 = .ok (.invokevirtual 179, 3) := by decide +kernel
theorem dX11_turn_50 : decode cX11_turn 50 = .ok (.iconst 1, 1) := by decide +kernel
theorem dX11_turn_51 : decode cX11_turn 51 = .ok (.ireturn, 1) := by decide +kernel
theorem dX11_wall_0 : decode cX11_wall 0 = .ok (.aload_n 0, 1) := by decide +kernel
theorem dX11_wall_1 : decode cX11_wall 1 = .ok (.getfield 12, 3) := by decide +kernel
theorem dX11_wall_4 : decode cX11_wall 4 = .ok (.iload_n 1, 1) := by decide +kernel
theorem dX11_wall_5 : decode cX11_wall 5 = .ok (.invokevirtual 124, 3) := by decide +kernel
theorem dX11_wall_8 : decode cX11_wall 8 = .ok (.ifCond .ne 5, 3) := by decide +kernel
theorem dX11_wall_11 : decode cX11_wall 11 = .ok (.iconst (-1), 1) := by decide +kernel
theorem dX11_wall_12 : decode cX11_wall 12 = .ok (.ireturn, 1) := by decide +kernel
theorem dX11_wall_13 : decode cX11_wall 13 = .ok (.aload_n 0, 1) := by decide +kernel
theorem dX11_wall_14 : decode cX11_wall 14 = .ok (.getfield 12, 3) := by decide +kernel
theorem dX11_wall_17 : decode cX11_wall 17 = .ok (.invokevirtual 128, 3) := by decide +kernel
theorem dX11_wall_20 : decode cX11_wall 20 = .ok (.iload_n 1, 1) := by decide +kernel
theorem dX11_wall_21 : decode cX11_wall 21 = .ok (.invokestatic 132, 3) := by decide +kernel
theorem dX11_wall_24 : decode cX11_wall 24 = .ok (.ifCond .eq 6, 3) := by decide +kernel
theorem dX11_wall_27 : decode cX11_wall 27 = .ok (.bipush (-3), 2) := by decide +kernel
theorem dX11_wall_29 : decode cX11_wall 29 = .ok (.ireturn, 1) := by decide +kernel
theorem dX11_wall_30 : decode cX11_wall 30 = .ok (.aload_n 0, 1) := by decide +kernel
theorem dX11_wall_31 : decode cX11_wall 31 = .ok (.getfield 12, 3) := by decide +kernel
theorem dX11_wall_34 : decode cX11_wall 34 = .ok (.getfield 136, 3) := by decide +kernel
theorem dX11_wall_37 : decode cX11_wall 37 = .ok (.iload_n 1, 1) := by decide +kernel
theorem dX11_wall_38 : decode cX11_wall 38 = .ok (.invokestatic 132, 3) := by decide +kernel
theorem dX11_wall_41 : decode cX11_wall 41 = .ok (.iload_n 2, 1) := by decide +kernel
theorem dX11_wall_42 : decode cX11_wall 42 = .ok (.if_icmp .eq 5, 3) := by decide +kernel
theorem dX11_wall_45 : decode cX11_wall 45 = .ok (.iconst 0, 1) := by decide +kernel
theorem dX11_wall_46 : decode cX11_wall 46 = .ok (.ireturn, 1) := by decide +kernel
theorem dX11_wall_47 : decode cX11_wall 47 = .ok (.aload_n 0, 1) := by decide +kernel
theorem dX11_wall_48 : decode cX11_wall 48 = .ok (.getfield 12, 3) := by decide +kernel
theorem dX11_wall_51 : decode cX11_wall 51 = .ok (.dup, 1) := by decide +kernel
theorem dX11_wall_52 : decode cX11_wall 52 = .ok (.getfield 136, 3) := by decide +kernel
theorem dX11_wall_55 : decode cX11_wall 55 = .ok (.iload_n 1, 1) := by decide +kernel
theorem dX11_wall_56 : decode cX11_wall 56 = .ok (.invokestatic 140, 3) := by decide +kernel
theorem dX11_wall_59 : decode cX11_wall 59 = .ok (.lxor, 1) := by decide +kernel
theorem dX11_wall_60 : decode cX11_wall 60 = .ok (.putfield 136, 3) := by decide +kernel
theorem dX11_wall_63 : decode cX11_wall 63 = .ok (.aload_n 0, 1) := by decide +kernel
theorem dX11_wall_64 : decode cX11_wall 64 = .ok (.invokevirtual 121, 3) := by decide +kernel
theorem dX11_wall_67 : decode cX11_wall 67 = .ok (.iconst 1, 1) := by decide +kernel
theorem dX11_wall_68 : decode cX11_wall 68 = .ok (.ireturn, 1) := by decide +kernel
theorem dX11_wallsChanged_0 : decode cX11_wallsChanged 0 = .ok (.aload_n 0, 1) := by decide +kernel
theorem dX11_wallsChanged_1 : decode cX11_wallsChanged 1 = .ok (.getfield 30, 3) := by decide +kernel
theorem dX11_wallsChanged_4 : decode cX11_wallsChanged 4 = .ok (.invokevirtual 490, 3) := by decide +kernel
theorem dX11_wallsChanged_7 : decode cX11_wallsChanged 7 = .ok (.aload_n 0, 1) := by decide +kernel
theorem dX11_wallsChanged_8 : decode cX11_wallsChanged 8 = .ok (.invokevirtual 179, 3) := by decide +kernel
theorem dX11_wallsChanged_11 : decode cX11_wallsChanged 11 = .ok (.return_, 1) := by decide +kernel
theorem dX11_way_0 : decode cX11_way 0 = .ok (.aload_n 0, 1) := by decide +kernel
theorem dX11_way_1 : decode cX11_way 1 = .ok (.getfield 12, 3) := by decide +kernel
theorem dX11_way_4 : decode cX11_way 4 = .ok (.iload_n 1, 1) := by decide +kernel
theorem dX11_way_5 : decode cX11_way 5 = .ok (.iload 4, 2) := by decide +kernel
theorem dX11_way_7 : decode cX11_way 7 = .ok (.invokevirtual 381, 3) := by decide +kernel
theorem dX11_way_10 : decode cX11_way 10 = .ok (.ifCond .eq 9, 3) := by decide +kernel
theorem dX11_way_13 : decode cX11_way 13 = .ok (.lload_n 2, 1) := by decide +kernel
theorem dX11_way_14 : decode cX11_way 14 = .ok (.lconst 0, 1) := by decide +kernel
theorem dX11_way_15 : decode cX11_way 15 = .ok (.lcmp, 1) := by decide +kernel
theorem dX11_way_16 : decode cX11_way 16 = .ok (.ifCond .ge 5, 3) := by decide +kernel
theorem dX11_way_19 : decode cX11_way 19 = .ok (.iconst (-1), 1) := by decide +kernel
theorem dX11_way_20 : decode cX11_way 20 = .ok (.ireturn, 1) := by decide +kernel
theorem dX11_way_21 : decode cX11_way 21 = .ok (.aload_n 0, 1) := by decide +kernel
theorem dX11_way_22 : decode cX11_way 22 = .ok (.invokevirtual 281, 3) := by decide +kernel
theorem dX11_way_25 : decode cX11_way 25 = .ok (.lload_n 2, 1) := by decide +kernel
theorem dX11_way_26 : decode cX11_way 26 = .ok (.aload_n 0, 1) := by decide +kernel
theorem dX11_way_27 : decode cX11_way 27 = .ok (.getfield 64, 3) := by decide +kernel
theorem dX11_way_30 : decode cX11_way 30 = .ok (.iload_n 1, 1) := by decide +kernel
theorem dX11_way_31 : decode cX11_way 31 = .ok (.invokevirtual 392, 3) := by decide +kernel
theorem dX11_way_34 : decode cX11_way 34 = .ok (.lcmp, 1) := by decide +kernel
theorem dX11_way_35 : decode cX11_way 35 = .ok (.ifCond .ge 17, 3) := by decide +kernel
theorem dX11_way_38 : decode cX11_way 38 = .ok (.aload_n 0, 1) := by decide +kernel
theorem dX11_way_39 : decode cX11_way 39 = .ok (.getfield 64, 3) := by decide +kernel
theorem dX11_way_42 : decode cX11_way 42 = .ok (.iload_n 1, 1) := by decide +kernel
theorem dX11_way_43 : decode cX11_way 43 = .ok (.lload_n 2, 1) := by decide +kernel
theorem dX11_way_44 : decode cX11_way 44 = .ok (.iload 4, 2) := by decide +kernel
theorem dX11_way_46 : decode cX11_way 46 = .ok (.invokevirtual 395, 3) := by decide +kernel
theorem dX11_way_49 : decode cX11_way 49 = .ok (.goto 4, 3) := by decide +kernel
theorem dX11_way_52 : decode cX11_way 52 = .ok (.iconst (-1), 1) := by decide +kernel
theorem dX11_way_53 : decode cX11_way 53 = .ok (.ireturn, 1) := by decide +kernel
theorem dX11_ways_0 : decode cX11_ways 0 = .ok (.aload_n 0, 1) := by decide +kernel
theorem dX11_ways_1 : decode cX11_ways 1 = .ok (.getfield 12, 3) := by decide +kernel
theorem dX11_ways_4 : decode cX11_ways 4 = .ok (.iload_n 1, 1) := by decide +kernel
theorem dX11_ways_5 : decode cX11_ways 5 = .ok (.invokevirtual 387, 3) := by decide +kernel
theorem dX11_ways_8 : decode cX11_ways 8 = .ok (.ifCond .ne 7, 3) := by decide +kernel
theorem dX11_ways_11 : decode cX11_ways 11 = .ok (.ldc2_w 390, 3) := by decide +kernel
theorem dX11_ways_14 : decode cX11_ways 14 = .ok (.lreturn, 1) := by decide +kernel
theorem dX11_ways_15 : decode cX11_ways 15 = .ok (.aload_n 0, 1) := by decide +kernel
theorem dX11_ways_16 : decode cX11_ways 16 = .ok (.invokevirtual 281, 3) := by decide +kernel
theorem dX11_ways_19 : decode cX11_ways 19 = .ok (.aload_n 0, 1) := by decide +kernel
theorem dX11_ways_20 : decode cX11_ways 20 = .ok (.getfield 64, 3) := by decide +kernel
theorem dX11_ways_23 : decode cX11_ways 23 = .ok (.iload_n 1, 1) := by decide +kernel
theorem dX11_ways_24 : decode cX11_ways 24 = .ok (.invokevirtual 392, 3) := by decide +kernel
theorem dX11_ways_27 : decode cX11_ways 27 = .ok (.lreturn, 1) := by decide +kernel
theorem dX11_within_0 : decode cX11_within 0 = .ok (.iload_n 0, 1) := by decide +kernel
theorem dX11_within_1 : decode cX11_within 1 = .ok (.iload_n 1, 1) := by decide +kernel
theorem dX11_within_2 : decode cX11_within 2 = .ok (.if_icmp .lt 12, 3) := by decide +kernel
theorem dX11_within_5 : decode cX11_within 5 = .ok (.iload_n 0, 1) := by decide +kernel
theorem dX11_within_6 : decode cX11_within 6 = .ok (.iload_n 2, 1) := by decide +kernel
theorem dX11_within_7 : decode cX11_within 7 = .ok (.if_icmp .gt 7, 3) := by decide +kernel
theorem dX11_within_10 : decode cX11_within 10 = .ok (.iconst 1, 1) := by decide +kernel
theorem dX11_within_11 : decode cX11_within 11 = .ok (.goto 4, 3) := by decide +kernel
theorem dX11_within_14 : decode cX11_within 14 = .ok (.iconst 0, 1) := by decide +kernel
theorem dX11_within_15 : decode cX11_within 15 = .ok (.ireturn, 1) := by decide +kernel
theorem dX12_about_0 : decode cX12_about 0 = .ok (.aload_n 0, 1) := by decide +kernel
theorem dX12_about_1 : decode cX12_about 1 = .ok (.iload_n 1, 1) := by decide +kernel
theorem dX12_about_2 : decode cX12_about 2 = .ok (.invokevirtual 245, 3) := by decide +kernel
theorem dX12_about_5 : decode cX12_about 5 = .ok (.ifCond .eq 5, 3) := by decide +kernel
theorem dX12_about_8 : decode cX12_about 8 = .ok (.iconst (-1), 1) := by decide +kernel
theorem dX12_about_9 : decode cX12_about 9 = .ok (.ireturn, 1) := by decide +kernel
theorem dX12_about_10 : decode cX12_about 10 = .ok (.aload_n 0, 1) := by decide +kernel
theorem dX12_about_11 : decode cX12_about 11 = .ok (.invokevirtual 258, 3) := by decide +kernel
theorem dX12_about_14 : decode cX12_about 14 = .ok (.iload_n 2, 1) := by decide +kernel
theorem dX12_about_15 : decode cX12_about 15 = .ok (.tableswitch 127 0 8 #[49, 56, 65, 75, 85, 91, 98, 113, 120], 49) := by decide +kernel
theorem dX12_about_64 : decode cX12_about 64 = .ok (.aload_n 0, 1) := by decide +kernel
theorem dX12_about_65 : decode cX12_about 65 = .ok (.getfield 13, 3) := by decide +kernel
theorem dX12_about_68 : decode cX12_about 68 = .ok (.iload_n 1, 1) := by decide +kernel
theorem dX12_about_69 : decode cX12_about 69 = .ok (.iaload, 1) := by decide +kernel
theorem dX12_about_70 : decode cX12_about 70 = .ok (.ireturn, 1) := by decide +kernel
theorem dX12_about_71 : decode cX12_about 71 = .ok (.aload_n 0, 1) := by decide +kernel
theorem dX12_about_72 : decode cX12_about 72 = .ok (.iload_n 1, 1) := by decide +kernel
theorem dX12_about_73 : decode cX12_about 73 = .ok (.invokevirtual 250, 3) := by decide +kernel
theorem dX12_about_76 : decode cX12_about 76 = .ok (.invokestatic 254, 3) := by decide +kernel
theorem dX12_about_79 : decode cX12_about 79 = .ok (.ireturn, 1) := by decide +kernel
theorem dX12_about_80 : decode cX12_about 80 = .ok (.aload_n 0, 1) := by decide +kernel
theorem dX12_about_81 : decode cX12_about 81 = .ok (.getfield 84, 3) := by decide +kernel
theorem dX12_about_84 : decode cX12_about 84 = .ok (.iload_n 1, 1) := by decide +kernel
theorem dX12_about_85 : decode cX12_about 85 = .ok (.laload, 1) := by decide +kernel
theorem dX12_about_86 : decode cX12_about 86 = .ok (.invokestatic 254, 3) := by decide +kernel
theorem dX12_about_89 : decode cX12_about 89 = .ok (.ireturn, 1) := by decide +kernel
theorem dX12_about_90 : decode cX12_about 90 = .ok (.aload_n 0, 1) := by decide +kernel
theorem dX12_about_91 : decode cX12_about 91 = .ok (.getfield 84, 3) := by decide +kernel
theorem dX12_about_94 : decode cX12_about 94 = .ok (.iload_n 1, 1) := by decide +kernel
theorem dX12_about_95 : decode cX12_about 95 = .ok (.laload, 1) := by decide +kernel
theorem dX12_about_96 : decode cX12_about 96 = .ok (.invokestatic 261, 3) := by decide +kernel
theorem dX12_about_99 : decode cX12_about 99 = .ok (.ireturn, 1) := by decide +kernel
theorem dX12_about_100 : decode cX12_about 100 = .ok (.aload_n 0, 1) := by decide +kernel
theorem dX12_about_101 : decode cX12_about 101 = .ok (.iload_n 1, 1) := by decide +kernel
theorem dX12_about_102 : decode cX12_about 102 = .ok (.invokevirtual 264, 3) := by decide +kernel
theorem dX12_about_105 : decode cX12_about 105 = .ok (.ireturn, 1) := by decide +kernel
theorem dX12_about_106 : decode cX12_about 106 = .ok (.aload_n 0, 1) := by decide +kernel
theorem dX12_about_107 : decode cX12_about 107 = .ok (.getfield 32, 3) := by decide +kernel
theorem dX12_about_110 : decode cX12_about 110 = .ok (.iload_n 1, 1) := by decide +kernel
theorem dX12_about_111 : decode cX12_about 111 = .ok (.iaload, 1) := by decide +kernel
theorem dX12_about_112 : decode cX12_about 112 = .ok (.ireturn, 1) := by decide +kernel
theorem dX12_about_113 : decode cX12_about 113 = .ok (.aload_n 0, 1) := by decide +kernel
theorem dX12_about_114 : decode cX12_about 114 = .ok (.getfield 23, 3) := by decide +kernel
theorem dX12_about_117 : decode cX12_about 117 = .ok (.iload_n 1, 1) := by decide +kernel
theorem dX12_about_118 : decode cX12_about 118 = .ok (.baload, 1) := by decide +kernel
theorem dX12_about_119 : decode cX12_about 119 = .ok (.ifCond .eq 7, 3) := by decide +kernel
theorem dX12_about_122 : decode cX12_about 122 = .ok (.iconst 1, 1) := by decide +kernel
theorem dX12_about_123 : decode cX12_about 123 = .ok (.goto 4, 3) := by decide +kernel
theorem dX12_about_126 : decode cX12_about 126 = .ok (.iconst 0, 1) := by decide +kernel
theorem dX12_about_127 : decode cX12_about 127 = .ok (.ireturn, 1) := by decide +kernel
theorem dX12_about_128 : decode cX12_about 128 = .ok (.aload_n 0, 1) := by decide +kernel
theorem dX12_about_129 : decode cX12_about 129 = .ok (.getfield 26, 3) := by decide +kernel
theorem dX12_about_132 : decode cX12_about 132 = .ok (.iload_n 1, 1) := by decide +kernel
theorem dX12_about_133 : decode cX12_about 133 = .ok (.iaload, 1) := by decide +kernel
theorem dX12_about_134 : decode cX12_about 134 = .ok (.ireturn, 1) := by decide +kernel
theorem dX12_about_135 : decode cX12_about 135 = .ok (.aload_n 0, 1) := by decide +kernel
theorem dX12_about_136 : decode cX12_about 136 = .ok (.getfield 29, 3) := by decide +kernel
theorem dX12_about_139 : decode cX12_about 139 = .ok (.iload_n 1, 1) := by decide +kernel
theorem dX12_about_140 : decode cX12_about 140 = .ok (.iaload, 1) := by decide +kernel
theorem dX12_about_141 : decode cX12_about 141 = .ok (.ireturn, 1) := by decide +kernel
theorem dX12_about_142 : decode cX12_about 142 = .ok (.bipush (-2), 2) := by decide +kernel
theorem dX12_about_144 : decode cX12_about 144 = .ok (.ireturn, 1) := by decide +kernel
theorem dX12_addMeasure_0 : decode cX12_addMeasure 0 = .ok (.aload_n 0, 1) := by decide +kernel
theorem dX12_addMeasure_1 : decode cX12_addMeasure 1 = .ok (.getfield 35, 3) := by decide +kernel
theorem dX12_addMeasure_4 : decode cX12_addMeasure 4 = .ok (.aload_n 0, 1) := by decide +kernel
theorem dX12_addMeasure_5 : decode cX12_addMeasure 5 = .ok (.getfield 186, 3) := by decide +kernel
theorem dX12_addMeasure_8 : decode cX12_addMeasure 8 = .ok (.iload_n 1, 1) := by decide +kernel
theorem dX12_addMeasure_9 : decode cX12_addMeasure 9 = .ok (.iastore, 1) := by decide +kernel
theorem dX12_addMeasure_10 : decode cX12_addMeasure 10 = .ok (.aload_n 0, 1) := by decide +kernel
theorem dX12_addMeasure_11 : decode cX12_addMeasure 11 = .ok (.getfield 38, 3) := by decide +kernel
theorem dX12_addMeasure_14 : decode cX12_addMeasure 14 = .ok (.aload_n 0, 1) := by decide +kernel
theorem dX12_addMeasure_15 : decode cX12_addMeasure 15 = .ok (.getfield 186, 3) := by decide +kernel
theorem dX12_addMeasure_18 : decode cX12_addMeasure 18 = .ok (.iload_n 2, 1) := by decide +kernel
theorem dX12_addMeasure_19 : decode cX12_addMeasure 19 = .ok (.iastore, 1) := by decide +kernel
theorem dX12_addMeasure_20 : decode cX12_addMeasure 20 = .ok (.aload_n 0, 1) := by decide +kernel
theorem dX12_addMeasure_21 : decode cX12_addMeasure 21 = .ok (.getfield 41, 3) := by decide +kernel
theorem dX12_addMeasure_24 : decode cX12_addMeasure 24 = .ok (.aload_n 0, 1) := by decide +kernel
theorem dX12_addMeasure_25 : decode cX12_addMeasure 25 = .ok (.getfield 186, 3) := by decide +kernel
theorem dX12_addMeasure_28 : decode cX12_addMeasure 28 = .ok (.iload_n 3, 1) := by decide +kernel
theorem dX12_addMeasure_29 : decode cX12_addMeasure 29 = .ok (.iastore, 1) := by decide +kernel
theorem dX12_addMeasure_30 : decode cX12_addMeasure 30 = .ok (.aload_n 0, 1) := by decide +kernel
theorem dX12_addMeasure_31 : decode cX12_addMeasure 31 = .ok (.getfield 44, 3) := by decide +kernel
theorem dX12_addMeasure_34 : decode cX12_addMeasure 34 = .ok (.aload_n 0, 1) := by decide +kernel
theorem dX12_addMeasure_35 : decode cX12_addMeasure 35 = .ok (.getfield 186, 3) := by decide +kernel
theorem dX12_addMeasure_38 : decode cX12_addMeasure 38 = .ok (.iload_n 1, 1) := by decide +kernel
theorem dX12_addMeasure_39 : decode cX12_addMeasure 39 = .ok (.iconst 1, 1) := by decide +kernel
theorem dX12_addMeasure_40 : decode cX12_addMeasure 40 = .ok (.if_icmp .eq 8, 3) := by decide +kernel
theorem dX12_addMeasure_43 : decode cX12_addMeasure 43 = .ok (.iload_n 1, 1) := by decide +kernel
theorem dX12_addMeasure_44 : decode cX12_addMeasure 44 = .ok (.iconst 2, 1) := by decide +kernel
theorem dX12_addMeasure_45 : decode cX12_addMeasure 45 = .ok (.if_icmp .ne 7, 3) := by decide +kernel
theorem dX12_addMeasure_48 : decode cX12_addMeasure 48 = .ok (.iconst 0, 1) := by decide +kernel
theorem dX12_addMeasure_49 : decode cX12_addMeasure 49 = .ok (.goto 5, 3) := by decide +kernel
theorem dX12_addMeasure_52 : decode cX12_addMeasure 52 = .ok (.iload 4, 2) := by decide +kernel
theorem dX12_addMeasure_54 : decode cX12_addMeasure 54 = .ok (.iastore, 1) := by decide +kernel
theorem dX12_addMeasure_55 : decode cX12_addMeasure 55 = .ok (.aload_n 0, 1) := by decide +kernel
theorem dX12_addMeasure_56 : decode cX12_addMeasure 56 = .ok (.getfield 47, 3) := by decide +kernel
theorem dX12_addMeasure_59 : decode cX12_addMeasure 59 = .ok (.aload_n 0, 1) := by decide +kernel
theorem dX12_addMeasure_60 : decode cX12_addMeasure 60 = .ok (.getfield 186, 3) := by decide +kernel
theorem dX12_addMeasure_63 : decode cX12_addMeasure 63 = .ok (.iload_n 1, 1) := by decide +kernel
theorem dX12_addMeasure_64 : decode cX12_addMeasure 64 = .ok (.iconst 3, 1) := by decide +kernel
theorem dX12_addMeasure_65 : decode cX12_addMeasure 65 = .ok (.if_icmp .ne 7, 3) := by decide +kernel
theorem dX12_addMeasure_68 : decode cX12_addMeasure 68 = .ok (.iconst 0, 1) := by decide +kernel
theorem dX12_addMeasure_69 : decode cX12_addMeasure 69 = .ok (.goto 5, 3) := by decide +kernel
theorem dX12_addMeasure_72 : decode cX12_addMeasure 72 = .ok (.iload 5, 2) := by decide +kernel
theorem dX12_addMeasure_74 : decode cX12_addMeasure 74 = .ok (.iastore, 1) := by decide +kernel
theorem dX12_addMeasure_75 : decode cX12_addMeasure 75 = .ok (.aload_n 0, 1) := by decide +kernel
theorem dX12_addMeasure_76 : decode cX12_addMeasure 76 = .ok (.getfield 50, 3) := by decide +kernel
theorem dX12_addMeasure_79 : decode cX12_addMeasure 79 = .ok (.aload_n 0, 1) := by decide +kernel
theorem dX12_addMeasure_80 : decode cX12_addMeasure 80 = .ok (.getfield 186, 3) := by decide +kernel
theorem dX12_addMeasure_83 : decode cX12_addMeasure 83 = .ok (.iconst 1, 1) := by decide +kernel
theorem dX12_addMeasure_84 : decode cX12_addMeasure 84 = .ok (.bastore, 1) := by decide +kernel
theorem dX12_addMeasure_85 : decode cX12_addMeasure 85 = .ok (.aload_n 0, 1) := by decide +kernel
theorem dX12_addMeasure_86 : decode cX12_addMeasure 86 = .ok (.getfield 62, 3) := by decide +kernel
theorem dX12_addMeasure_89 : decode cX12_addMeasure 89 = .ok (.aload_n 0, 1) := by decide +kernel
theorem dX12_addMeasure_90 : decode cX12_addMeasure 90 = .ok (.getfield 186, 3) := by decide +kernel
theorem dX12_addMeasure_93 : decode cX12_addMeasure 93 = .ok (.iconst 0, 1) := by decide +kernel
theorem dX12_addMeasure_94 : decode cX12_addMeasure 94 = .ok (.bastore, 1) := by decide +kernel
theorem dX12_addMeasure_95 : decode cX12_addMeasure 95 = .ok (.aload_n 0, 1) := by decide +kernel
theorem dX12_addMeasure_96 : decode cX12_addMeasure 96 = .ok (.dup, 1) := by decide +kernel
theorem dX12_addMeasure_97 : decode cX12_addMeasure 97 = .ok (.getfield 186, 3) := by decide +kernel
theorem dX12_addMeasure_100 : decode cX12_addMeasure 100 = .ok (.iconst 1, 1) := by decide +kernel
theorem dX12_addMeasure_101 : decode cX12_addMeasure 101 = .ok (.iadd, 1) := by decide +kernel
theorem dX12_addMeasure_102 : decode cX12_addMeasure 102 = .ok (.putfield 186, 3) := by decide +kernel
theorem dX12_addMeasure_105 : decode cX12_addMeasure 105 = .ok (.aload_n 0, 1) := by decide +kernel
theorem dX12_addMeasure_106 : decode cX12_addMeasure 106 = .ok (.invokevirtual 199, 3) := by decide +kernel
theorem dX12_addMeasure_109 : decode cX12_addMeasure 109 = .ok (.aload_n 0, 1) := by decide +kernel
theorem dX12_addMeasure_110 : decode cX12_addMeasure 110 = .ok (.getfield 186, 3) := by decide +kernel
theorem dX12_addMeasure_113 : decode cX12_addMeasure 113 = .ok (.iconst 1, 1) := by decide +kernel
theorem dX12_addMeasure_114 : decode cX12_addMeasure 114 = .ok (.isub, 1) := by decide +kernel
theorem dX12_addMeasure_115 : decode cX12_addMeasure 115 = .ok (.ireturn, 1) := by decide +kernel
theorem dX12_addThing_0 : decode cX12_addThing 0 = .ok (.aload_n 0, 1) := by decide +kernel
theorem dX12_addThing_1 : decode cX12_addThing 1 = .ok (.getfield 13, 3) := by decide +kernel
theorem dX12_addThing_4 : decode cX12_addThing 4 = .ok (.aload_n 0, 1) := by decide +kernel
theorem dX12_addThing_5 : decode cX12_addThing 5 = .ok (.getfield 183, 3) := by decide +kernel
theorem dX12_addThing_8 : decode cX12_addThing 8 = .ok (.iload_n 1, 1) := by decide +kernel
theorem dX12_addThing_9 : decode cX12_addThing 9 = .ok (.iastore, 1) := by decide +kernel
theorem dX12_addThing_10 : decode cX12_addThing 10 = .ok (.aload_n 0, 1) := by decide +kernel
theorem dX12_addThing_11 : decode cX12_addThing 11 = .ok (.getfield 17, 3) := by decide +kernel
theorem dX12_addThing_14 : decode cX12_addThing 14 = .ok (.aload_n 0, 1) := by decide +kernel
theorem dX12_addThing_15 : decode cX12_addThing 15 = .ok (.getfield 183, 3) := by decide +kernel
theorem dX12_addThing_18 : decode cX12_addThing 18 = .ok (.iload_n 1, 1) := by decide +kernel
theorem dX12_addThing_19 : decode cX12_addThing 19 = .ok (.ifCond .ne 8, 3) := by decide +kernel
theorem dX12_addThing_22 : decode cX12_addThing 22 = .ok (.bipush (-9), 2) := by decide +kernel
theorem dX12_addThing_24 : decode cX12_addThing 24 = .ok (.goto 4, 3) := by decide +kernel
theorem dX12_addThing_27 : decode cX12_addThing 27 = .ok (.iload_n 2, 1) := by decide +kernel
theorem dX12_addThing_28 : decode cX12_addThing 28 = .ok (.iastore, 1) := by decide +kernel
theorem dX12_addThing_29 : decode cX12_addThing 29 = .ok (.aload_n 0, 1) := by decide +kernel
theorem dX12_addThing_30 : decode cX12_addThing 30 = .ok (.getfield 20, 3) := by decide +kernel
theorem dX12_addThing_33 : decode cX12_addThing 33 = .ok (.iconst 4, 1) := by decide +kernel
theorem dX12_addThing_34 : decode cX12_addThing 34 = .ok (.aload_n 0, 1) := by decide +kernel
theorem dX12_addThing_35 : decode cX12_addThing 35 = .ok (.getfield 183, 3) := by decide +kernel
theorem dX12_addThing_38 : decode cX12_addThing 38 = .ok (.imul, 1) := by decide +kernel
theorem dX12_addThing_39 : decode cX12_addThing 39 = .ok (.iconst 0, 1) := by decide +kernel
theorem dX12_addThing_40 : decode cX12_addThing 40 = .ok (.iastore, 1) := by decide +kernel
theorem dX12_addThing_41 : decode cX12_addThing 41 = .ok (.aload_n 0, 1) := by decide +kernel
theorem dX12_addThing_42 : decode cX12_addThing 42 = .ok (.getfield 20, 3) := by decide +kernel
theorem dX12_addThing_45 : decode cX12_addThing 45 = .ok (.iconst 4, 1) := by decide +kernel
theorem dX12_addThing_46 : decode cX12_addThing 46 = .ok (.aload_n 0, 1) := by decide +kernel
theorem dX12_addThing_47 : decode cX12_addThing 47 = .ok (.getfield 183, 3) := by decide +kernel
theorem dX12_addThing_50 : decode cX12_addThing 50 = .ok (.imul, 1) := by decide +kernel
theorem dX12_addThing_51 : decode cX12_addThing 51 = .ok (.iconst 1, 1) := by decide +kernel
theorem dX12_addThing_52 : decode cX12_addThing 52 = .ok (.iadd, 1) := by decide +kernel
theorem dX12_addThing_53 : decode cX12_addThing 53 = .ok (.iconst 0, 1) := by decide +kernel
theorem dX12_addThing_54 : decode cX12_addThing 54 = .ok (.iastore, 1) := by decide +kernel
theorem dX12_addThing_55 : decode cX12_addThing 55 = .ok (.aload_n 0, 1) := by decide +kernel
theorem dX12_addThing_56 : decode cX12_addThing 56 = .ok (.getfield 20, 3) := by decide +kernel
theorem dX12_addThing_59 : decode cX12_addThing 59 = .ok (.iconst 4, 1) := by decide +kernel
theorem dX12_addThing_60 : decode cX12_addThing 60 = .ok (.aload_n 0, 1) := by decide +kernel
theorem dX12_addThing_61 : decode cX12_addThing 61 = .ok (.getfield 183, 3) := by decide +kernel
theorem dX12_addThing_64 : decode cX12_addThing 64 = .ok (.imul, 1) := by decide +kernel
theorem dX12_addThing_65 : decode cX12_addThing 65 = .ok (.iconst 2, 1) := by decide +kernel
theorem dX12_addThing_66 : decode cX12_addThing 66 = .ok (.iadd, 1) := by decide +kernel
theorem dX12_addThing_67 : decode cX12_addThing 67 = .ok (.bipush 7, 2) := by decide +kernel
theorem dX12_addThing_69 : decode cX12_addThing 69 = .ok (.iastore, 1) := by decide +kernel
theorem dX12_addThing_70 : decode cX12_addThing 70 = .ok (.aload_n 0, 1) := by decide +kernel
theorem dX12_addThing_71 : decode cX12_addThing 71 = .ok (.getfield 20, 3) := by decide +kernel
theorem dX12_addThing_74 : decode cX12_addThing 74 = .ok (.iconst 4, 1) := by decide +kernel
theorem dX12_addThing_75 : decode cX12_addThing 75 = .ok (.aload_n 0, 1) := by decide +kernel
theorem dX12_addThing_76 : decode cX12_addThing 76 = .ok (.getfield 183, 3) := by decide +kernel
theorem dX12_addThing_79 : decode cX12_addThing 79 = .ok (.imul, 1) := by decide +kernel
theorem dX12_addThing_80 : decode cX12_addThing 80 = .ok (.iconst 3, 1) := by decide +kernel
theorem dX12_addThing_81 : decode cX12_addThing 81 = .ok (.iadd, 1) := by decide +kernel
theorem dX12_addThing_82 : decode cX12_addThing 82 = .ok (.bipush 7, 2) := by decide +kernel
theorem dX12_addThing_84 : decode cX12_addThing 84 = .ok (.iastore, 1) := by decide +kernel
theorem dX12_addThing_85 : decode cX12_addThing 85 = .ok (.aload_n 0, 1) := by decide +kernel
theorem dX12_addThing_86 : decode cX12_addThing 86 = .ok (.getfield 23, 3) := by decide +kernel
theorem dX12_addThing_89 : decode cX12_addThing 89 = .ok (.aload_n 0, 1) := by decide +kernel
theorem dX12_addThing_90 : decode cX12_addThing 90 = .ok (.getfield 183, 3) := by decide +kernel
theorem dX12_addThing_93 : decode cX12_addThing 93 = .ok (.iconst 0, 1) := by decide +kernel
theorem dX12_addThing_94 : decode cX12_addThing 94 = .ok (.bastore, 1) := by decide +kernel
theorem dX12_addThing_95 : decode cX12_addThing 95 = .ok (.aload_n 0, 1) := by decide +kernel
theorem dX12_addThing_96 : decode cX12_addThing 96 = .ok (.getfield 26, 3) := by decide +kernel
theorem dX12_addThing_99 : decode cX12_addThing 99 = .ok (.aload_n 0, 1) := by decide +kernel
theorem dX12_addThing_100 : decode cX12_addThing 100 = .ok (.getfield 183, 3) := by decide +kernel
theorem dX12_addThing_103 : decode cX12_addThing 103 = .ok (.iload_n 3, 1) := by decide +kernel
theorem dX12_addThing_104 : decode cX12_addThing 104 = .ok (.iastore, 1) := by decide +kernel
theorem dX12_addThing_105 : decode cX12_addThing 105 = .ok (.aload_n 0, 1) := by decide +kernel
theorem dX12_addThing_106 : decode cX12_addThing 106 = .ok (.getfield 29, 3) := by decide +kernel
theorem dX12_addThing_109 : decode cX12_addThing 109 = .ok (.aload_n 0, 1) := by decide +kernel
theorem dX12_addThing_110 : decode cX12_addThing 110 = .ok (.getfield 183, 3) := by decide +kernel
theorem dX12_addThing_113 : decode cX12_addThing 113 = .ok (.iload 4, 2) := by decide +kernel
theorem dX12_addThing_115 : decode cX12_addThing 115 = .ok (.iastore, 1) := by decide +kernel
theorem dX12_addThing_116 : decode cX12_addThing 116 = .ok (.aload_n 0, 1) := by decide +kernel
theorem dX12_addThing_117 : decode cX12_addThing 117 = .ok (.getfield 32, 3) := by decide +kernel
theorem dX12_addThing_120 : decode cX12_addThing 120 = .ok (.aload_n 0, 1) := by decide +kernel
theorem dX12_addThing_121 : decode cX12_addThing 121 = .ok (.getfield 183, 3) := by decide +kernel
theorem dX12_addThing_124 : decode cX12_addThing 124 = .ok (.bipush (-9), 2) := by decide +kernel
theorem dX12_addThing_126 : decode cX12_addThing 126 = .ok (.iastore, 1) := by decide +kernel
theorem dX12_addThing_127 : decode cX12_addThing 127 = .ok (.aload_n 0, 1) := by decide +kernel
theorem dX12_addThing_128 : decode cX12_addThing 128 = .ok (.dup, 1) := by decide +kernel
theorem dX12_addThing_129 : decode cX12_addThing 129 = .ok (.getfield 183, 3) := by decide +kernel
theorem dX12_addThing_132 : decode cX12_addThing 132 = .ok (.iconst 1, 1) := by decide +kernel
theorem dX12_addThing_133 : decode cX12_addThing 133 = .ok (.iadd, 1) := by decide +kernel
theorem dX12_addThing_134 : decode cX12_addThing 134 = .ok (.putfield 183, 3) := by decide +kernel
theorem dX12_addThing_137 : decode cX12_addThing 137 = .ok (.aload_n 0, 1) := by decide +kernel
theorem dX12_addThing_138 : decode cX12_addThing 138 = .ok (.invokevirtual 199, 3) := by decide +kernel
theorem dX12_addThing_141 : decode cX12_addThing 141 = .ok (.aload_n 0, 1) := by decide +kernel
theorem dX12_addThing_142 : decode cX12_addThing 142 = .ok (.getfield 183, 3) := by decide +kernel
theorem dX12_addThing_145 : decode cX12_addThing 145 = .ok (.iconst 1, 1) := by decide +kernel
theorem dX12_addThing_146 : decode cX12_addThing 146 = .ok (.isub, 1) := by decide +kernel
theorem dX12_addThing_147 : decode cX12_addThing 147 = .ok (.ireturn, 1) := by decide +kernel
theorem dX12_alone_0 : decode cX12_alone 0 = .ok (.aload_n 0, 1) := by decide +kernel
theorem dX12_alone_1 : decode cX12_alone 1 = .ok (.getfield 207, 3) := by decide +kernel
theorem dX12_alone_4 : decode cX12_alone 4 = .ok (.istore_n 2, 1) := by decide +kernel
theorem dX12_alone_5 : decode cX12_alone 5 = .ok (.aload_n 0, 1) := by decide +kernel
theorem dX12_alone_6 : decode cX12_alone 6 = .ok (.iload_n 1, 1) := by decide +kernel
theorem dX12_alone_7 : decode cX12_alone 7 = .ok (.putfield 207, 3) := by decide +kernel
theorem dX12_alone_10 : decode cX12_alone 10 = .ok (.iload_n 2, 1) := by decide +kernel
theorem dX12_alone_11 : decode cX12_alone 11 = .ok (.iload_n 1, 1) := by decide +kernel
theorem dX12_alone_12 : decode cX12_alone 12 = .ok (.if_icmp .ne 7, 3) := by decide +kernel
theorem dX12_alone_15 : decode cX12_alone 15 = .ok (.iconst 0, 1) := by decide +kernel
theorem dX12_alone_16 : decode cX12_alone 16 = .ok (.goto 4, 3) := by decide +kernel
theorem dX12_alone_19 : decode cX12_alone 19 = .ok (.iconst 1, 1) := by decide +kernel
theorem dX12_alone_20 : decode cX12_alone 20 = .ok (.ireturn, 1) := by decide +kernel
theorem dX12_as_0 : decode cX12_as 0 = .ok (.iload_n 1, 1) := by decide +kernel
theorem dX12_as_1 : decode cX12_as 1 = .ok (.invokestatic 500, 3) := by decide +kernel
theorem dX12_as_4 : decode cX12_as 4 = .ok (.ifCond .eq 9, 3) := by decide +kernel
theorem dX12_as_7 : decode cX12_as 7 = .ok (.aload_n 0, 1) := by decide +kernel
theorem dX12_as_8 : decode cX12_as 8 = .ok (.iconst (-1), 1) := by decide +kernel
theorem dX12_as_9 : decode cX12_as 9 = .ok (.invokevirtual 222, 3) := by decide +kernel
theorem dX12_as_12 : decode cX12_as 12 = .ok (.ireturn, 1) := by decide +kernel
theorem dX12_as_13 : decode cX12_as 13 = .ok (.iload_n 2, 1) := by decide +kernel
theorem dX12_as_14 : decode cX12_as 14 = .ok (.i2l, 1) := by decide +kernel
theorem dX12_as_15 : decode cX12_as 15 = .ok (.lconst 0, 1) := by decide +kernel
theorem dX12_as_16 : decode cX12_as 16 = .ok (.ldc2_w 202, 3) := by decide +kernel
theorem dX12_as_19 : decode cX12_as 19 = .ok (.invokestatic 175, 3) := by decide +kernel
theorem dX12_as_22 : decode cX12_as 22 = .ok (.ifCond .ne 10, 3) := by decide +kernel
theorem dX12_as_25 : decode cX12_as 25 = .ok (.aload_n 0, 1) := by decide +kernel
theorem dX12_as_26 : decode cX12_as 26 = .ok (.bipush (-2), 2) := by decide +kernel
theorem dX12_as_28 : decode cX12_as 28 = .ok (.invokevirtual 222, 3) := by decide +kernel
theorem dX12_as_31 : decode cX12_as 31 = .ok (.ireturn, 1) := by decide +kernel
theorem dX12_as_32 : decode cX12_as 32 = .ok (.aload_n 0, 1) := by decide +kernel
theorem dX12_as_33 : decode cX12_as 33 = .ok (.getfield 126, 3) := by decide +kernel
theorem dX12_as_36 : decode cX12_as 36 = .ok (.iload_n 1, 1) := by decide +kernel
theorem dX12_as_37 : decode cX12_as 37 = .ok (.iaload, 1) := by decide +kernel
theorem dX12_as_38 : decode cX12_as 38 = .ok (.ifCond .ge 9, 3) := by decide +kernel
theorem dX12_as_41 : decode cX12_as 41 = .ok (.aload_n 0, 1) := by decide +kernel
theorem dX12_as_42 : decode cX12_as 42 = .ok (.iconst 1, 1) := by decide +kernel
theorem dX12_as_43 : decode cX12_as 43 = .ok (.invokevirtual 228, 3) := by decide +kernel
theorem dX12_as_46 : decode cX12_as 46 = .ok (.ireturn, 1) := by decide +kernel
theorem dX12_as_47 : decode cX12_as 47 = .ok (.aload_n 0, 1) := by decide +kernel
theorem dX12_as_48 : decode cX12_as 48 = .ok (.iload_n 1, 1) := by decide +kernel
theorem dX12_as_49 : decode cX12_as 49 = .ok (.iload_n 2, 1) := by decide +kernel
theorem dX12_as_50 : decode cX12_as 50 = .ok (.invokevirtual 503, 3) := by decide +kernel
theorem dX12_as_53 : decode cX12_as 53 = .ok (.ifCond .eq 16, 3) := by decide +kernel
theorem dX12_as_56 : decode cX12_as 56 = .ok (.aload_n 0, 1) := by decide +kernel
theorem dX12_as_57 : decode cX12_as 57 = .ok (.aload_n 0, 1) := by decide +kernel
theorem dX12_as_58 : decode cX12_as 58 = .ok (.getfield 129, 3) := by decide +kernel
theorem dX12_as_61 : decode cX12_as 61 = .ok (.iload_n 1, 1) := by decide +kernel
theorem dX12_as_62 : decode cX12_as 62 = .ok (.iaload, 1) := by decide +kernel
theorem dX12_as_63 : decode cX12_as 63 = .ok (.invokevirtual 222, 3) := by decide +kernel
theorem dX12_as_66 : decode cX12_as 66 = .ok (.goto 8, 3) := by decide +kernel
theorem dX12_as_69 : decode cX12_as 69 = .ok (.aload_n 0, 1) := by decide +kernel
theorem dX12_as_70 : decode cX12_as 70 = .ok (.iconst 2, 1) := by decide +kernel
theorem dX12_as_71 : decode cX12_as 71 = .ok (.invokevirtual 228, 3) := by decide +kernel
theorem dX12_as_74 : decode cX12_as 74 = .ok (.ireturn, 1) := by decide +kernel
theorem dX12_asNumber_0 : decode cX12_asNumber 0 = .ok (.iload_n 0, 1) := by decide +kernel
theorem dX12_asNumber_1 : decode cX12_asNumber 1 = .ok (.ifCond .eq 7, 3) := by decide +kernel
theorem dX12_asNumber_4 : decode cX12_asNumber 4 = .ok (.iconst 1, 1) := by decide +kernel
theorem dX12_asNumber_5 : decode cX12_asNumber 5 = .ok (.goto 4, 3) := by decide +kernel
theorem dX12_asNumber_8 : decode cX12_asNumber 8 = .ok (.iconst 0, 1) := by decide +kernel
theorem dX12_asNumber_9 : decode cX12_asNumber 9 = .ok (.ireturn, 1) := by decide +kernel
theorem dX12_ask_0 : decode cX12_ask 0 = .ok (.aload_n 0, 1) := by decide +kernel
theorem dX12_ask_1 : decode cX12_ask 1 = .ok (.iload_n 1, 1) := by decide +kernel
theorem dX12_ask_2 : decode cX12_ask 2 = .ok (.invokevirtual 245, 3) := by decide +kernel
theorem dX12_ask_5 : decode cX12_ask 5 = .ok (.ifCond .eq 5, 3) := by decide +kernel
theorem dX12_ask_8 : decode cX12_ask 8 = .ok (.iconst (-1), 1) := by decide +kernel
theorem dX12_ask_9 : decode cX12_ask 9 = .ok (.ireturn, 1) := by decide +kernel
theorem dX12_ask_10 : decode cX12_ask 10 = .ok (.iload_n 2, 1) := by decide +kernel
theorem dX12_ask_11 : decode cX12_ask 11 = .ok (.i2l, 1) := by decide +kernel
theorem dX12_ask_12 : decode cX12_ask 12 = .ok (.lconst 0, 1) := by decide +kernel
theorem dX12_ask_13 : decode cX12_ask 13 = .ok (.lconst 1, 1) := by decide +kernel

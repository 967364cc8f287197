abbrev M_J13_bitCount_95d88 : zMth := (yJ13_bitCount_95d88, cJ13_bitCount_95d88, 2, (some .int))
abbrev M_J6_bitCount_0f7a4 : zMth := (yJ6_bitCount_0f7a4, cJ6_bitCount_0f7a4, 1, (some .int))
abbrev M_J9_abs_0f7a4 : zMth := (yJ9_abs_0f7a4, cJ9_abs_0f7a4, 1, (some .int))
abbrev M_J9_max_7cf53 : zMth := (yJ9_max_7cf53, cJ9_max_7cf53, 2, (some .int))
abbrev M_J9_min_7cf53 : zMth := (yJ9_min_7cf53, cJ9_min_7cf53, 2, (some .int))
abbrev M_X11_bit : zMth := (yX11_bit, cX11_bit, 1, (some .long))
abbrev M_X11_distance : zMth := (yX11_distance, cX11_distance, 4, (some .int))
abbrev M_X11_has : zMth := (yX11_has, cX11_has, 3, (some .boolean))
abbrev M_X11_isTold : zMth := (yX11_isTold, cX11_isTold, 3, (some .boolean))
abbrev M_X11_lowest : zMth := (yX11_lowest, cX11_lowest, 2, (some .int))
abbrev M_X11_within : zMth := (yX11_within, cX11_within, 3, (some .boolean))
abbrev M_X12_asNumber : zMth := (yX12_asNumber, cX12_asNumber, 1, (some .int))
abbrev M_X12_count : zMth := (yX12_count, cX12_count, 4, (some .int))
abbrev M_X12_differs : zMth := (yX12_differs, cX12_differs, 4, (some .boolean))
abbrev M_X12_distance : zMth := (yX12_distance, cX12_distance, 4, (some .int))
abbrev M_X12_firstOf : zMth := (yX12_firstOf, cX12_firstOf, 3, (some .int))
abbrev M_X12_greater : zMth := (yX12_greater, cX12_greater, 2, (some .int))
abbrev M_X12_hasBit : zMth := (yX12_hasBit, cX12_hasBit, 3, (some .boolean))
abbrev M_X12_in : zMth := (yX12_in, cX12_in, 6, (some .boolean))
abbrev M_X12_isBeyond : zMth := (yX12_isBeyond, cX12_isBeyond, 4, (some .boolean))
abbrev M_X12_lost : zMth := (yX12_lost, cX12_lost, 0, (some .long))
abbrev M_X12_sizeOf : zMth := (yX12_sizeOf, cX12_sizeOf, 1, (some .int))
theorem ok_J13_bitCount_95d88 : zMok M_J13_bitCount_95d88 1 := ⟨zT_in (List.mem_of_getElem? (i := 650) (by decide +kernel)) rfl, zT_in (List.mem_of_getElem? (i := 132) (by decide +kernel)) rfl, by decide +kernel, by decide⟩
theorem ok_J6_bitCount_0f7a4 : zMok M_J6_bitCount_0f7a4 1 := ⟨zT_in (List.mem_of_getElem? (i := 938) (by decide +kernel)) rfl, zT_in (List.mem_of_getElem? (i := 136) (by decide +kernel)) rfl, by decide +kernel, by decide⟩
theorem ok_J9_abs_0f7a4 : zMok M_J9_abs_0f7a4 1 := ⟨zT_in (List.mem_of_getElem? (i := 275) (by decide +kernel)) rfl, zT_in (List.mem_of_getElem? (i := 123) (by decide +kernel)) rfl, by decide +kernel, by decide⟩
theorem ok_J9_max_7cf53 : zMok M_J9_max_7cf53 2 := ⟨zT_in (List.mem_of_getElem? (i := 971) (by decide +kernel)) rfl, zT_in (List.mem_of_getElem? (i := 123) (by decide +kernel)) rfl, by decide +kernel, by decide⟩
theorem ok_J9_min_7cf53 : zMok M_J9_min_7cf53 2 := ⟨zT_in (List.mem_of_getElem? (i := 968) (by decide +kernel)) rfl, zT_in (List.mem_of_getElem? (i := 123) (by decide +kernel)) rfl, by decide +kernel, by decide⟩
theorem ok_X11_bit : zMok M_X11_bit 1 := ⟨zT_in (List.mem_of_getElem? (i := 165) (by decide +kernel)) rfl, zT_in (List.mem_of_getElem? (i := 120) (by decide +kernel)) rfl, by decide +kernel, by decide⟩
theorem ok_X11_distance : zMok M_X11_distance 2 := ⟨zT_in (List.mem_of_getElem? (i := 1062) (by decide +kernel)) rfl, zT_in (List.mem_of_getElem? (i := 120) (by decide +kernel)) rfl, by decide +kernel, by decide⟩
theorem ok_X11_has : zMok M_X11_has 2 := ⟨zT_in (List.mem_of_getElem? (i := 622) (by decide +kernel)) rfl, zT_in (List.mem_of_getElem? (i := 120) (by decide +kernel)) rfl, by decide +kernel, by decide⟩
theorem ok_X11_isTold : zMok M_X11_isTold 3 := ⟨zT_in (List.mem_of_getElem? (i := 795) (by decide +kernel)) rfl, zT_in (List.mem_of_getElem? (i := 120) (by decide +kernel)) rfl, by decide +kernel, by decide⟩
theorem ok_X11_lowest : zMok M_X11_lowest 1 := ⟨zT_in (List.mem_of_getElem? (i := 739) (by decide +kernel)) rfl, zT_in (List.mem_of_getElem? (i := 120) (by decide +kernel)) rfl, by decide +kernel, by decide⟩
theorem ok_X11_within : zMok M_X11_within 3 := ⟨zT_in (List.mem_of_getElem? (i := 576) (by decide +kernel)) rfl, zT_in (List.mem_of_getElem? (i := 120) (by decide +kernel)) rfl, by decide +kernel, by decide⟩
theorem ok_X12_asNumber : zMok M_X12_asNumber 1 := ⟨zT_in (List.mem_of_getElem? (i := 2121) (by decide +kernel)) rfl, zT_in (List.mem_of_getElem? (i := 131) (by decide +kernel)) rfl, by decide +kernel, by decide⟩
theorem ok_X12_count : zMok M_X12_count 1 := ⟨zT_in (List.mem_of_getElem? (i := 1784) (by decide +kernel)) rfl, zT_in (List.mem_of_getElem? (i := 131) (by decide +kernel)) rfl, by decide +kernel, by decide⟩
theorem ok_X12_differs : zMok M_X12_differs 2 := ⟨zT_in (List.mem_of_getElem? (i := 1835) (by decide +kernel)) rfl, zT_in (List.mem_of_getElem? (i := 131) (by decide +kernel)) rfl, by decide +kernel, by decide⟩
theorem ok_X12_distance : zMok M_X12_distance 2 := ⟨zT_in (List.mem_of_getElem? (i := 1815) (by decide +kernel)) rfl, zT_in (List.mem_of_getElem? (i := 131) (by decide +kernel)) rfl, by decide +kernel, by decide⟩
theorem ok_X12_firstOf : zMok M_X12_firstOf 1 := ⟨zT_in (List.mem_of_getElem? (i := 1838) (by decide +kernel)) rfl, zT_in (List.mem_of_getElem? (i := 131) (by decide +kernel)) rfl, by decide +kernel, by decide⟩
theorem ok_X12_greater : zMok M_X12_greater 2 := ⟨zT_in (List.mem_of_getElem? (i := 1974) (by decide +kernel)) rfl, zT_in (List.mem_of_getElem? (i := 131) (by decide +kernel)) rfl, by decide +kernel, by decide⟩
theorem ok_X12_hasBit : zMok M_X12_hasBit 2 := ⟨zT_in (List.mem_of_getElem? (i := 1832) (by decide +kernel)) rfl, zT_in (List.mem_of_getElem? (i := 131) (by decide +kernel)) rfl, by decide +kernel, by decide⟩
theorem ok_X12_in : zMok M_X12_in 3 := ⟨zT_in (List.mem_of_getElem? (i := 1711) (by decide +kernel)) rfl, zT_in (List.mem_of_getElem? (i := 131) (by decide +kernel)) rfl, by decide +kernel, by decide⟩
theorem ok_X12_isBeyond : zMok M_X12_isBeyond 3 := ⟨zT_in (List.mem_of_getElem? (i := 1751) (by decide +kernel)) rfl, zT_in (List.mem_of_getElem? (i := 131) (by decide +kernel)) rfl, by decide +kernel, by decide⟩
theorem ok_X12_lost : zMok M_X12_lost 0 := ⟨zT_in (List.mem_of_getElem? (i := 2081) (by decide +kernel)) rfl, zT_in (List.mem_of_getElem? (i := 131) (by decide +kernel)) rfl, by decide +kernel, by decide⟩
theorem ok_X12_sizeOf : zMok M_X12_sizeOf 1 := ⟨zT_in (List.mem_of_getElem? (i := 1825) (by decide +kernel)) rfl, zT_in (List.mem_of_getElem? (i := 131) (by decide +kernel)) rfl, by decide +kernel, by decide⟩
theorem mm_RX11_113 : zMS RX11 113 M_X11_within 3 := ⟨ok_X11_within, zT_in (List.mem_of_getElem? (i := 574) (by decide +kernel)) rfl, zT_in (List.mem_of_getElem? (i := 575) (by decide +kernel)) rfl⟩
theorem mm_RX11_168 : zMS RX11 168 M_J13_bitCount_95d88 1 := ⟨ok_J13_bitCount_95d88, zT_in (List.mem_of_getElem? (i := 648) (by decide +kernel)) rfl, zT_in (List.mem_of_getElem? (i := 649) (by decide +kernel)) rfl⟩
theorem mm_RX12_162 : zMS RX12 162 M_X12_hasBit 2 := ⟨ok_X12_hasBit, zT_in (List.mem_of_getElem? (i := 1830) (by decide +kernel)) rfl, zT_in (List.mem_of_getElem? (i := 1831) (by decide +kernel)) rfl⟩
theorem ct_RX12_160 : Cond.constantLong RX12 160 (-9223372036854775808) ∈ zT := zT_in (List.mem_of_getElem? (i := 2082) (by decide +kernel)) rfl
theorem ct_RJ6_265 : Cond.constant RJ6 265 (1431655765) ∈ zT := zT_in (List.mem_of_getElem? (i := 939) (by decide +kernel)) rfl
theorem ct_RJ6_266 : Cond.constant RJ6 266 (858993459) ∈ zT := zT_in (List.mem_of_getElem? (i := 940) (by decide +kernel)) rfl
theorem ct_RJ6_267 : Cond.constant RJ6 267 (252645135) ∈ zT := zT_in (List.mem_of_getElem? (i := 941) (by decide +kernel)) rfl
theorem ct_RJ13_314 : Cond.constantLong RJ13 314 (6148914691236517205) ∈ zT := zT_in (List.mem_of_getElem? (i := 651) (by decide +kernel)) rfl
theorem ct_RJ13_316 : Cond.constantLong RJ13 316 (3689348814741910323) ∈ zT := zT_in (List.mem_of_getElem? (i := 652) (by decide +kernel)) rfl
theorem ct_RJ13_318 : Cond.constantLong RJ13 318 (1085102592571150095) ∈ zT := zT_in (List.mem_of_getElem? (i := 653) (by decide +kernel)) rfl
theorem dJ13_bitCount_95d88_0 : decode cJ13_bitCount_95d88 0 = .ok (.lload_n 0, 1) := by decide +kernel
theorem dJ13_bitCount_95d88_1 : decode cJ13_bitCount_95d88 1 = .ok (.lload_n 0, 1) := by decide +kernel
theorem dJ13_bitCount_95d88_2 : decode cJ13_bitCount_95d88 2 = .ok (.iconst 1, 1) := by decide +kernel
theorem dJ13_bitCount_95d88_3 : decode cJ13_bitCount_95d88 3 = .ok (.lushr, 1) := by decide +kernel
theorem dJ13_bitCount_95d88_4 : decode cJ13_bitCount_95d88 4 = .ok (.ldc2_w 314, 3) := by decide +kernel
theorem dJ13_bitCount_95d88_7 : decode cJ13_bitCount_95d88 7 = .ok (.land, 1) := by decide +kernel
theorem dJ13_bitCount_95d88_8 : decode cJ13_bitCount_95d88 8 = .ok (.lsub, 1) := by decide +kernel
theorem dJ13_bitCount_95d88_9 : decode cJ13_bitCount_95d88 9 = .ok (.lstore_n 0, 1) := by decide +kernel
theorem dJ13_bitCount_95d88_10 : decode cJ13_bitCount_95d88 10 = .ok (.lload_n 0, 1) := by decide +kernel
theorem dJ13_bitCount_95d88_11 : decode cJ13_bitCount_95d88 11 = .ok (.ldc2_w 316, 3) := by decide +kernel
theorem dJ13_bitCount_95d88_14 : decode cJ13_bitCount_95d88 14 = .ok (.land, 1) := by decide +kernel
theorem dJ13_bitCount_95d88_15 : decode cJ13_bitCount_95d88 15 = .ok (.lload_n 0, 1) := by decide +kernel
theorem dJ13_bitCount_95d88_16 : decode cJ13_bitCount_95d88 16 = .ok (.iconst 2, 1) := by decide +kernel
theorem dJ13_bitCount_95d88_17 : decode cJ13_bitCount_95d88 17 = .ok (.lushr, 1) := by decide +kernel
theorem dJ13_bitCount_95d88_18 : decode cJ13_bitCount_95d88 18 = .ok (.ldc2_w 316, 3) := by decide +kernel
theorem dJ13_bitCount_95d88_21 : decode cJ13_bitCount_95d88 21 = .ok (.land, 1) := by decide +kernel
theorem dJ13_bitCount_95d88_22 : decode cJ13_bitCount_95d88 22 = .ok (.ladd, 1) := by decide +kernel
theorem dJ13_bitCount_95d88_23 : decode cJ13_bitCount_95d88 23 = .ok (.lstore_n 0, 1) := by decide +kernel
theorem dJ13_bitCount_95d88_24 : decode cJ13_bitCount_95d88 24 = .ok (.lload_n 0, 1) := by decide +kernel
theorem dJ13_bitCount_95d88_25 : decode cJ13_bitCount_95d88 25 = .ok (.lload_n 0, 1) := by decide +kernel
theorem dJ13_bitCount_95d88_26 : decode cJ13_bitCount_95d88 26 = .ok (.iconst 4, 1) := by decide +kernel
theorem dJ13_bitCount_95d88_27 : decode cJ13_bitCount_95d88 27 = .ok (.lushr, 1) := by decide +kernel
theorem dJ13_bitCount_95d88_28 : decode cJ13_bitCount_95d88 28 = .ok (.ladd, 1) := by decide +kernel
theorem dJ13_bitCount_95d88_29 : decode cJ13_bitCount_95d88 29 = .ok (.ldc2_w 318, 3) := by decide +kernel
theorem dJ13_bitCount_95d88_32 : decode cJ13_bitCount_95d88 32 = .ok (.land, 1) := by decide +kernel
theorem dJ13_bitCount_95d88_33 : decode cJ13_bitCount_95d88 33 = .ok (.lstore_n 0, 1) := by decide +kernel
theorem dJ13_bitCount_95d88_34 : decode cJ13_bitCount_95d88 34 = .ok (.lload_n 0, 1) := by decide +kernel
theorem dJ13_bitCount_95d88_35 : decode cJ13_bitCount_95d88 35 = .ok (.lload_n 0, 1) := by decide +kernel
theorem dJ13_bitCount_95d88_36 : decode cJ13_bitCount_95d88 36 = .ok (.bipush 8, 2) := by decide +kernel
theorem dJ13_bitCount_95d88_38 : decode cJ13_bitCount_95d88 38 = .ok (.lushr, 1) := by decide +kernel
theorem dJ13_bitCount_95d88_39 : decode cJ13_bitCount_95d88 39 = .ok (.ladd, 1) := by decide +kernel
theorem dJ13_bitCount_95d88_40 : decode cJ13_bitCount_95d88 40 = .ok (.lstore_n 0, 1) := by decide +kernel
theorem dJ13_bitCount_95d88_41 : decode cJ13_bitCount_95d88 41 = .ok (.lload_n 0, 1) := by decide +kernel
theorem dJ13_bitCount_95d88_42 : decode cJ13_bitCount_95d88 42 = .ok (.lload_n 0, 1) := by decide +kernel
theorem dJ13_bitCount_95d88_43 : decode cJ13_bitCount_95d88 43 = .ok (.bipush 16, 2) := by decide +kernel
theorem dJ13_bitCount_95d88_45 : decode cJ13_bitCount_95d88 45 = .ok (.lushr, 1) := by decide +kernel
theorem dJ13_bitCount_95d88_46 : decode cJ13_bitCount_95d88 46 = .ok (.ladd, 1) := by decide +kernel
theorem dJ13_bitCount_95d88_47 : decode cJ13_bitCount_95d88 47 = .ok (.lstore_n 0, 1) := by decide +kernel
theorem dJ13_bitCount_95d88_48 : decode cJ13_bitCount_95d88 48 = .ok (.lload_n 0, 1) := by decide +kernel
theorem dJ13_bitCount_95d88_49 : decode cJ13_bitCount_95d88 49 = .ok (.lload_n 0, 1) := by decide +kernel
theorem dJ13_bitCount_95d88_50 : decode cJ13_bitCount_95d88 50 = .ok (.bipush 32, 2) := by decide +kernel
theorem dJ13_bitCount_95d88_52 : decode cJ13_bitCount_95d88 52 = .ok (.lushr, 1) := by decide +kernel
theorem dJ13_bitCount_95d88_53 : decode cJ13_bitCount_95d88 53 = .ok (.ladd, 1) := by decide +kernel
theorem dJ13_bitCount_95d88_54 : decode cJ13_bitCount_95d88 54 = .ok (.lstore_n 0, 1) := by decide +kernel
theorem dJ13_bitCount_95d88_55 : decode cJ13_bitCount_95d88 55 = .ok (.lload_n 0, 1) := by decide +kernel
theorem dJ13_bitCount_95d88_56 : decode cJ13_bitCount_95d88 56 = .ok (.l2i, 1) := by decide +kernel
theorem dJ13_bitCount_95d88_57 : decode cJ13_bitCount_95d88 57 = .ok (.bipush 127, 2) := by decide +kernel
theorem dJ13_bitCount_95d88_59 : decode cJ13_bitCount_95d88 59 = .ok (.iand, 1) := by decide +kernel
theorem dJ13_bitCount_95d88_60 : decode cJ13_bitCount_95d88 60 = .ok (.ireturn, 1) := by decide +kernel
theorem dJ6_bitCount_0f7a4_0 : decode cJ6_bitCount_0f7a4 0 = .ok (.iload_n 0, 1) := by decide +kernel
theorem dJ6_bitCount_0f7a4_1 : decode cJ6_bitCount_0f7a4 1 = .ok (.iload_n 0, 1) := by decide +kernel
theorem dJ6_bitCount_0f7a4_2 : decode cJ6_bitCount_0f7a4 2 = .ok (.iconst 1, 1) := by decide +kernel
theorem dJ6_bitCount_0f7a4_3 : decode cJ6_bitCount_0f7a4 3 = .ok (.iushr, 1) := by decide +kernel
theorem dJ6_bitCount_0f7a4_4 : decode cJ6_bitCount_0f7a4 4 = .ok (.ldc_w 265, 3) := by decide +kernel
theorem dJ6_bitCount_0f7a4_7 : decode cJ6_bitCount_0f7a4 7 = .ok (.iand, 1) := by decide +kernel
theorem dJ6_bitCount_0f7a4_8 : decode cJ6_bitCount_0f7a4 8 = .ok (.isub, 1) := by decide +kernel
theorem dJ6_bitCount_0f7a4_9 : decode cJ6_bitCount_0f7a4 9 = .ok (.istore_n 0, 1) := by decide +kernel
theorem dJ6_bitCount_0f7a4_10 : decode cJ6_bitCount_0f7a4 10 = .ok (.iload_n 0, 1) := by decide +kernel
theorem dJ6_bitCount_0f7a4_11 : decode cJ6_bitCount_0f7a4 11 = .ok (.ldc_w 266, 3) := by decide +kernel
theorem dJ6_bitCount_0f7a4_14 : decode cJ6_bitCount_0f7a4 14 = .ok (.iand, 1) := by decide +kernel
theorem dJ6_bitCount_0f7a4_15 : decode cJ6_bitCount_0f7a4 15 = .ok (.iload_n 0, 1) := by decide +kernel
theorem dJ6_bitCount_0f7a4_16 : decode cJ6_bitCount_0f7a4 16 = .ok (.iconst 2, 1) := by decide +kernel
theorem dJ6_bitCount_0f7a4_17 : decode cJ6_bitCount_0f7a4 17 = .ok (.iushr, 1) := by decide +kernel
theorem dJ6_bitCount_0f7a4_18 : decode cJ6_bitCount_0f7a4 18 = .ok (.ldc_w 266, 3) := by decide +kernel
theorem dJ6_bitCount_0f7a4_21 : decode cJ6_bitCount_0f7a4 21 = .ok (.iand, 1) := by decide +kernel
theorem dJ6_bitCount_0f7a4_22 : decode cJ6_bitCount_0f7a4 22 = .ok (.iadd, 1) := by decide +kernel
theorem dJ6_bitCount_0f7a4_23 : decode cJ6_bitCount_0f7a4 23 = .ok (.istore_n 0, 1) := by decide +kernel
theorem dJ6_bitCount_0f7a4_24 : decode cJ6_bitCount_0f7a4 24 = .ok (.iload_n 0, 1) := by decide +kernel
theorem dJ6_bitCount_0f7a4_25 : decode cJ6_bitCount_0f7a4 25 = .ok (.iload_n 0, 1) := by decide +kernel
theorem dJ6_bitCount_0f7a4_26 : decode cJ6_bitCount_0f7a4 26 = .ok (.iconst 4, 1) := by decide +kernel
theorem dJ6_bitCount_0f7a4_27 : decode cJ6_bitCount_0f7a4 27 = .ok (.iushr, 1) := by decide +kernel
theorem dJ6_bitCount_0f7a4_28 : decode cJ6_bitCount_0f7a4 28 = .ok (.iadd, 1) := by decide +kernel
theorem dJ6_bitCount_0f7a4_29 : decode cJ6_bitCount_0f7a4 29 = .ok (.ldc_w 267, 3) := by decide +kernel
theorem dJ6_bitCount_0f7a4_32 : decode cJ6_bitCount_0f7a4 32 = .ok (.iand, 1) := by decide +kernel
theorem dJ6_bitCount_0f7a4_33 : decode cJ6_bitCount_0f7a4 33 = .ok (.istore_n 0, 1) := by decide +kernel
theorem dJ6_bitCount_0f7a4_34 : decode cJ6_bitCount_0f7a4 34 = .ok (.iload_n 0, 1) := by decide +kernel
theorem dJ6_bitCount_0f7a4_35 : decode cJ6_bitCount_0f7a4 35 = .ok (.iload_n 0, 1) := by decide +kernel
theorem dJ6_bitCount_0f7a4_36 : decode cJ6_bitCount_0f7a4 36 = .ok (.bipush 8, 2) := by decide +kernel
theorem dJ6_bitCount_0f7a4_38 : decode cJ6_bitCount_0f7a4 38 = .ok (.iushr, 1) := by decide +kernel
theorem dJ6_bitCount_0f7a4_39 : decode cJ6_bitCount_0f7a4 39 = .ok (.iadd, 1) := by decide +kernel
theorem dJ6_bitCount_0f7a4_40 : decode cJ6_bitCount_0f7a4 40 = .ok (.istore_n 0, 1) := by decide +kernel
theorem dJ6_bitCount_0f7a4_41 : decode cJ6_bitCount_0f7a4 41 = .ok (.iload_n 0, 1) := by decide +kernel
theorem dJ6_bitCount_0f7a4_42 : decode cJ6_bitCount_0f7a4 42 = .ok (.iload_n 0, 1) := by decide +kernel
theorem dJ6_bitCount_0f7a4_43 : decode cJ6_bitCount_0f7a4 43 = .ok (.bipush 16, 2) := by decide +kernel
theorem dJ6_bitCount_0f7a4_45 : decode cJ6_bitCount_0f7a4 45 = .ok (.iushr, 1) := by decide +kernel
theorem dJ6_bitCount_0f7a4_46 : decode cJ6_bitCount_0f7a4 46 = .ok (.iadd, 1) := by decide +kernel
theorem dJ6_bitCount_0f7a4_47 : decode cJ6_bitCount_0f7a4 47 = .ok (.istore_n 0, 1) := by decide +kernel
theorem dJ6_bitCount_0f7a4_48 : decode cJ6_bitCount_0f7a4 48 = .ok (.iload_n 0, 1) := by decide +kernel
theorem dJ6_bitCount_0f7a4_49 : decode cJ6_bitCount_0f7a4 49 = .ok (.bipush 63, 2) := by decide +kernel
theorem dJ6_bitCount_0f7a4_51 : decode cJ6_bitCount_0f7a4 51 = .ok (.iand, 1) := by decide +kernel
theorem dJ6_bitCount_0f7a4_52 : decode cJ6_bitCount_0f7a4 52 = .ok (.ireturn, 1) := by decide +kernel
theorem dJ9_abs_0f7a4_0 : decode cJ9_abs_0f7a4 0 = .ok (.iload_n 0, 1) := by decide +kernel
theorem dJ9_abs_0f7a4_1 : decode cJ9_abs_0f7a4 1 = .ok (.ifCond .ge 8, 3) := by decide +kernel
theorem dJ9_abs_0f7a4_4 : decode cJ9_abs_0f7a4 4 = .ok (.iload_n 0, 1) := by decide +kernel
theorem dJ9_abs_0f7a4_5 : decode cJ9_abs_0f7a4 5 = .ok (.ineg, 1) := by decide +kernel
theorem dJ9_abs_0f7a4_6 : decode cJ9_abs_0f7a4 6 = .ok (.goto 4, 3) := by decide +kernel
theorem dJ9_abs_0f7a4_9 : decode cJ9_abs_0f7a4 9 = .ok (.iload_n 0, 1) := by decide +kernel
theorem dJ9_abs_0f7a4_10 : decode cJ9_abs_0f7a4 10 = .ok (.ireturn, 1) := by decide +kernel
theorem dJ9_max_7cf53_0 : decode cJ9_max_7cf53 0 = .ok (.iload_n 0, 1) := by decide +kernel
theorem dJ9_max_7cf53_1 : decode cJ9_max_7cf53 1 = .ok (.iload_n 1, 1) := by decide +kernel
theorem dJ9_max_7cf53_2 : decode cJ9_max_7cf53 2 = .ok (.if_icmp .lt 7, 3) := by decide +kernel
theorem dJ9_max_7cf53_5 : decode cJ9_max_7cf53 5 = .ok (.iload_n 0, 1) := by decide +kernel
theorem dJ9_max_7cf53_6 : decode cJ9_max_7cf53 6 = .ok (.goto 4, 3) := by decide +kernel
theorem dJ9_max_7cf53_9 : decode cJ9_max_7cf53 9 = .ok (.iload_n 1, 1) := by decide +kernel
theorem dJ9_max_7cf53_10 : decode cJ9_max_7cf53 10 = .ok (.ireturn, 1) := by decide +kernel
theorem dJ9_min_7cf53_0 : decode cJ9_min_7cf53 0 = .ok (.iload_n 0, 1) := by decide +kernel
theorem dJ9_min_7cf53_1 : decode cJ9_min_7cf53 1 = .ok (.iload_n 1, 1) := by decide +kernel
theorem dJ9_min_7cf53_2 : decode cJ9_min_7cf53 2 = .ok (.if_icmp .gt 7, 3) := by decide +kernel
theorem dJ9_min_7cf53_5 : decode cJ9_min_7cf53 5 = .ok (.iload_n 0, 1) := by decide +kernel
theorem dJ9_min_7cf53_6 : decode cJ9_min_7cf53 6 = .ok (.goto 4, 3) := by decide +kernel
theorem dJ9_min_7cf53_9 : decode cJ9_min_7cf53 9 = .ok (.iload_n 1, 1) := by decide +kernel
theorem dJ9_min_7cf53_10 : decode cJ9_min_7cf53 10 = .ok (.ireturn, 1) := by decide +kernel
theorem dX11_bit_0 : decode cX11_bit 0 = .ok (.lconst 1, 1) := by decide +kernel
theorem dX11_bit_1 : decode cX11_bit 1 = .ok (.iload_n 0, 1) := by decide +kernel
theorem dX11_bit_2 : decode cX11_bit 2 = .ok (.lshl, 1) := by decide +kernel
theorem dX11_bit_3 : decode cX11_bit 3 = .ok (.lreturn, 1) := by decide +kernel
theorem dX11_distance_0 : decode cX11_distance 0 = .ok (.iload_n 1, 1) := by decide +kernel
theorem dX11_distance_1 : decode cX11_distance 1 = .ok (.bipush 7, 2) := by decide +kernel
theorem dX11_distance_3 : decode cX11_distance 3 = .ok (.iand, 1) := by decide +kernel
theorem dX11_distance_4 : decode cX11_distance 4 = .ok (.iload_n 0, 1) := by decide +kernel
theorem dX11_distance_5 : decode cX11_distance 5 = .ok (.bipush 7, 2) := by decide +kernel
theorem dX11_distance_7 : decode cX11_distance 7 = .ok (.iand, 1) := by decide +kernel
theorem dX11_distance_8 : decode cX11_distance 8 = .ok (.isub, 1) := by decide +kernel
theorem dX11_distance_9 : decode cX11_distance 9 = .ok (.istore_n 2, 1) := by decide +kernel
theorem dX11_distance_10 : decode cX11_distance 10 = .ok (.iload_n 1, 1) := by decide +kernel
theorem dX11_distance_11 : decode cX11_distance 11 = .ok (.iconst 3, 1) := by decide +kernel
theorem dX11_distance_12 : decode cX11_distance 12 = .ok (.ishr, 1) := by decide +kernel
theorem dX11_distance_13 : decode cX11_distance 13 = .ok (.iload_n 0, 1) := by decide +kernel
theorem dX11_distance_14 : decode cX11_distance 14 = .ok (.iconst 3, 1) := by decide +kernel
theorem dX11_distance_15 : decode cX11_distance 15 = .ok (.ishr, 1) := by decide +kernel
theorem dX11_distance_16 : decode cX11_distance 16 = .ok (.isub, 1) := by decide +kernel
theorem dX11_distance_17 : decode cX11_distance 17 = .ok (.istore_n 3, 1) := by decide +kernel
theorem dX11_distance_18 : decode cX11_distance 18 = .ok (.iload_n 2, 1) := by decide +kernel
theorem dX11_distance_19 : decode cX11_distance 19 = .ok (.iload_n 2, 1) := by decide +kernel
theorem dX11_distance_20 : decode cX11_distance 20 = .ok (.imul, 1) := by decide +kernel
theorem dX11_distance_21 : decode cX11_distance 21 = .ok (.iload_n 3, 1) := by decide +kernel
theorem dX11_distance_22 : decode cX11_distance 22 = .ok (.iload_n 3, 1) := by decide +kernel
theorem dX11_distance_23 : decode cX11_distance 23 = .ok (.imul, 1) := by decide +kernel
theorem dX11_distance_24 : decode cX11_distance 24 = .ok (.iadd, 1) := by decide +kernel
theorem dX11_distance_25 : decode cX11_distance 25 = .ok (.ireturn, 1) := by decide +kernel
theorem dX11_has_0 : decode cX11_has 0 = .ok (.lload_n 0, 1) := by decide +kernel
theorem dX11_has_1 : decode cX11_has 1 = .ok (.iload_n 2, 1) := by decide +kernel
theorem dX11_has_2 : decode cX11_has 2 = .ok (.lushr, 1) := by decide +kernel
theorem dX11_has_3 : decode cX11_has 3 = .ok (.lconst 1, 1) := by decide +kernel
theorem dX11_has_4 : decode cX11_has 4 = .ok (.land, 1) := by decide +kernel
theorem dX11_has_5 : decode cX11_has 5 = .ok (.lconst 0, 1) := by decide +kernel
theorem dX11_has_6 : decode cX11_has 6 = .ok (.lcmp, 1) := by decide +kernel
theorem dX11_has_7 : decode cX11_has 7 = .ok (.ifCond .eq 7, 3) := by decide +kernel
theorem dX11_has_10 : decode cX11_has 10 = .ok (.iconst 1, 1) := by decide +kernel
theorem dX11_has_11 : decode cX11_has 11 = .ok (.goto 4, 3) := by decide +kernel
theorem dX11_has_14 : decode cX11_has 14 = .ok (.iconst 0, 1) := by decide +kernel
theorem dX11_has_15 : decode cX11_has 15 = .ok (.ireturn, 1) := by decide +kernel
theorem dX11_isTold_0 : decode cX11_isTold 0 = .ok (.iload_n 0, 1) := by decide +kernel
theorem dX11_isTold_1 : decode cX11_isTold 1 = .ok (.tableswitch 107 0 4 #[35, 66, 66, 74, 81], 35) := by decide +kernel
theorem dX11_isTold_36 : decode cX11_isTold 36 = .ok (.iload_n 1, 1) := by decide +kernel
theorem dX11_isTold_37 : decode cX11_isTold 37 = .ok (.iconst 0, 1) := by decide +kernel
theorem dX11_isTold_38 : decode cX11_isTold 38 = .ok (.bipush 98, 2) := by decide +kernel
theorem dX11_isTold_40 : decode cX11_isTold 40 = .ok (.invokestatic 113, 3) := by decide +kernel
theorem dX11_isTold_43 : decode cX11_isTold 43 = .ok (.ifCond .eq 22, 3) := by decide +kernel
theorem dX11_isTold_46 : decode cX11_isTold 46 = .ok (.iload_n 2, 1) := by decide +kernel
theorem dX11_isTold_47 : decode cX11_isTold 47 = .ok (.iconst 0, 1) := by decide +kernel
theorem dX11_isTold_48 : decode cX11_isTold 48 = .ok (.bipush 98, 2) := by decide +kernel
theorem dX11_isTold_50 : decode cX11_isTold 50 = .ok (.invokestatic 113, 3) := by decide +kernel
theorem dX11_isTold_53 : decode cX11_isTold 53 = .ok (.ifCond .eq 12, 3) := by decide +kernel
theorem dX11_isTold_56 : decode cX11_isTold 56 = .ok (.iload_n 1, 1) := by decide +kernel
theorem dX11_isTold_57 : decode cX11_isTold 57 = .ok (.iload_n 2, 1) := by decide +kernel
theorem dX11_isTold_58 : decode cX11_isTold 58 = .ok (.if_icmp .gt 7, 3) := by decide +kernel
theorem dX11_isTold_61 : decode cX11_isTold 61 = .ok (.iconst 1, 1) := by decide +kernel
theorem dX11_isTold_62 : decode cX11_isTold 62 = .ok (.goto 4, 3) := by decide +kernel
theorem dX11_isTold_65 : decode cX11_isTold 65 = .ok (.iconst 0, 1) := by decide +kernel
theorem dX11_isTold_66 : decode cX11_isTold 66 = .ok (.ireturn, 1) := by decide +kernel
theorem dX11_isTold_67 : decode cX11_isTold 67 = .ok (.iload_n 2, 1) := by decide +kernel
theorem dX11_isTold_68 : decode cX11_isTold 68 = .ok (.iconst 0, 1) := by decide +kernel
theorem dX11_isTold_69 : decode cX11_isTold 69 = .ok (.bipush 98, 2) := by decide +kernel
theorem dX11_isTold_71 : decode cX11_isTold 71 = .ok (.invokestatic 113, 3) := by decide +kernel
theorem dX11_isTold_74 : decode cX11_isTold 74 = .ok (.ireturn, 1) := by decide +kernel
theorem dX11_isTold_75 : decode cX11_isTold 75 = .ok (.iload_n 1, 1) := by decide +kernel
theorem dX11_isTold_76 : decode cX11_isTold 76 = .ok (.iconst 0, 1) := by decide +kernel
theorem dX11_isTold_77 : decode cX11_isTold 77 = .ok (.iconst 3, 1) := by decide +kernel
theorem dX11_isTold_78 : decode cX11_isTold 78 = .ok (.invokestatic 113, 3) := by decide +kernel
theorem dX11_isTold_81 : decode cX11_isTold 81 = .ok (.ireturn, 1) := by decide +kernel
theorem dX11_isTold_82 : decode cX11_isTold 82 = .ok (.iload_n 1, 1) := by decide +kernel
theorem dX11_isTold_83 : decode cX11_isTold 83 = .ok (.iconst 0, 1) := by decide +kernel
theorem dX11_isTold_84 : decode cX11_isTold 84 = .ok (.bipush 20, 2) := by decide +kernel
theorem dX11_isTold_86 : decode cX11_isTold 86 = .ok (.invokestatic 113, 3) := by decide +kernel
theorem dX11_isTold_89 : decode cX11_isTold 89 = .ok (.ifCond .eq 17, 3) := by decide +kernel
theorem dX11_isTold_92 : decode cX11_isTold 92 = .ok (.iload_n 2, 1) := by decide +kernel
theorem dX11_isTold_93 : decode cX11_isTold 93 = .ok (.iconst 1, 1) := by decide +kernel
theorem dX11_isTold_94 : decode cX11_isTold 94 = .ok (.bipush 98, 2) := by decide +kernel
theorem dX11_isTold_96 : decode cX11_isTold 96 = .ok (.invokestatic 113, 3) := by decide +kernel
theorem dX11_isTold_99 : decode cX11_isTold 99 = .ok (.ifCond .eq 7, 3) := by decide +kernel
theorem dX11_isTold_102 : decode cX11_isTold 102 = .ok (.iconst 1, 1) := by decide +kernel
theorem dX11_isTold_103 : decode cX11_isTold 103 = .ok (.goto 4, 3) := by decide +kernel
theorem dX11_isTold_106 : decode cX11_isTold 106 = .ok (.iconst 0, 1) := by decide +kernel
theorem dX11_isTold_107 : decode cX11_isTold 107 = .ok (.ireturn, 1) := by decide +kernel
theorem dX11_isTold_108 : decode cX11_isTold 108 = .ok (.iconst 0, 1) := by decide +kernel
theorem dX11_isTold_109 : decode cX11_isTold 109 = .ok (.ireturn, 1) := by decide +kernel
theorem dX11_lowest_0 : decode cX11_lowest 0 = .ok (.lload_n 0, 1) := by decide +kernel
theorem dX11_lowest_1 : decode cX11_lowest 1 = .ok (.lload_n 0, 1) := by decide +kernel
theorem dX11_lowest_2 : decode cX11_lowest 2 = .ok (.lneg, 1) := by decide +kernel
theorem dX11_lowest_3 : decode cX11_lowest 3 = .ok (.land, 1) := by decide +kernel
theorem dX11_lowest_4 : decode cX11_lowest 4 = .ok (.lconst 1, 1) := by decide +kernel
theorem dX11_lowest_5 : decode cX11_lowest 5 = .ok (.lsub, 1) := by decide +kernel
theorem dX11_lowest_6 : decode cX11_lowest 6 = .ok (.invokestatic 168, 3) := by decide +kernel
theorem dX11_lowest_9 : decode cX11_lowest 9 = .ok (.ireturn, 1) := by decide +kernel
theorem dX11_within_0 : decode cX11_within 0 = .ok (.iload_n 0, 1) := by decide +kernel
theorem dX11_within_1 : decode cX11_within 1 = .ok (.iload_n 1, 1) := by decide +kernel
theorem dX11_within_2 : decode cX11_within 2 = .ok (.if_icmp .lt 12, 3) := by decide +kernel
theorem dX11_within_5 : decode cX11_within 5 = .ok (.iload_n 0, 1) := by decide +kernel
theorem dX11_within_6 : decode cX11_within 6 = .ok (.iload_n 2, 1) := by decide +kernel
theorem dX11_within_7 : decode cX11_within 7 = .ok (.if_icmp .gt 7, 3) := by decide +kernel
theorem dX11_within_10 : decode cX11_within 10 = .ok (.iconst 1, 1) := by decide +kernel
theorem dX11_within_11 : decode cX11_within 11 = .ok (.goto 4, 3) := by decide +kernel
theorem dX11_within_14 : decode cX11_within 14 = .ok (.iconst 0, 1) := by decide +kernel
theorem dX11_within_15 : decode cX11_within 15 = .ok (.ireturn, 1) := by decide +kernel
theorem dX12_asNumber_0 : decode cX12_asNumber 0 = .ok (.iload_n 0, 1) := by decide +kernel
theorem dX12_asNumber_1 : decode cX12_asNumber 1 = .ok (.ifCond .eq 7, 3) := by decide +kernel
theorem dX12_asNumber_4 : decode cX12_asNumber 4 = .ok (.iconst 1, 1) := by decide +kernel
theorem dX12_asNumber_5 : decode cX12_asNumber 5 = .ok (.goto 4, 3) := by decide +kernel
theorem dX12_asNumber_8 : decode cX12_asNumber 8 = .ok (.iconst 0, 1) := by decide +kernel
theorem dX12_asNumber_9 : decode cX12_asNumber 9 = .ok (.ireturn, 1) := by decide +kernel
theorem dX12_count_0 : decode cX12_count 0 = .ok (.iconst 0, 1) := by decide +kernel
theorem dX12_count_1 : decode cX12_count 1 = .ok (.istore_n 2, 1) := by decide +kernel
theorem dX12_count_2 : decode cX12_count 2 = .ok (.iconst 0, 1) := by decide +kernel
theorem dX12_count_3 : decode cX12_count 3 = .ok (.istore_n 3, 1) := by decide +kernel
theorem dX12_count_4 : decode cX12_count 4 = .ok (.iload_n 3, 1) := by decide +kernel
theorem dX12_count_5 : decode cX12_count 5 = .ok (.bipush 64, 2) := by decide +kernel
theorem dX12_count_7 : decode cX12_count 7 = .ok (.if_icmp .ge 18, 3) := by decide +kernel
theorem dX12_count_10 : decode cX12_count 10 = .ok (.iload_n 2, 1) := by decide +kernel
theorem dX12_count_11 : decode cX12_count 11 = .ok (.lload_n 0, 1) := by decide +kernel
theorem dX12_count_12 : decode cX12_count 12 = .ok (.iload_n 3, 1) := by decide +kernel
theorem dX12_count_13 : decode cX12_count 13 = .ok (.lushr, 1) := by decide +kernel
theorem dX12_count_14 : decode cX12_count 14 = .ok (.lconst 1, 1) := by decide +kernel
theorem dX12_count_15 : decode cX12_count 15 = .ok (.land, 1) := by decide +kernel
theorem dX12_count_16 : decode cX12_count 16 = .ok (.l2i, 1) := by decide +kernel
theorem dX12_count_17 : decode cX12_count 17 = .ok (.iadd, 1) := by decide +kernel
theorem dX12_count_18 : decode cX12_count 18 = .ok (.istore_n 2, 1) := by decide +kernel
theorem dX12_count_19 : decode cX12_count 19 = .ok (.iinc 3 1, 3) := by decide +kernel
theorem dX12_count_22 : decode cX12_count 22 = .ok (.goto (-18), 3) := by decide +kernel
theorem dX12_count_25 : decode cX12_count 25 = .ok (.iload_n 2, 1) := by decide +kernel
theorem dX12_count_26 : decode cX12_count 26 = .ok (.ireturn, 1) := by decide +kernel
theorem dX12_differs_0 : decode cX12_differs 0 = .ok (.lload_n 0, 1) := by decide +kernel
theorem dX12_differs_1 : decode cX12_differs 1 = .ok (.lload_n 2, 1) := by decide +kernel
theorem dX12_differs_2 : decode cX12_differs 2 = .ok (.lcmp, 1) := by decide +kernel
theorem dX12_differs_3 : decode cX12_differs 3 = .ok (.ifCond .eq 7, 3) := by decide +kernel
theorem dX12_differs_6 : decode cX12_differs 6 = .ok (.iconst 1, 1) := by decide +kernel
theorem dX12_differs_7 : decode cX12_differs 7 = .ok (.goto 4, 3) := by decide +kernel
theorem dX12_differs_10 : decode cX12_differs 10 = .ok (.iconst 0, 1) := by decide +kernel
theorem dX12_differs_11 : decode cX12_differs 11 = .ok (.ireturn, 1) := by decide +kernel
theorem dX12_distance_0 : decode cX12_distance 0 = .ok (.iload_n 0, 1) := by decide +kernel
theorem dX12_distance_1 : decode cX12_distance 1 = .ok (.bipush 8, 2) := by decide +kernel
theorem dX12_distance_3 : decode cX12_distance 3 = .ok (.irem, 1) := by decide +kernel
theorem dX12_distance_4 : decode cX12_distance 4 = .ok (.iload_n 1, 1) := by decide +kernel
theorem dX12_distance_5 : decode cX12_distance 5 = .ok (.bipush 8, 2) := by decide +kernel
theorem dX12_distance_7 : decode cX12_distance 7 = .ok (.irem, 1) := by decide +kernel
theorem dX12_distance_8 : decode cX12_distance 8 = .ok (.isub, 1) := by decide +kernel
theorem dX12_distance_9 : decode cX12_distance 9 = .ok (.istore_n 2, 1) := by decide +kernel
theorem dX12_distance_10 : decode cX12_distance 10 = .ok (.iload_n 0, 1) := by decide +kernel
theorem dX12_distance_11 : decode cX12_distance 11 = .ok (.bipush 8, 2) := by decide +kernel
theorem dX12_distance_13 : decode cX12_distance 13 = .ok (.idiv, 1) := by decide +kernel
theorem dX12_distance_14 : decode cX12_distance 14 = .ok (.iload_n 1, 1) := by decide +kernel
theorem dX12_distance_15 : decode cX12_distance 15 = .ok (.bipush 8, 2) := by decide +kernel
theorem dX12_distance_17 : decode cX12_distance 17 = .ok (.idiv, 1) := by decide +kernel
theorem dX12_distance_18 : decode cX12_distance 18 = .ok (.isub, 1) := by decide +kernel
theorem dX12_distance_19 : decode cX12_distance 19 = .ok (.istore_n 3, 1) := by decide +kernel
theorem dX12_distance_20 : decode cX12_distance 20 = .ok (.iload_n 2, 1) := by decide +kernel
theorem dX12_distance_21 : decode cX12_distance 21 = .ok (.iload_n 2, 1) := by decide +kernel
theorem dX12_distance_22 : decode cX12_distance 22 = .ok (.imul, 1) := by decide +kernel
theorem dX12_distance_23 : decode cX12_distance 23 = .ok (.iload_n 3, 1) := by decide +kernel
theorem dX12_distance_24 : decode cX12_distance 24 = .ok (.iload_n 3, 1) := by decide +kernel
theorem dX12_distance_25 : decode cX12_distance 25 = .ok (.imul, 1) := by decide +kernel
theorem dX12_distance_26 : decode cX12_distance 26 = .ok (.iadd, 1) := by decide +kernel
theorem dX12_distance_27 : decode cX12_distance 27 = .ok (.ireturn, 1) := by decide +kernel
theorem dX12_firstOf_0 : decode cX12_firstOf 0 = .ok (.iconst 0, 1) := by decide +kernel
theorem dX12_firstOf_1 : decode cX12_firstOf 1 = .ok (.istore_n 2, 1) := by decide +kernel
theorem dX12_firstOf_2 : decode cX12_firstOf 2 = .ok (.iload_n 2, 1) := by decide +kernel
theorem dX12_firstOf_3 : decode cX12_firstOf 3 = .ok (.bipush 64, 2) := by decide +kernel
theorem dX12_firstOf_5 : decode cX12_firstOf 5 = .ok (.if_icmp .ge 19, 3) := by decide +kernel
theorem dX12_firstOf_8 : decode cX12_firstOf 8 = .ok (.lload_n 0, 1) := by decide +kernel
theorem dX12_firstOf_9 : decode cX12_firstOf 9 = .ok (.iload_n 2, 1) := by decide +kernel
theorem dX12_firstOf_10 : decode cX12_firstOf 10 = .ok (.invokestatic 162, 3) := by decide +kernel
theorem dX12_firstOf_13 : decode cX12_firstOf 13 = .ok (.ifCond .eq 5, 3) := by decide +kernel
theorem dX12_firstOf_16 : decode cX12_firstOf 16 = .ok (.iload_n 2, 1) := by decide +kernel
theorem dX12_firstOf_17 : decode cX12_firstOf 17 = .ok (.ireturn, 1) := by decide +kernel
theorem dX12_firstOf_18 : decode cX12_firstOf 18 = .ok (.iinc 2 1, 3) := by decide +kernel
theorem dX12_firstOf_21 : decode cX12_firstOf 21 = .ok (.goto (-19), 3) := by decide +kernel
theorem dX12_firstOf_24 : decode cX12_firstOf 24 = .ok (.bipush (-9), 2) := by decide +kernel
theorem dX12_firstOf_26 : decode cX12_firstOf 26 = .ok (.ireturn, 1) := by decide +kernel
theorem dX12_greater_0 : decode cX12_greater 0 = .ok (.iload_n 0, 1) := by decide +kernel
theorem dX12_greater_1 : decode cX12_greater 1 = .ok (.iload_n 1, 1) := by decide +kernel
theorem dX12_greater_2 : decode cX12_greater 2 = .ok (.if_icmp .le 7, 3) := by decide +kernel
theorem dX12_greater_5 : decode cX12_greater 5 = .ok (.iload_n 0, 1) := by decide +kernel
theorem dX12_greater_6 : decode cX12_greater 6 = .ok (.goto 4, 3) := by decide +kernel
theorem dX12_greater_9 : decode cX12_greater 9 = .ok (.iload_n 1, 1) := by decide +kernel
theorem dX12_greater_10 : decode cX12_greater 10 = .ok (.ireturn, 1) := by decide +kernel
theorem dX12_hasBit_0 : decode cX12_hasBit 0 = .ok (.lload_n 0, 1) := by decide +kernel
theorem dX12_hasBit_1 : decode cX12_hasBit 1 = .ok (.iload_n 2, 1) := by decide +kernel
theorem dX12_hasBit_2 : decode cX12_hasBit 2 = .ok (.lushr, 1) := by decide +kernel
theorem dX12_hasBit_3 : decode cX12_hasBit 3 = .ok (.lconst 1, 1) := by decide +kernel
theorem dX12_hasBit_4 : decode cX12_hasBit 4 = .ok (.land, 1) := by decide +kernel
theorem dX12_hasBit_5 : decode cX12_hasBit 5 = .ok (.lconst 1, 1) := by decide +kernel
theorem dX12_hasBit_6 : decode cX12_hasBit 6 = .ok (.lcmp, 1) := by decide +kernel
theorem dX12_hasBit_7 : decode cX12_hasBit 7 = .ok (.ifCond .ne 7, 3) := by decide +kernel
theorem dX12_hasBit_10 : decode cX12_hasBit 10 = .ok (.iconst 1, 1) := by decide +kernel
theorem dX12_hasBit_11 : decode cX12_hasBit 11 = .ok (.goto 4, 3) := by decide +kernel
theorem dX12_hasBit_14 : decode cX12_hasBit 14 = .ok (.iconst 0, 1) := by decide +kernel
theorem dX12_hasBit_15 : decode cX12_hasBit 15 = .ok (.ireturn, 1) := by decide +kernel
theorem dX12_in_0 : decode cX12_in 0 = .ok (.lload_n 0, 1) := by decide +kernel
theorem dX12_in_1 : decode cX12_in 1 = .ok (.lload_n 2, 1) := by decide +kernel
theorem dX12_in_2 : decode cX12_in 2 = .ok (.lcmp, 1) := by decide +kernel
theorem dX12_in_3 : decode cX12_in 3 = .ok (.ifCond .lt 14, 3) := by decide +kernel
theorem dX12_in_6 : decode cX12_in 6 = .ok (.lload_n 0, 1) := by decide +kernel
theorem dX12_in_7 : decode cX12_in 7 = .ok (.lload 4, 2) := by decide +kernel
theorem dX12_in_9 : decode cX12_in 9 = .ok (.lcmp, 1) := by decide +kernel
theorem dX12_in_10 : decode cX12_in 10 = .ok (.ifCond .gt 7, 3) := by decide +kernel
theorem dX12_in_13 : decode cX12_in 13 = .ok (.iconst 1, 1) := by decide +kernel
theorem dX12_in_14 : decode cX12_in 14 = .ok (.goto 4, 3) := by decide +kernel
theorem dX12_in_17 : decode cX12_in 17 = .ok (.iconst 0, 1) := by decide +kernel
theorem dX12_in_18 : decode cX12_in 18 = .ok (.ireturn, 1) := by decide +kernel
theorem dX12_isBeyond_0 : decode cX12_isBeyond 0 = .ok (.iload_n 0, 1) := by decide +kernel
theorem dX12_isBeyond_1 : decode cX12_isBeyond 1 = .ok (.ifCond .lt 19, 3) := by decide +kernel
theorem dX12_isBeyond_4 : decode cX12_isBeyond 4 = .ok (.lload_n 1, 1) := by decide +kernel
theorem dX12_isBeyond_5 : decode cX12_isBeyond 5 = .ok (.lconst 0, 1) := by decide +kernel
theorem dX12_isBeyond_6 : decode cX12_isBeyond 6 = .ok (.lcmp, 1) := by decide +kernel
theorem dX12_isBeyond_7 : decode cX12_isBeyond 7 = .ok (.ifCond .lt 13, 3) := by decide +kernel
theorem dX12_isBeyond_10 : decode cX12_isBeyond 10 = .ok (.iload_n 0, 1) := by decide +kernel
theorem dX12_isBeyond_11 : decode cX12_isBeyond 11 = .ok (.i2l, 1) := by decide +kernel
theorem dX12_isBeyond_12 : decode cX12_isBeyond 12 = .ok (.lload_n 1, 1) := by decide +kernel
theorem dX12_isBeyond_13 : decode cX12_isBeyond 13 = .ok (.ladd, 1) := by decide +kernel
theorem dX12_isBeyond_14 : decode cX12_isBeyond 14 = .ok (.iload_n 3, 1) := by decide +kernel
theorem dX12_isBeyond_15 : decode cX12_isBeyond 15 = .ok (.i2l, 1) := by decide +kernel
theorem dX12_isBeyond_16 : decode cX12_isBeyond 16 = .ok (.lcmp, 1) := by decide +kernel
theorem dX12_isBeyond_17 : decode cX12_isBeyond 17 = .ok (.ifCond .le 7, 3) := by decide +kernel
theorem dX12_isBeyond_20 : decode cX12_isBeyond 20 = .ok (.iconst 1, 1) := by decide +kernel
theorem dX12_isBeyond_21 : decode cX12_isBeyond 21 = .ok (.goto 4, 3) := by decide +kernel
theorem dX12_isBeyond_24 : decode cX12_isBeyond 24 = .ok (.iconst 0, 1) := by decide +kernel
theorem dX12_isBeyond_25 : decode cX12_isBeyond 25 = .ok (.ireturn, 1) := by decide +kernel
theorem dX12_lost_0 : decode cX12_lost 0 = .ok (.ldc2_w 160, 3) := by decide +kernel
theorem dX12_lost_3 : decode cX12_lost 3 = .ok (.lreturn, 1) := by decide +kernel
theorem dX12_sizeOf_0 : decode cX12_sizeOf 0 = .ok (.iload_n 0, 1) := by decide +kernel
theorem dX12_sizeOf_1 : decode cX12_sizeOf 1 = .ok (.ifCond .ge 8, 3) := by decide +kernel
theorem dX12_sizeOf_4 : decode cX12_sizeOf 4 = .ok (.iload_n 0, 1) := by decide +kernel
theorem dX12_sizeOf_5 : decode cX12_sizeOf 5 = .ok (.ineg, 1) := by decide +kernel
theorem dX12_sizeOf_6 : decode cX12_sizeOf 6 = .ok (.goto 4, 3) := by decide +kernel
theorem dX12_sizeOf_9 : decode cX12_sizeOf 9 = .ok (.iload_n 0, 1) := by decide +kernel
theorem dX12_sizeOf_10 : decode cX12_sizeOf 10 = .ok (.ireturn, 1) := by decide +kernel
theorem T_X12_in_0 {ph : Bool} {d kc ks : Nat} {σ : zSt} {Q : Option zV → zSt → Prop} {a1 : Int64} {a2 : Int64} {a3 : Int64} (h : ((((lg_cmp a1 a2) < 0) ∨ (0 < (lg_cmp a1 a3))) → (Q (some (.inl 0)) σ)) ∧ (¬ (((lg_cmp a1 a2) < 0) ∨ (0 < (lg_cmp a1 a3))) → (Q (some (.inl 1)) σ))) : zE ph (d + 1) kc ks M_X12_in 0 [some (.inr (.inl a1)), none, some (.inr (.inl a2)), none, some (.inr (.inl a3)), none] [] σ Q := (r_lload_n dX12_in_0 rfl rfl (r_lload_n dX12_in_1 rfl rfl (r_lcmp dX12_in_2 (r_if_lt dX12_in_3 rfl (fun c1 => (r_iconst (v := 0) dX12_in_17 rfl (r_iret ⟨dX12_in_18, _, rfl, rfl⟩ (h.1 (Or.inl c1))))) (fun c1 => (r_lload_n dX12_in_6 rfl rfl (r_lload dX12_in_7 rfl (r_lcmp dX12_in_9 (r_if_gt dX12_in_10 rfl (fun c2 => (r_iconst (v := 0) dX12_in_17 rfl (r_iret ⟨dX12_in_18, _, rfl, rfl⟩ (h.1 (Or.inr c2))))) (fun c2 => (r_iconst (v := 1) dX12_in_13 rfl (r_goto dX12_in_14 rfl (r_iret ⟨dX12_in_18, _, rfl, rfl⟩ (h.2 (fun z => z.elim c1 c2)))))))))))))))
theorem T_X12_lost_0 {ph : Bool} {d kc ks : Nat} {σ : zSt} {Q : Option zV → zSt → Prop} (h : Q (some (.inr (.inl ((-9223372036854775808))))) σ) : zE ph (d + 1) kc ks M_X12_lost 0 [] [] σ Q := (r_ldc2 (v := (-9223372036854775808)) ct_RX12_160 dX12_lost_0 (r_lret ⟨dX12_lost_3, rfl⟩ h))
theorem T_X12_sizeOf_0 {ph : Bool} {d kc ks : Nat} {σ : zSt} {Q : Option zV → zSt → Prop} {a1 : Int32} (h : (∀ x2 : Int32, x2 = (if 0 ≤ a1 then a1 else (-a1)) → (Q (some (.inl x2)) σ))) : zE ph (d + 1) kc ks M_X12_sizeOf 0 [some (.inl a1)] [] σ Q := (r_iload_n dX12_sizeOf_0 rfl rfl (r_if_ge dX12_sizeOf_1 rfl (fun c1 => (r_iload_n dX12_sizeOf_9 rfl rfl (r_iret ⟨dX12_sizeOf_10, _, rfl, rfl⟩ (h a1 (by rw [if_pos c1]))))) (fun c1 => (r_iload_n dX12_sizeOf_4 rfl rfl (r_ineg dX12_sizeOf_5 (r_goto dX12_sizeOf_6 rfl (r_iret ⟨dX12_sizeOf_10, _, rfl, rfl⟩ (h (-a1) (by rw [if_neg c1])))))))))
theorem T_X12_greater_0 {ph : Bool} {d kc ks : Nat} {σ : zSt} {Q : Option zV → zSt → Prop} {a1 : Int32} {a2 : Int32} (h : (∀ x2 : Int32, x2 = (if a1 ≤ a2 then a2 else a1) → (Q (some (.inl x2)) σ))) : zE ph (d + 1) kc ks M_X12_greater 0 [some (.inl a1), some (.inl a2)] [] σ Q := (r_iload_n dX12_greater_0 rfl rfl (r_iload_n dX12_greater_1 rfl rfl (r_icmp_le dX12_greater_2 rfl (fun c1 => (r_iload_n dX12_greater_9 rfl rfl (r_iret ⟨dX12_greater_10, _, rfl, rfl⟩ (h a2 (by rw [if_pos c1]))))) (fun c1 => (r_iload_n dX12_greater_5 rfl rfl (r_goto dX12_greater_6 rfl (r_iret ⟨dX12_greater_10, _, rfl, rfl⟩ (h a1 (by rw [if_neg c1])))))))))
theorem T_X12_hasBit_0 {ph : Bool} {d kc ks : Nat} {σ : zSt} {Q : Option zV → zSt → Prop} {a1 : Int64} {a2 : Int32} (h : (∀ x2 : Int32, x2 = (if ¬ (lg_cmp ((zlushr a1 a2) &&& 1) 1) = 0 then 0 else 1) → ((x2 = 0 ∨ x2 = 1) ∧ Q (some (.inl x2)) σ))) : zE ph (d + 1) kc ks M_X12_hasBit 0 [some (.inr (.inl a1)), none, some (.inl a2)] [] σ Q := (r_lload_n dX12_hasBit_0 rfl rfl (r_iload_n dX12_hasBit_1 rfl rfl (r_lushr dX12_hasBit_2 (r_lconst (v := 1) dX12_hasBit_3 rfl (r_land dX12_hasBit_4 (r_lconst (v := 1) dX12_hasBit_5 rfl (r_lcmp dX12_hasBit_6 (r_if_ne dX12_hasBit_7 rfl (fun c1 => (r_iconst (v := 0) dX12_hasBit_14 rfl (r_iret ⟨dX12_hasBit_15, _, rfl, znar01 (h 0 (by rw [if_pos c1])).1⟩ (h 0 (by rw [if_pos c1])).2))) (fun c1 => (r_iconst (v := 1) dX12_hasBit_10 rfl (r_goto dX12_hasBit_11 rfl (r_iret ⟨dX12_hasBit_15, _, rfl, znar01 (h 1 (by rw [if_neg (fun z => z c1)])).1⟩ (h 1 (by rw [if_neg (fun z => z c1)])).2))))))))))))
theorem T_X12_count_0 {ph : Bool} {d kc ks : Nat} {σ : zSt} {Q : Option zV → zSt → Prop} {a1 : Int64} (h : zE ph (d + 1) kc ks M_X12_count 4 [some (.inr (.inl a1)), none, some (.inl 0), some (.inl 0)] [] σ Q) : zE ph (d + 1) kc ks M_X12_count 0 [some (.inr (.inl a1)), none, none, none] [] σ Q := (r_iconst (v := 0) dX12_count_0 rfl (r_istore_n rfl dX12_count_1 (by decide) (r_iconst (v := 0) dX12_count_2 rfl (r_istore_n rfl dX12_count_3 (by decide) h))))
theorem T_X12_count_4 {ph : Bool} {d kc ks : Nat} {σ : zSt} {Q : Option zV → zSt → Prop} {v0 : Int64} {v2 : Int32} {v3 : Int32} (h : ((64 ≤ v3) → (Q (some (.inl v2)) σ)) ∧ ((¬ (64 ≤ v3)) → (zE ph (d + 1) kc ks M_X12_count 4 [some (.inr (.inl v0)), none, some (.inl (v2 + (((zlushr v0 v3) &&& 1).toInt32))), some (.inl (v3 + 1))] [] σ Q))) : zE ph (d + 1) kc ks M_X12_count 4 [some (.inr (.inl v0)), none, some (.inl v2), some (.inl v3)] [] σ Q := (r_iload_n dX12_count_4 rfl rfl (r_bipush (v := 64) dX12_count_5 rfl (r_icmp_ge dX12_count_7 rfl (fun c2 => (r_iload_n dX12_count_25 rfl rfl (r_iret ⟨dX12_count_26, _, rfl, rfl⟩ (h.1 c2)))) (fun c2 => (r_iload_n dX12_count_10 rfl rfl (r_lload_n dX12_count_11 rfl rfl (r_iload_n dX12_count_12 rfl rfl (r_lushr dX12_count_13 (r_lconst (v := 1) dX12_count_14 rfl (r_land dX12_count_15 (r_l2i dX12_count_16 (r_iadd dX12_count_17 (r_istore_n rfl dX12_count_18 (by decide) (r_iinc dX12_count_19 rfl rfl (by decide) (r_goto dX12_count_22 rfl (h.2 c2))))))))))))))))
theorem T_X12_firstOf_0 {ph : Bool} {d kc ks : Nat} {σ : zSt} {Q : Option zV → zSt → Prop} {a1 : Int64} (h : zE ph (d + 2) kc ks M_X12_firstOf 2 [some (.inr (.inl a1)), none, some (.inl 0)] [] σ Q) : zE ph (d + 2) kc ks M_X12_firstOf 0 [some (.inr (.inl a1)), none, none] [] σ Q := (r_iconst (v := 0) dX12_firstOf_0 rfl (r_istore_n rfl dX12_firstOf_1 (by decide) h))
theorem T_X12_firstOf_2 {ph : Bool} {d kc ks : Nat} {σ : zSt} {Q : Option zV → zSt → Prop} {v0 : Int64} {v2 : Int32} (h : ((64 ≤ v2) → (Q (some (.inl ((-9)))) σ)) ∧ ((¬ (64 ≤ v2)) → (zCi ph (d + 1) 0 0 M_X12_hasBit [.inr (.inl v0), .inl v2] σ fun x4 s3 => (((x4 = 0) → (zE ph (d + 2) kc ks M_X12_firstOf 2 [some (.inr (.inl v0)), none, some (.inl (v2 + 1))] [] s3 Q)) ∧ ((¬ x4 = 0) → (Q (some (.inl v2)) s3)))))) : zE ph (d + 2) kc ks M_X12_firstOf 2 [some (.inr (.inl v0)), none, some (.inl v2)] [] σ Q := (r_iload_n dX12_firstOf_2 rfl rfl (r_bipush (v := 64) dX12_firstOf_3 rfl (r_icmp_ge dX12_firstOf_5 rfl (fun c2 => (r_bipush (v := (-9)) dX12_firstOf_24 rfl (r_iret ⟨dX12_firstOf_26, _, rfl, rfl⟩ (h.1 c2)))) (fun c2 => (r_lload_n dX12_firstOf_8 rfl rfl (r_iload_n dX12_firstOf_9 rfl rfl (zcI (h.2 c2) (fun kC kk => r_callS mm_RX12_162 rfl rfl dX12_firstOf_10 (Nat.le_of_ble_eq_true rfl) kC kk (Nat.zero_add _) (Nat.zero_add _)) fun x4 s3 hs3 => (r_if_eq dX12_firstOf_13 rfl (fun c6 => (r_iinc dX12_firstOf_18 rfl rfl (by decide) (r_goto dX12_firstOf_21 rfl (hs3.1 c6)))) (fun c6 => (r_iload_n dX12_firstOf_16 rfl rfl (r_iret ⟨dX12_firstOf_17, _, rfl, rfl⟩ (hs3.2 c6))))))))))))
theorem T_X12_distance_0 {ph : Bool} {d kc ks : Nat} {σ : zSt} {Q : Option zV → zSt → Prop} {a1 : Int32} {a2 : Int32} (h : Q (some (.inl ((((a1 % 8) - (a2 % 8)) * ((a1 % 8) - (a2 % 8))) + (((a1 / 8) - (a2 / 8)) * ((a1 / 8) - (a2 / 8)))))) σ) : zE ph (d + 1) kc ks M_X12_distance 0 [some (.inl a1), some (.inl a2), none, none] [] σ Q := (r_iload_n dX12_distance_0 rfl rfl (r_bipush (v := 8) dX12_distance_1 rfl (r_irem (by decide) dX12_distance_3 (r_iload_n dX12_distance_4 rfl rfl (r_bipush (v := 8) dX12_distance_5 rfl (r_irem (by decide) dX12_distance_7 (r_isub dX12_distance_8 (r_istore_n rfl dX12_distance_9 (by decide) (r_iload_n dX12_distance_10 rfl rfl (r_bipush (v := 8) dX12_distance_11 rfl (r_idiv (by decide) dX12_distance_13 (r_iload_n dX12_distance_14 rfl rfl (r_bipush (v := 8) dX12_distance_15 rfl (r_idiv (by decide) dX12_distance_17 (r_isub dX12_distance_18 (r_istore_n rfl dX12_distance_19 (by decide) (r_iload_n dX12_distance_20 rfl rfl (r_iload_n dX12_distance_21 rfl rfl (r_imul dX12_distance_22 (r_iload_n dX12_distance_23 rfl rfl (r_iload_n dX12_distance_24 rfl rfl (r_imul dX12_distance_25 (r_iadd dX12_distance_26 (r_iret ⟨dX12_distance_27, _, rfl, rfl⟩ h))))))))))))))))))))))))
theorem T_X12_differs_0 {ph : Bool} {d kc ks : Nat} {σ : zSt} {Q : Option zV → zSt → Prop} {a1 : Int64} {a2 : Int64} (h : (∀ x2 : Int32, x2 = (if (lg_cmp a1 a2) = 0 then 0 else 1) → ((x2 = 0 ∨ x2 = 1) ∧ Q (some (.inl x2)) σ))) : zE ph (d + 1) kc ks M_X12_differs 0 [some (.inr (.inl a1)), none, some (.inr (.inl a2)), none] [] σ Q := (r_lload_n dX12_differs_0 rfl rfl (r_lload_n dX12_differs_1 rfl rfl (r_lcmp dX12_differs_2 (r_if_eq dX12_differs_3 rfl (fun c1 => (r_iconst (v := 0) dX12_differs_10 rfl (r_iret ⟨dX12_differs_11, _, rfl, znar01 (h 0 (by rw [if_pos c1])).1⟩ (h 0 (by rw [if_pos c1])).2))) (fun c1 => (r_iconst (v := 1) dX12_differs_6 rfl (r_goto dX12_differs_7 rfl (r_iret ⟨dX12_differs_11, _, rfl, znar01 (h 1 (by rw [if_neg c1])).1⟩ (h 1 (by rw [if_neg c1])).2))))))))
theorem T_X12_asNumber_0 {ph : Bool} {d kc ks : Nat} {σ : zSt} {Q : Option zV → zSt → Prop} {a1 : Int32} (h : (∀ x2 : Int32, x2 = (if a1 = 0 then 0 else 1) → (Q (some (.inl x2)) σ))) : zE ph (d + 1) kc ks M_X12_asNumber 0 [some (.inl a1)] [] σ Q := (r_iload_n dX12_asNumber_0 rfl rfl (r_if_eq dX12_asNumber_1 rfl (fun c1 => (r_iconst (v := 0) dX12_asNumber_8 rfl (r_iret ⟨dX12_asNumber_9, _, rfl, rfl⟩ (h 0 (by rw [if_pos c1]))))) (fun c1 => (r_iconst (v := 1) dX12_asNumber_4 rfl (r_goto dX12_asNumber_5 rfl (r_iret ⟨dX12_asNumber_9, _, rfl, rfl⟩ (h 1 (by rw [if_neg c1]))))))))
theorem T_X12_isBeyond_0 {ph : Bool} {d kc ks : Nat} {σ : zSt} {Q : Option zV → zSt → Prop} {a1 : Int32} {a2 : Int64} {a3 : Int32} (h : (((a1 < 0) ∨ (((lg_cmp a2 0) < 0) ∨ (¬ ((lg_cmp (a1.toInt64 + a2) a3.toInt64) ≤ 0)))) → (Q (some (.inl 1)) σ)) ∧ (¬ ((a1 < 0) ∨ (((lg_cmp a2 0) < 0) ∨ (¬ ((lg_cmp (a1.toInt64 + a2) a3.toInt64) ≤ 0)))) → (Q (some (.inl 0)) σ))) : zE ph (d + 1) kc ks M_X12_isBeyond 0 [some (.inl a1), some (.inr (.inl a2)), none, some (.inl a3)] [] σ Q := (r_iload_n dX12_isBeyond_0 rfl rfl (r_if_lt dX12_isBeyond_1 rfl (fun c1 => (r_iconst (v := 1) dX12_isBeyond_20 rfl (r_goto dX12_isBeyond_21 rfl (r_iret ⟨dX12_isBeyond_25, _, rfl, rfl⟩ (h.1 (Or.inl c1)))))) (fun c1 => (r_lload_n dX12_isBeyond_4 rfl rfl (r_lconst (v := 0) dX12_isBeyond_5 rfl (r_lcmp dX12_isBeyond_6 (r_if_lt dX12_isBeyond_7 rfl (fun c2 => (r_iconst (v := 1) dX12_isBeyond_20 rfl (r_goto dX12_isBeyond_21 rfl (r_iret ⟨dX12_isBeyond_25, _, rfl, rfl⟩ (h.1 (Or.inr (Or.inl c2))))))) (fun c2 => (r_iload_n dX12_isBeyond_10 rfl rfl (r_i2l dX12_isBeyond_11 (r_lload_n dX12_isBeyond_12 rfl rfl (r_ladd dX12_isBeyond_13 (r_iload_n dX12_isBeyond_14 rfl rfl (r_i2l dX12_isBeyond_15 (r_lcmp dX12_isBeyond_16 (r_if_le dX12_isBeyond_17 rfl (fun c3 => (r_iconst (v := 0) dX12_isBeyond_24 rfl (r_iret ⟨dX12_isBeyond_25, _, rfl, rfl⟩ (h.2 (fun z => z.elim c1 (fun z => z.elim c2 (fun z => z c3))))))) (fun c3 => (r_iconst (v := 1) dX12_isBeyond_20 rfl (r_goto dX12_isBeyond_21 rfl (r_iret ⟨dX12_isBeyond_25, _, rfl, rfl⟩ (h.1 (Or.inr (Or.inr c3)))))))))))))))))))))))
theorem T_X11_within_0 {ph : Bool} {d kc ks : Nat} {σ : zSt} {Q : Option zV → zSt → Prop} {a1 : Int32} {a2 : Int32} {a3 : Int32} (h : (((a1 < a2) ∨ (a3 < a1)) → (Q (some (.inl 0)) σ)) ∧ (¬ ((a1 < a2) ∨ (a3 < a1)) → (Q (some (.inl 1)) σ))) : zE ph (d + 1) kc ks M_X11_within 0 [some (.inl a1), some (.inl a2), some (.inl a3)] [] σ Q := (r_iload_n dX11_within_0 rfl rfl (r_iload_n dX11_within_1 rfl rfl (r_icmp_lt dX11_within_2 rfl (fun c1 => (r_iconst (v := 0) dX11_within_14 rfl (r_iret ⟨dX11_within_15, _, rfl, rfl⟩ (h.1 (Or.inl c1))))) (fun c1 => (r_iload_n dX11_within_5 rfl rfl (r_iload_n dX11_within_6 rfl rfl (r_icmp_gt dX11_within_7 rfl (fun c2 => (r_iconst (v := 0) dX11_within_14 rfl (r_iret ⟨dX11_within_15, _, rfl, rfl⟩ (h.1 (Or.inr c2))))) (fun c2 => (r_iconst (v := 1) dX11_within_10 rfl (r_goto dX11_within_11 rfl (r_iret ⟨dX11_within_15, _, rfl, rfl⟩ (h.2 (fun z => z.elim c1 c2)))))))))))))
theorem T_X11_bit_0 {ph : Bool} {d kc ks : Nat} {σ : zSt} {Q : Option zV → zSt → Prop} {a1 : Int32} (h : Q (some (.inr (.inl (zlshl 1 a1)))) σ) : zE ph (d + 1) kc ks M_X11_bit 0 [some (.inl a1)] [] σ Q := (r_lconst (v := 1) dX11_bit_0 rfl (r_iload_n dX11_bit_1 rfl rfl (r_lshl dX11_bit_2 (r_lret ⟨dX11_bit_3, rfl⟩ h))))
theorem T_X11_has_0 {ph : Bool} {d kc ks : Nat} {σ : zSt} {Q : Option zV → zSt → Prop} {a1 : Int64} {a2 : Int32} (h : (∀ x2 : Int32, x2 = (if (lg_cmp ((zlushr a1 a2) &&& 1) 0) = 0 then 0 else 1) → ((x2 = 0 ∨ x2 = 1) ∧ Q (some (.inl x2)) σ))) : zE ph (d + 1) kc ks M_X11_has 0 [some (.inr (.inl a1)), none, some (.inl a2)] [] σ Q := (r_lload_n dX11_has_0 rfl rfl (r_iload_n dX11_has_1 rfl rfl (r_lushr dX11_has_2 (r_lconst (v := 1) dX11_has_3 rfl (r_land dX11_has_4 (r_lconst (v := 0) dX11_has_5 rfl (r_lcmp dX11_has_6 (r_if_eq dX11_has_7 rfl (fun c1 => (r_iconst (v := 0) dX11_has_14 rfl (r_iret ⟨dX11_has_15, _, rfl, znar01 (h 0 (by rw [if_pos c1])).1⟩ (h 0 (by rw [if_pos c1])).2))) (fun c1 => (r_iconst (v := 1) dX11_has_10 rfl (r_goto dX11_has_11 rfl (r_iret ⟨dX11_has_15, _, rfl, znar01 (h 1 (by rw [if_neg c1])).1⟩ (h 1 (by rw [if_neg c1])).2))))))))))))
theorem T_X11_distance_0 {ph : Bool} {d kc ks : Nat} {σ : zSt} {Q : Option zV → zSt → Prop} {a1 : Int32} {a2 : Int32} (h : Q (some (.inl ((((a2 &&& 7) - (a1 &&& 7)) * ((a2 &&& 7) - (a1 &&& 7))) + (((zishr a2 3) - (zishr a1 3)) * ((zishr a2 3) - (zishr a1 3)))))) σ) : zE ph (d + 1) kc ks M_X11_distance 0 [some (.inl a1), some (.inl a2), none, none] [] σ Q := (r_iload_n dX11_distance_0 rfl rfl (r_bipush (v := 7) dX11_distance_1 rfl (r_iand dX11_distance_3 (r_iload_n dX11_distance_4 rfl rfl (r_bipush (v := 7) dX11_distance_5 rfl (r_iand dX11_distance_7 (r_isub dX11_distance_8 (r_istore_n rfl dX11_distance_9 (by decide) (r_iload_n dX11_distance_10 rfl rfl (r_iconst (v := 3) dX11_distance_11 rfl (r_ishr dX11_distance_12 (r_iload_n dX11_distance_13 rfl rfl (r_iconst (v := 3) dX11_distance_14 rfl (r_ishr dX11_distance_15 (r_isub dX11_distance_16 (r_istore_n rfl dX11_distance_17 (by decide) (r_iload_n dX11_distance_18 rfl rfl (r_iload_n dX11_distance_19 rfl rfl (r_imul dX11_distance_20 (r_iload_n dX11_distance_21 rfl rfl (r_iload_n dX11_distance_22 rfl rfl (r_imul dX11_distance_23 (r_iadd dX11_distance_24 (r_iret ⟨dX11_distance_25, _, rfl, rfl⟩ h))))))))))))))))))))))))
theorem T_X11_lowest_0 {ph : Bool} {d kc ks : Nat} {σ : zSt} {Q : Option zV → zSt → Prop} {a1 : Int64} (h : zCi ph (d + 1) 0 0 M_J13_bitCount_95d88 [.inr (.inl ((a1 &&& (-a1)) - 1))] σ fun x2 s1 => (Q (some (.inl x2)) s1)) : zE ph (d + 2) kc ks M_X11_lowest 0 [some (.inr (.inl a1)), none] [] σ Q := (r_lload_n dX11_lowest_0 rfl rfl (r_lload_n dX11_lowest_1 rfl rfl (r_lneg dX11_lowest_2 (r_land dX11_lowest_3 (r_lconst (v := 1) dX11_lowest_4 rfl (r_lsub dX11_lowest_5 (zcI h (fun kC kk => r_callS mm_RX11_168 rfl rfl dX11_lowest_6 (Nat.le_of_ble_eq_true rfl) kC kk (Nat.zero_add _) (Nat.zero_add _)) fun x2 s1 hs1 => (r_iret ⟨dX11_lowest_9, _, rfl, rfl⟩ hs1))))))))
theorem T_J13_bitCount_95d88_0 {ph : Bool} {d kc ks : Nat} {σ : zSt} {Q : Option zV → zSt → Prop} {a1 : Int64} (h : Q (some (.inl ((((((((((a1 - ((zlushr a1 1) &&& 6148914691236517205)) &&& 3689348814741910323) + ((zlushr (a1 - ((zlushr a1 1) &&& 6148914691236517205)) 2) &&& 3689348814741910323)) + (zlushr (((a1 - ((zlushr a1 1) &&& 6148914691236517205)) &&& 3689348814741910323) + ((zlushr (a1 - ((zlushr a1 1) &&& 6148914691236517205)) 2) &&& 3689348814741910323)) 4)) &&& 1085102592571150095) + (zlushr (((((a1 - ((zlushr a1 1) &&& 6148914691236517205)) &&& 3689348814741910323) + ((zlushr (a1 - ((zlushr a1 1) &&& 6148914691236517205)) 2) &&& 3689348814741910323)) + (zlushr (((a1 - ((zlushr a1 1) &&& 6148914691236517205)) &&& 3689348814741910323) + ((zlushr (a1 - ((zlushr a1 1) &&& 6148914691236517205)) 2) &&& 3689348814741910323)) 4)) &&& 1085102592571150095) 8)) + (zlushr ((((((a1 - ((zlushr a1 1) &&& 6148914691236517205)) &&& 3689348814741910323) + ((zlushr (a1 - ((zlushr a1 1) &&& 6148914691236517205)) 2) &&& 3689348814741910323)) + (zlushr (((a1 - ((zlushr a1 1) &&& 6148914691236517205)) &&& 3689348814741910323) + ((zlushr (a1 - ((zlushr a1 1) &&& 6148914691236517205)) 2) &&& 3689348814741910323)) 4)) &&& 1085102592571150095) + (zlushr (((((a1 - ((zlushr a1 1) &&& 6148914691236517205)) &&& 3689348814741910323) + ((zlushr (a1 - ((zlushr a1 1) &&& 6148914691236517205)) 2) &&& 3689348814741910323)) + (zlushr (((a1 - ((zlushr a1 1) &&& 6148914691236517205)) &&& 3689348814741910323) + ((zlushr (a1 - ((zlushr a1 1) &&& 6148914691236517205)) 2) &&& 3689348814741910323)) 4)) &&& 1085102592571150095) 8)) 16)) + (zlushr (((((((a1 - ((zlushr a1 1) &&& 6148914691236517205)) &&& 3689348814741910323) + ((zlushr (a1 - ((zlushr a1 1) &&& 6148914691236517205)) 2) &&& 3689348814741910323)) + (zlushr (((a1 - ((zlushr a1 1) &&& 6148914691236517205)) &&& 3689348814741910323) + ((zlushr (a1 - ((zlushr a1 1) &&& 6148914691236517205)) 2) &&& 3689348814741910323)) 4)) &&& 1085102592571150095) + (zlushr (((((a1 - ((zlushr a1 1) &&& 6148914691236517205)) &&& 3689348814741910323) + ((zlushr (a1 - ((zlushr a1 1) &&& 6148914691236517205)) 2) &&& 3689348814741910323)) + (zlushr (((a1 - ((zlushr a1 1) &&& 6148914691236517205)) &&& 3689348814741910323) + ((zlushr (a1 - ((zlushr a1 1) &&& 6148914691236517205)) 2) &&& 3689348814741910323)) 4)) &&& 1085102592571150095) 8)) + (zlushr ((((((a1 - ((zlushr a1 1) &&& 6148914691236517205)) &&& 3689348814741910323) + ((zlushr (a1 - ((zlushr a1 1) &&& 6148914691236517205)) 2) &&& 3689348814741910323)) + (zlushr (((a1 - ((zlushr a1 1) &&& 6148914691236517205)) &&& 3689348814741910323) + ((zlushr (a1 - ((zlushr a1 1) &&& 6148914691236517205)) 2) &&& 3689348814741910323)) 4)) &&& 1085102592571150095) + (zlushr (((((a1 - ((zlushr a1 1) &&& 6148914691236517205)) &&& 3689348814741910323) + ((zlushr (a1 - ((zlushr a1 1) &&& 6148914691236517205)) 2) &&& 3689348814741910323)) + (zlushr (((a1 - ((zlushr a1 1) &&& 6148914691236517205)) &&& 3689348814741910323) + ((zlushr (a1 - ((zlushr a1 1) &&& 6148914691236517205)) 2) &&& 3689348814741910323)) 4)) &&& 1085102592571150095) 8)) 16)) 32)).toInt32) &&& 127))) σ) : zE ph (d + 1) kc ks M_J13_bitCount_95d88 0 [some (.inr (.inl a1)), none] [] σ Q := (r_lload_n dJ13_bitCount_95d88_0 rfl rfl (r_lload_n dJ13_bitCount_95d88_1 rfl rfl (r_iconst (v := 1) dJ13_bitCount_95d88_2 rfl (r_lushr dJ13_bitCount_95d88_3 (r_ldc2 (v := 6148914691236517205) ct_RJ13_314 dJ13_bitCount_95d88_4 (r_land dJ13_bitCount_95d88_7 (r_lsub dJ13_bitCount_95d88_8 (r_lstore_n rfl dJ13_bitCount_95d88_9 (by decide) (r_lload_n dJ13_bitCount_95d88_10 rfl rfl (r_ldc2 (v := 3689348814741910323) ct_RJ13_316 dJ13_bitCount_95d88_11 (r_land dJ13_bitCount_95d88_14 (r_lload_n dJ13_bitCount_95d88_15 rfl rfl (r_iconst (v := 2) dJ13_bitCount_95d88_16 rfl (r_lushr dJ13_bitCount_95d88_17 (r_ldc2 (v := 3689348814741910323) ct_RJ13_316 dJ13_bitCount_95d88_18 (r_land dJ13_bitCount_95d88_21 (r_ladd dJ13_bitCount_95d88_22 (r_lstore_n rfl dJ13_bitCount_95d88_23 (by decide) (r_lload_n dJ13_bitCount_95d88_24 rfl rfl (r_lload_n dJ13_bitCount_95d88_25 rfl rfl (r_iconst (v := 4) dJ13_bitCount_95d88_26 rfl (r_lushr dJ13_bitCount_95d88_27 (r_ladd dJ13_bitCount_95d88_28 (r_ldc2 (v := 1085102592571150095) ct_RJ13_318 dJ13_bitCount_95d88_29 (r_land dJ13_bitCount_95d88_32 (r_lstore_n rfl dJ13_bitCount_95d88_33 (by decide) (r_lload_n dJ13_bitCount_95d88_34 rfl rfl (r_lload_n dJ13_bitCount_95d88_35 rfl rfl (r_bipush (v := 8) dJ13_bitCount_95d88_36 rfl (r_lushr dJ13_bitCount_95d88_38 (r_ladd dJ13_bitCount_95d88_39 (r_lstore_n rfl dJ13_bitCount_95d88_40 (by decide) (r_lload_n dJ13_bitCount_95d88_41 rfl rfl (r_lload_n dJ13_bitCount_95d88_42 rfl rfl (r_bipush (v := 16) dJ13_bitCount_95d88_43 rfl (r_lushr dJ13_bitCount_95d88_45 (r_ladd dJ13_bitCount_95d88_46 (r_lstore_n rfl dJ13_bitCount_95d88_47 (by decide) (r_lload_n dJ13_bitCount_95d88_48 rfl rfl (r_lload_n dJ13_bitCount_95d88_49 rfl rfl (r_bipush (v := 32) dJ13_bitCount_95d88_50 rfl (r_lushr dJ13_bitCount_95d88_52 (r_ladd dJ13_bitCount_95d88_53 (r_lstore_n rfl dJ13_bitCount_95d88_54 (by decide) (r_lload_n dJ13_bitCount_95d88_55 rfl rfl (r_l2i dJ13_bitCount_95d88_56 (r_bipush (v := 127) dJ13_bitCount_95d88_57 rfl (r_iand dJ13_bitCount_95d88_59 (r_iret ⟨dJ13_bitCount_95d88_60, _, rfl, rfl⟩ h)))))))))))))))))))))))))))))))))))))))))))))))))
theorem T_J6_bitCount_0f7a4_0 {ph : Bool} {d kc ks : Nat} {σ : zSt} {Q : Option zV → zSt → Prop} {a1 : Int32} (h : Q (some (.inl ((((((((a1 - ((ziushr a1 1) &&& 1431655765)) &&& 858993459) + ((ziushr (a1 - ((ziushr a1 1) &&& 1431655765)) 2) &&& 858993459)) + (ziushr (((a1 - ((ziushr a1 1) &&& 1431655765)) &&& 858993459) + ((ziushr (a1 - ((ziushr a1 1) &&& 1431655765)) 2) &&& 858993459)) 4)) &&& 252645135) + (ziushr (((((a1 - ((ziushr a1 1) &&& 1431655765)) &&& 858993459) + ((ziushr (a1 - ((ziushr a1 1) &&& 1431655765)) 2) &&& 858993459)) + (ziushr (((a1 - ((ziushr a1 1) &&& 1431655765)) &&& 858993459) + ((ziushr (a1 - ((ziushr a1 1) &&& 1431655765)) 2) &&& 858993459)) 4)) &&& 252645135) 8)) + (ziushr ((((((a1 - ((ziushr a1 1) &&& 1431655765)) &&& 858993459) + ((ziushr (a1 - ((ziushr a1 1) &&& 1431655765)) 2) &&& 858993459)) + (ziushr (((a1 - ((ziushr a1 1) &&& 1431655765)) &&& 858993459) + ((ziushr (a1 - ((ziushr a1 1) &&& 1431655765)) 2) &&& 858993459)) 4)) &&& 252645135) + (ziushr (((((a1 - ((ziushr a1 1) &&& 1431655765)) &&& 858993459) + ((ziushr (a1 - ((ziushr a1 1) &&& 1431655765)) 2) &&& 858993459)) + (ziushr (((a1 - ((ziushr a1 1) &&& 1431655765)) &&& 858993459) + ((ziushr (a1 - ((ziushr a1 1) &&& 1431655765)) 2) &&& 858993459)) 4)) &&& 252645135) 8)) 16)) &&& 63))) σ) : zE ph (d + 1) kc ks M_J6_bitCount_0f7a4 0 [some (.inl a1)] [] σ Q := (r_iload_n dJ6_bitCount_0f7a4_0 rfl rfl (r_iload_n dJ6_bitCount_0f7a4_1 rfl rfl (r_iconst (v := 1) dJ6_bitCount_0f7a4_2 rfl (r_iushr dJ6_bitCount_0f7a4_3 (r_ldcw (v := 1431655765) ct_RJ6_265 dJ6_bitCount_0f7a4_4 (r_iand dJ6_bitCount_0f7a4_7 (r_isub dJ6_bitCount_0f7a4_8 (r_istore_n rfl dJ6_bitCount_0f7a4_9 (by decide) (r_iload_n dJ6_bitCount_0f7a4_10 rfl rfl (r_ldcw (v := 858993459) ct_RJ6_266 dJ6_bitCount_0f7a4_11 (r_iand dJ6_bitCount_0f7a4_14 (r_iload_n dJ6_bitCount_0f7a4_15 rfl rfl (r_iconst (v := 2) dJ6_bitCount_0f7a4_16 rfl (r_iushr dJ6_bitCount_0f7a4_17 (r_ldcw (v := 858993459) ct_RJ6_266 dJ6_bitCount_0f7a4_18 (r_iand dJ6_bitCount_0f7a4_21 (r_iadd dJ6_bitCount_0f7a4_22 (r_istore_n rfl dJ6_bitCount_0f7a4_23 (by decide) (r_iload_n dJ6_bitCount_0f7a4_24 rfl rfl (r_iload_n dJ6_bitCount_0f7a4_25 rfl rfl (r_iconst (v := 4) dJ6_bitCount_0f7a4_26 rfl (r_iushr dJ6_bitCount_0f7a4_27 (r_iadd dJ6_bitCount_0f7a4_28 (r_ldcw (v := 252645135) ct_RJ6_267 dJ6_bitCount_0f7a4_29 (r_iand dJ6_bitCount_0f7a4_32 (r_istore_n rfl dJ6_bitCount_0f7a4_33 (by decide) (r_iload_n dJ6_bitCount_0f7a4_34 rfl rfl (r_iload_n dJ6_bitCount_0f7a4_35 rfl rfl (r_bipush (v := 8) dJ6_bitCount_0f7a4_36 rfl (r_iushr dJ6_bitCount_0f7a4_38 (r_iadd dJ6_bitCount_0f7a4_39 (r_istore_n rfl dJ6_bitCount_0f7a4_40 (by decide) (r_iload_n dJ6_bitCount_0f7a4_41 rfl rfl (r_iload_n dJ6_bitCount_0f7a4_42 rfl rfl (r_bipush (v := 16) dJ6_bitCount_0f7a4_43 rfl (r_iushr dJ6_bitCount_0f7a4_45 (r_iadd dJ6_bitCount_0f7a4_46 (r_istore_n rfl dJ6_bitCount_0f7a4_47 (by decide) (r_iload_n dJ6_bitCount_0f7a4_48 rfl rfl (r_bipush (v := 63) dJ6_bitCount_0f7a4_49 rfl (r_iand dJ6_bitCount_0f7a4_51 (r_iret ⟨dJ6_bitCount_0f7a4_52, _, rfl, rfl⟩ h))))))))))))))))))))))))))))))))))))))))))
theorem T_J9_abs_0f7a4_0 {ph : Bool} {d kc ks : Nat} {σ : zSt} {Q : Option zV → zSt → Prop} {a1 : Int32} (h : (∀ x2 : Int32, x2 = (if 0 ≤ a1 then a1 else (-a1)) → (Q (some (.inl x2)) σ))) : zE ph (d + 1) kc ks M_J9_abs_0f7a4 0 [some (.inl a1)] [] σ Q := (r_iload_n dJ9_abs_0f7a4_0 rfl rfl (r_if_ge dJ9_abs_0f7a4_1 rfl (fun c1 => (r_iload_n dJ9_abs_0f7a4_9 rfl rfl (r_iret ⟨dJ9_abs_0f7a4_10, _, rfl, rfl⟩ (h a1 (by rw [if_pos c1]))))) (fun c1 => (r_iload_n dJ9_abs_0f7a4_4 rfl rfl (r_ineg dJ9_abs_0f7a4_5 (r_goto dJ9_abs_0f7a4_6 rfl (r_iret ⟨dJ9_abs_0f7a4_10, _, rfl, rfl⟩ (h (-a1) (by rw [if_neg c1])))))))))
theorem T_J9_max_7cf53_0 {ph : Bool} {d kc ks : Nat} {σ : zSt} {Q : Option zV → zSt → Prop} {a1 : Int32} {a2 : Int32} (h : (∀ x2 : Int32, x2 = (if a1 < a2 then a2 else a1) → (Q (some (.inl x2)) σ))) : zE ph (d + 1) kc ks M_J9_max_7cf53 0 [some (.inl a1), some (.inl a2)] [] σ Q := (r_iload_n dJ9_max_7cf53_0 rfl rfl (r_iload_n dJ9_max_7cf53_1 rfl rfl (r_icmp_lt dJ9_max_7cf53_2 rfl (fun c1 => (r_iload_n dJ9_max_7cf53_9 rfl rfl (r_iret ⟨dJ9_max_7cf53_10, _, rfl, rfl⟩ (h a2 (by rw [if_pos c1]))))) (fun c1 => (r_iload_n dJ9_max_7cf53_5 rfl rfl (r_goto dJ9_max_7cf53_6 rfl (r_iret ⟨dJ9_max_7cf53_10, _, rfl, rfl⟩ (h a1 (by rw [if_neg c1])))))))))
theorem T_J9_min_7cf53_0 {ph : Bool} {d kc ks : Nat} {σ : zSt} {Q : Option zV → zSt → Prop} {a1 : Int32} {a2 : Int32} (h : (∀ x2 : Int32, x2 = (if a2 < a1 then a2 else a1) → (Q (some (.inl x2)) σ))) : zE ph (d + 1) kc ks M_J9_min_7cf53 0 [some (.inl a1), some (.inl a2)] [] σ Q := (r_iload_n dJ9_min_7cf53_0 rfl rfl (r_iload_n dJ9_min_7cf53_1 rfl rfl (r_icmp_gt dJ9_min_7cf53_2 rfl (fun c1 => (r_iload_n dJ9_min_7cf53_9 rfl rfl (r_iret ⟨dJ9_min_7cf53_10, _, rfl, rfl⟩ (h a2 (by rw [if_pos c1]))))) (fun c1 => (r_iload_n dJ9_min_7cf53_5 rfl rfl (r_goto dJ9_min_7cf53_6 rfl (r_iret ⟨dJ9_min_7cf53_10, _, rfl, rfl⟩ (h a1 (by rw [if_neg c1])))))))))

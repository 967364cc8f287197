/-! instructions, printed by wip/whole/emit.py -/
theorem dX1_addMover_28 : decode cX1_addMover 28 = .ok (.iastore, 1) := by decide +kernel
theorem dX1_addMover_29 : decode cX1_addMover 29 = .ok (.aload_n 0, 1) := by decide +kernel
theorem dX1_addMover_30 : decode cX1_addMover 30 = .ok (.dup, 1) := by decide +kernel
theorem dX1_addMover_31 : decode cX1_addMover 31 = .ok (.getfield 74, 3) := by decide +kernel
theorem dX1_addMover_34 : decode cX1_addMover 34 = .ok (.iconst 1, 1) := by decide +kernel
theorem dX1_addMover_35 : decode cX1_addMover 35 = .ok (.iadd, 1) := by decide +kernel
theorem dX1_addMover_36 : decode cX1_addMover 36 = .ok (.putfield 74, 3) := by decide +kernel
theorem dX1_addMover_39 : decode cX1_addMover 39 = .ok (.iconst 0, 1) := by decide +kernel
theorem dX1_addMover_40 : decode cX1_addMover 40 = .ok (.istore 4, 2) := by decide +kernel
theorem dX1_addMover_42 : decode cX1_addMover 42 = .ok (.iload 4, 2) := by decide +kernel
theorem dX1_addMover_44 : decode cX1_addMover 44 = .ok (.iload_n 1, 1) := by decide +kernel
theorem dX1_addMover_45 : decode cX1_addMover 45 = .ok (.if_icmp .ge 40, 3) := by decide +kernel
theorem dX1_addMover_48 : decode cX1_addMover 48 = .ok (.aload_n 0, 1) := by decide +kernel
theorem dX1_addMover_49 : decode cX1_addMover 49 = .ok (.iconst 0, 1) := by decide +kernel
theorem dX1_addMover_50 : decode cX1_addMover 50 = .ok (.bipush (-9), 2) := by decide +kernel
theorem dX1_addMover_52 : decode cX1_addMover 52 = .ok (.iload_n 3, 1) := by decide +kernel
theorem dX1_addMover_53 : decode cX1_addMover 53 = .ok (.iload 4, 2) := by decide +kernel
theorem dX1_addMover_55 : decode cX1_addMover 55 = .ok (.invokevirtual 101, 3) := by decide +kernel
theorem dX1_addMover_58 : decode cX1_addMover 58 = .ok (.istore 5, 2) := by decide +kernel
theorem dX1_addMover_60 : decode cX1_addMover 60 = .ok (.iload 4, 2) := by decide +kernel
theorem dX1_addMover_62 : decode cX1_addMover 62 = .ok (.ifCond .le 17, 3) := by decide +kernel
theorem dX1_addMover_65 : decode cX1_addMover 65 = .ok (.aload_n 0, 1) := by decide +kernel
theorem dX1_addMover_66 : decode cX1_addMover 66 = .ok (.iconst 1, 1) := by decide +kernel
theorem dX1_addMover_67 : decode cX1_addMover 67 = .ok (.iload 5, 2) := by decide +kernel
theorem dX1_addMover_69 : decode cX1_addMover 69 = .ok (.iconst 1, 1) := by decide +kernel
theorem dX1_addMover_70 : decode cX1_addMover 70 = .ok (.isub, 1) := by decide +kernel
theorem dX1_addMover_71 : decode cX1_addMover 71 = .ok (.iload 5, 2) := by decide +kernel
theorem dX1_addMover_73 : decode cX1_addMover 73 = .ok (.iconst 0, 1) := by decide +kernel
theorem dX1_addMover_74 : decode cX1_addMover 74 = .ok (.iload_n 2, 1) := by decide +kernel
theorem dX1_addMover_75 : decode cX1_addMover 75 = .ok (.invokevirtual 105, 3) := by decide +kernel
theorem dX1_addMover_78 : decode cX1_addMover 78 = .ok (.pop, 1) := by decide +kernel
theorem dX1_addMover_79 : decode cX1_addMover 79 = .ok (.iinc 4 1, 3) := by decide +kernel
theorem dX1_addMover_82 : decode cX1_addMover 82 = .ok (.goto (-40), 3) := by decide +kernel
theorem dX1_addMover_85 : decode cX1_addMover 85 = .ok (.iload_n 3, 1) := by decide +kernel
theorem dX1_addMover_86 : decode cX1_addMover 86 = .ok (.ireturn, 1) := by decide +kernel
theorem dX1_addThing_0 : decode cX1_addThing 0 = .ok (.aload_n 0, 1) := by decide +kernel
theorem dX1_addThing_1 : decode cX1_addThing 1 = .ok (.getfield 62, 3) := by decide +kernel
theorem dX1_addThing_4 : decode cX1_addThing 4 = .ok (.istore 5, 2) := by decide +kernel
theorem dX1_addThing_6 : decode cX1_addThing 6 = .ok (.aload_n 0, 1) := by decide +kernel
theorem dX1_addThing_7 : decode cX1_addThing 7 = .ok (.getfield 11, 3) := by decide +kernel
theorem dX1_addThing_10 : decode cX1_addThing 10 = .ok (.iload 5, 2) := by decide +kernel
theorem dX1_addThing_12 : decode cX1_addThing 12 = .ok (.new 9, 3) := by decide +kernel
theorem dX1_addThing_15 : decode cX1_addThing 15 = .ok (.dup, 1) := by decide +kernel
theorem dX1_addThing_16 : decode cX1_addThing 16 = .ok (.iload 5, 2) := by decide +kernel
theorem dX1_addThing_18 : decode cX1_addThing 18 = .ok (.iload_n 1, 1) := by decide +kernel
theorem dX1_addThing_19 : decode cX1_addThing 19 = .ok (.iload_n 2, 1) := by decide +kernel
theorem dX1_addThing_20 : decode cX1_addThing 20 = .ok (.iload_n 3, 1) := by decide +kernel
theorem dX1_addThing_21 : decode cX1_addThing 21 = .ok (.iload 4, 2) := by decide +kernel
theorem dX1_addThing_23 : decode cX1_addThing 23 = .ok (.invokespecial 89, 3) := by decide +kernel
theorem dX1_addThing_26 : decode cX1_addThing 26 = .ok (.aastore, 1) := by decide +kernel
theorem dX1_addThing_27 : decode cX1_addThing 27 = .ok (.aload_n 0, 1) := by decide +kernel
theorem dX1_addThing_28 : decode cX1_addThing 28 = .ok (.getfield 17, 3) := by decide +kernel
theorem dX1_addThing_31 : decode cX1_addThing 31 = .ok (.iload 5, 2) := by decide +kernel
theorem dX1_addThing_33 : decode cX1_addThing 33 = .ok (.ldc2_w 92, 3) := by decide +kernel
theorem dX1_addThing_36 : decode cX1_addThing 36 = .ok (.lastore, 1) := by decide +kernel
theorem dX1_addThing_37 : decode cX1_addThing 37 = .ok (.aload_n 0, 1) := by decide +kernel
theorem dX1_addThing_38 : decode cX1_addThing 38 = .ok (.getfield 21, 3) := by decide +kernel
theorem dX1_addThing_41 : decode cX1_addThing 41 = .ok (.iload 5, 2) := by decide +kernel
theorem dX1_addThing_43 : decode cX1_addThing 43 = .ok (.bipush (-9), 2) := by decide +kernel
theorem dX1_addThing_45 : decode cX1_addThing 45 = .ok (.iastore, 1) := by decide +kernel
theorem dX1_addThing_46 : decode cX1_addThing 46 = .ok (.aload_n 0, 1) := by decide +kernel
theorem dX1_addThing_47 : decode cX1_addThing 47 = .ok (.dup, 1) := by decide +kernel
theorem dX1_addThing_48 : decode cX1_addThing 48 = .ok (.getfield 62, 3) := by decide +kernel
theorem dX1_addThing_51 : decode cX1_addThing 51 = .ok (.iconst 1, 1) := by decide +kernel
theorem dX1_addThing_52 : decode cX1_addThing 52 = .ok (.iadd, 1) := by decide +kernel
theorem dX1_addThing_53 : decode cX1_addThing 53 = .ok (.putfield 62, 3) := by decide +kernel
theorem dX1_addThing_56 : decode cX1_addThing 56 = .ok (.iload 5, 2) := by decide +kernel
theorem dX1_addThing_58 : decode cX1_addThing 58 = .ok (.ireturn, 1) := by decide +kernel
theorem dX1_anchorCells_0 : decode cX1_anchorCells 0 = .ok (.lconst 0, 1) := by decide +kernel
theorem dX1_anchorCells_1 : decode cX1_anchorCells 1 = .ok (.lstore_n 1, 1) := by decide +kernel
theorem dX1_anchorCells_2 : decode cX1_anchorCells 2 = .ok (.iconst 0, 1) := by decide +kernel
theorem dX1_anchorCells_3 : decode cX1_anchorCells 3 = .ok (.istore_n 3, 1) := by decide +kernel
theorem dX1_anchorCells_4 : decode cX1_anchorCells 4 = .ok (.iload_n 3, 1) := by decide +kernel
theorem dX1_anchorCells_5 : decode cX1_anchorCells 5 = .ok (.aload_n 0, 1) := by decide +kernel
theorem dX1_anchorCells_6 : decode cX1_anchorCells 6 = .ok (.getfield 62, 3) := by decide +kernel
theorem dX1_anchorCells_9 : decode cX1_anchorCells 9 = .ok (.if_icmp .ge 40, 3) := by decide +kernel
theorem dX1_anchorCells_12 : decode cX1_anchorCells 12 = .ok (.lload_n 1, 1) := by decide +kernel
theorem dX1_anchorCells_13 : decode cX1_anchorCells 13 = .ok (.aload_n 0, 1) := by decide +kernel
theorem dX1_anchorCells_14 : decode cX1_anchorCells 14 = .ok (.getfield 11, 3) := by decide +kernel
theorem dX1_anchorCells_17 : decode cX1_anchorCells 17 = .ok (.iload_n 3, 1) := by decide +kernel
theorem dX1_anchorCells_18 : decode cX1_anchorCells 18 = .ok (.aaload, 1) := by decide +kernel
theorem dX1_anchorCells_19 : decode cX1_anchorCells 19 = .ok (.invokevirtual 109, 3) := by decide +kernel
theorem dX1_anchorCells_22 : decode cX1_anchorCells 22 = .ok (.ifCond .eq 18, 3) := by decide +kernel
theorem dX1_anchorCells_25 : decode cX1_anchorCells 25 = .ok (.aload_n 0, 1) := by decide +kernel
theorem dX1_anchorCells_26 : decode cX1_anchorCells 26 = .ok (.getfield 11, 3) := by decide +kernel
theorem dX1_anchorCells_29 : decode cX1_anchorCells 29 = .ok (.iload_n 3, 1) := by decide +kernel
theorem dX1_anchorCells_30 : decode cX1_anchorCells 30 = .ok (.aaload, 1) := by decide +kernel
theorem dX1_anchorCells_31 : decode cX1_anchorCells 31 = .ok (.getfield 113, 3) := by decide +kernel
theorem dX1_anchorCells_34 : decode cX1_anchorCells 34 = .ok (.invokestatic 97, 3) := by decide +kernel
theorem dX1_anchorCells_37 : decode cX1_anchorCells 37 = .ok (.goto 4, 3) := by decide +kernel
theorem dX1_anchorCells_40 : decode cX1_anchorCells 40 = .ok (.lconst 0, 1) := by decide +kernel
theorem dX1_anchorCells_41 : decode cX1_anchorCells 41 = .ok (.lor, 1) := by decide +kernel
theorem dX1_anchorCells_42 : decode cX1_anchorCells 42 = .ok (.lstore_n 1, 1) := by decide +kernel
theorem dX1_anchorCells_43 : decode cX1_anchorCells 43 = .ok (.iinc 3 1, 3) := by decide +kernel
theorem dX1_anchorCells_46 : decode cX1_anchorCells 46 = .ok (.goto (-42), 3) := by decide +kernel
theorem dX1_anchorCells_49 : decode cX1_anchorCells 49 = .ok (.lload_n 1, 1) := by decide +kernel
theorem dX1_anchorCells_50 : decode cX1_anchorCells 50 = .ok (.lreturn, 1) := by decide +kernel
theorem dX1_anchors_0 : decode cX1_anchors 0 = .ok (.iconst 0, 1) := by decide +kernel
theorem dX1_anchors_1 : decode cX1_anchors 1 = .ok (.istore_n 1, 1) := by decide +kernel
theorem dX1_anchors_2 : decode cX1_anchors 2 = .ok (.iconst 0, 1) := by decide +kernel
theorem dX1_anchors_3 : decode cX1_anchors 3 = .ok (.istore_n 2, 1) := by decide +kernel
theorem dX1_anchors_4 : decode cX1_anchors 4 = .ok (.iload_n 2, 1) := by decide +kernel
theorem dX1_anchors_5 : decode cX1_anchors 5 = .ok (.aload_n 0, 1) := by decide +kernel
theorem dX1_anchors_6 : decode cX1_anchors 6 = .ok (.getfield 62, 3) := by decide +kernel
theorem dX1_anchors_9 : decode cX1_anchors 9 = .ok (.if_icmp .ge 31, 3) := by decide +kernel
theorem dX1_anchors_12 : decode cX1_anchors 12 = .ok (.iload_n 1, 1) := by decide +kernel
theorem dX1_anchors_13 : decode cX1_anchors 13 = .ok (.aload_n 0, 1) := by decide +kernel
theorem dX1_anchors_14 : decode cX1_anchors 14 = .ok (.getfield 11, 3) := by decide +kernel
theorem dX1_anchors_17 : decode cX1_anchors 17 = .ok (.iload_n 2, 1) := by decide +kernel
theorem dX1_anchors_18 : decode cX1_anchors 18 = .ok (.aaload, 1) := by decide +kernel
theorem dX1_anchors_19 : decode cX1_anchors 19 = .ok (.invokevirtual 109, 3) := by decide +kernel
theorem dX1_anchors_22 : decode cX1_anchors 22 = .ok (.ifCond .eq 9, 3) := by decide +kernel
theorem dX1_anchors_25 : decode cX1_anchors 25 = .ok (.iconst 1, 1) := by decide +kernel
theorem dX1_anchors_26 : decode cX1_anchors 26 = .ok (.iload_n 2, 1) := by decide +kernel
theorem dX1_anchors_27 : decode cX1_anchors 27 = .ok (.ishl, 1) := by decide +kernel
theorem dX1_anchors_28 : decode cX1_anchors 28 = .ok (.goto 4, 3) := by decide +kernel
theorem dX1_anchors_31 : decode cX1_anchors 31 = .ok (.iconst 0, 1) := by decide +kernel
theorem dX1_anchors_32 : decode cX1_anchors 32 = .ok (.ior, 1) := by decide +kernel
theorem dX1_anchors_33 : decode cX1_anchors 33 = .ok (.istore_n 1, 1) := by decide +kernel
theorem dX1_anchors_34 : decode cX1_anchors 34 = .ok (.iinc 2 1, 3) := by decide +kernel
theorem dX1_anchors_37 : decode cX1_anchors 37 = .ok (.goto (-33), 3) := by decide +kernel
theorem dX1_anchors_40 : decode cX1_anchors 40 = .ok (.iload_n 1, 1) := by decide +kernel
theorem dX1_anchors_41 : decode cX1_anchors 41 = .ok (.ireturn, 1) := by decide +kernel
theorem dX1_around_0 : decode cX1_around 0 = .ok (.iconst 0, 1) := by decide +kernel
theorem dX1_around_1 : decode cX1_around 1 = .ok (.istore_n 2, 1) := by decide +kernel
theorem dX1_around_2 : decode cX1_around 2 = .ok (.iload_n 1, 1) := by decide +kernel
theorem dX1_around_3 : decode cX1_around 3 = .ok (.istore_n 3, 1) := by decide +kernel
theorem dX1_around_4 : decode cX1_around 4 = .ok (.iload_n 3, 1) := by decide +kernel
theorem dX1_around_5 : decode cX1_around 5 = .ok (.ifCond .eq 25, 3) := by decide +kernel
theorem dX1_around_8 : decode cX1_around 8 = .ok (.iload_n 2, 1) := by decide +kernel
theorem dX1_around_9 : decode cX1_around 9 = .ok (.aload_n 0, 1) := by decide +kernel
theorem dX1_around_10 : decode cX1_around 10 = .ok (.getfield 40, 3) := by decide +kernel
theorem dX1_around_13 : decode cX1_around 13 = .ok (.iload_n 3, 1) := by decide +kernel
theorem dX1_around_14 : decode cX1_around 14 = .ok (.i2l, 1) := by decide +kernel
theorem dX1_around_15 : decode cX1_around 15 = .ok (.invokestatic 143, 3) := by decide +kernel
theorem dX1_around_18 : decode cX1_around 18 = .ok (.iaload, 1) := by decide +kernel
theorem dX1_around_19 : decode cX1_around 19 = .ok (.ior, 1) := by decide +kernel
theorem dX1_around_20 : decode cX1_around 20 = .ok (.istore_n 2, 1) := by decide +kernel
theorem dX1_around_21 : decode cX1_around 21 = .ok (.iload_n 3, 1) := by decide +kernel
theorem dX1_around_22 : decode cX1_around 22 = .ok (.iload_n 3, 1) := by decide +kernel
theorem dX1_around_23 : decode cX1_around 23 = .ok (.iconst 1, 1) := by decide +kernel
theorem dX1_around_24 : decode cX1_around 24 = .ok (.isub, 1) := by decide +kernel
theorem dX1_around_25 : decode cX1_around 25 = .ok (.iand, 1) := by decide +kernel
theorem dX1_around_26 : decode cX1_around 26 = .ok (.istore_n 3, 1) := by decide +kernel
theorem dX1_around_27 : decode cX1_around 27 = .ok (.goto (-23), 3) := by decide +kernel
theorem dX1_around_30 : decode cX1_around 30 = .ok (.iload_n 2, 1) := by decide +kernel
theorem dX1_around_31 : decode cX1_around 31 = .ok (.iload_n 1, 1) := by decide +kernel
theorem dX1_around_32 : decode cX1_around 32 = .ok (.iconst (-1), 1) := by decide +kernel
theorem dX1_around_33 : decode cX1_around 33 = .ok (.ixor, 1) := by decide +kernel
theorem dX1_around_34 : decode cX1_around 34 = .ok (.iand, 1) := by decide +kernel
theorem dX1_around_35 : decode cX1_around 35 = .ok (.ireturn, 1) := by decide +kernel
theorem dX1_becomeLike_0 : decode cX1_becomeLike 0 = .ok (.aload_n 0, 1) := by decide +kernel
theorem dX1_becomeLike_1 : decode cX1_becomeLike 1 = .ok (.aload_n 1, 1) := by decide +kernel
theorem dX1_becomeLike_2 : decode cX1_becomeLike 2 = .ok (.getfield 47, 3) := by decide +kernel
theorem dX1_becomeLike_5 : decode cX1_becomeLike 5 = .ok (.putfield 47, 3) := by decide +kernel
theorem dX1_becomeLike_8 : decode cX1_becomeLike 8 = .ok (.aload_n 0, 1) := by decide +kernel
theorem dX1_becomeLike_9 : decode cX1_becomeLike 9 = .ok (.aload_n 1, 1) := by decide +kernel
theorem dX1_becomeLike_10 : decode cX1_becomeLike 10 = .ok (.getfield 51, 3) := by decide +kernel
theorem dX1_becomeLike_13 : decode cX1_becomeLike 13 = .ok (.putfield 51, 3) := by decide +kernel
theorem dX1_becomeLike_16 : decode cX1_becomeLike 16 = .ok (.aload_n 0, 1) := by decide +kernel
theorem dX1_becomeLike_17 : decode cX1_becomeLike 17 = .ok (.aload_n 1, 1) := by decide +kernel
theorem dX1_becomeLike_18 : decode cX1_becomeLike 18 = .ok (.getfield 58, 3) := by decide +kernel
theorem dX1_becomeLike_21 : decode cX1_becomeLike 21 = .ok (.putfield 58, 3) := by decide +kernel
theorem dX1_becomeLike_24 : decode cX1_becomeLike 24 = .ok (.aload_n 0, 1) := by decide +kernel
theorem dX1_becomeLike_25 : decode cX1_becomeLike 25 = .ok (.aload_n 1, 1) := by decide +kernel
theorem dX1_becomeLike_26 : decode cX1_becomeLike 26 = .ok (.getfield 62, 3) := by decide +kernel
theorem dX1_becomeLike_29 : decode cX1_becomeLike 29 = .ok (.putfield 62, 3) := by decide +kernel
theorem dX1_becomeLike_32 : decode cX1_becomeLike 32 = .ok (.aload_n 0, 1) := by decide +kernel
theorem dX1_becomeLike_33 : decode cX1_becomeLike 33 = .ok (.aload_n 1, 1) := by decide +kernel
theorem dX1_becomeLike_34 : decode cX1_becomeLike 34 = .ok (.getfield 65, 3) := by decide +kernel
theorem dX1_becomeLike_37 : decode cX1_becomeLike 37 = .ok (.putfield 65, 3) := by decide +kernel
theorem dX1_becomeLike_40 : decode cX1_becomeLike 40 = .ok (.aload_n 0, 1) := by decide +kernel
theorem dX1_becomeLike_41 : decode cX1_becomeLike 41 = .ok (.aload_n 1, 1) := by decide +kernel
theorem dX1_becomeLike_42 : decode cX1_becomeLike 42 = .ok (.getfield 68, 3) := by decide +kernel
theorem dX1_becomeLike_45 : decode cX1_becomeLike 45 = .ok (.putfield 68, 3) := by decide +kernel
theorem dX1_becomeLike_48 : decode cX1_becomeLike 48 = .ok (.aload_n 0, 1) := by decide +kernel
theorem dX1_becomeLike_49 : decode cX1_becomeLike 49 = .ok (.aload_n 1, 1) := by decide +kernel
theorem dX1_becomeLike_50 : decode cX1_becomeLike 50 = .ok (.getfield 71, 3) := by decide +kernel
theorem dX1_becomeLike_53 : decode cX1_becomeLike 53 = .ok (.putfield 71, 3) := by decide +kernel
theorem dX1_becomeLike_56 : decode cX1_becomeLike 56 = .ok (.aload_n 0, 1) := by decide +kernel
theorem dX1_becomeLike_57 : decode cX1_becomeLike 57 = .ok (.aload_n 1, 1) := by decide +kernel
theorem dX1_becomeLike_58 : decode cX1_becomeLike 58 = .ok (.getfield 74, 3) := by decide +kernel
theorem dX1_becomeLike_61 : decode cX1_becomeLike 61 = .ok (.putfield 74, 3) := by decide +kernel
theorem dX1_becomeLike_64 : decode cX1_becomeLike 64 = .ok (.aload_n 0, 1) := by decide +kernel
theorem dX1_becomeLike_65 : decode cX1_becomeLike 65 = .ok (.aload_n 1, 1) := by decide +kernel
theorem dX1_becomeLike_66 : decode cX1_becomeLike 66 = .ok (.getfield 77, 3) := by decide +kernel
theorem dX1_becomeLike_69 : decode cX1_becomeLike 69 = .ok (.putfield 77, 3) := by decide +kernel
theorem dX1_becomeLike_72 : decode cX1_becomeLike 72 = .ok (.iconst 0, 1) := by decide +kernel
theorem dX1_becomeLike_73 : decode cX1_becomeLike 73 = .ok (.istore_n 2, 1) := by decide +kernel
theorem dX1_becomeLike_74 : decode cX1_becomeLike 74 = .ok (.iload_n 2, 1) := by decide +kernel
theorem dX1_becomeLike_75 : decode cX1_becomeLike 75 = .ok (.bipush 24, 2) := by decide +kernel
theorem dX1_becomeLike_77 : decode cX1_becomeLike 77 = .ok (.if_icmp .ge 45, 3) := by decide +kernel
theorem dX1_becomeLike_80 : decode cX1_becomeLike 80 = .ok (.aload_n 0, 1) := by decide +kernel
theorem dX1_becomeLike_81 : decode cX1_becomeLike 81 = .ok (.getfield 11, 3) := by decide +kernel
theorem dX1_becomeLike_84 : decode cX1_becomeLike 84 = .ok (.iload_n 2, 1) := by decide +kernel
theorem dX1_becomeLike_85 : decode cX1_becomeLike 85 = .ok (.aload_n 1, 1) := by decide +kernel
theorem dX1_becomeLike_86 : decode cX1_becomeLike 86 = .ok (.getfield 11, 3) := by decide +kernel
theorem dX1_becomeLike_89 : decode cX1_becomeLike 89 = .ok (.iload_n 2, 1) := by decide +kernel
theorem dX1_becomeLike_90 : decode cX1_becomeLike 90 = .ok (.aaload, 1) := by decide +kernel
theorem dX1_becomeLike_91 : decode cX1_becomeLike 91 = .ok (.aastore, 1) := by decide +kernel
theorem dX1_becomeLike_92 : decode cX1_becomeLike 92 = .ok (.aload_n 0, 1) := by decide +kernel
theorem dX1_becomeLike_93 : decode cX1_becomeLike 93 = .ok (.getfield 17, 3) := by decide +kernel
theorem dX1_becomeLike_96 : decode cX1_becomeLike 96 = .ok (.iload_n 2, 1) := by decide +kernel
theorem dX1_becomeLike_97 : decode cX1_becomeLike 97 = .ok (.aload_n 1, 1) := by decide +kernel
theorem dX1_becomeLike_98 : decode cX1_becomeLike 98 = .ok (.getfield 17, 3) := by decide +kernel
theorem dX1_becomeLike_101 : decode cX1_becomeLike 101 = .ok (.iload_n 2, 1) := by decide +kernel
theorem dX1_becomeLike_102 : decode cX1_becomeLike 102 = .ok (.laload, 1) := by decide +kernel
theorem dX1_becomeLike_103 : decode cX1_becomeLike 103 = .ok (.lastore, 1) := by decide +kernel
theorem dX1_becomeLike_104 : decode cX1_becomeLike 104 = .ok (.aload_n 0, 1) := by decide +kernel
theorem dX1_becomeLike_105 : decode cX1_becomeLike 105 = .ok (.getfield 21, 3) := by decide +kernel
theorem dX1_becomeLike_108 : decode cX1_becomeLike 108 = .ok (.iload_n 2, 1) := by decide +kernel
theorem dX1_becomeLike_109 : decode cX1_becomeLike 109 = .ok (.aload_n 1, 1) := by decide +kernel
theorem dX1_becomeLike_110 : decode cX1_becomeLike 110 = .ok (.getfield 21, 3) := by decide +kernel
theorem dX1_becomeLike_113 : decode cX1_becomeLike 113 = .ok (.iload_n 2, 1) := by decide +kernel
theorem dX1_becomeLike_114 : decode cX1_becomeLike 114 = .ok (.iaload, 1) := by decide +kernel
theorem dX1_becomeLike_115 : decode cX1_becomeLike 115 = .ok (.iastore, 1) := by decide +kernel
theorem dX1_becomeLike_116 : decode cX1_becomeLike 116 = .ok (.iinc 2 1, 3) := by decide +kernel
theorem dX1_becomeLike_119 : decode cX1_becomeLike 119 = .ok (.goto (-45), 3) := by decide +kernel
theorem dX1_becomeLike_122 : decode cX1_becomeLike 122 = .ok (.iconst 0, 1) := by decide +kernel
theorem dX1_becomeLike_123 : decode cX1_becomeLike 123 = .ok (.istore_n 2, 1) := by decide +kernel
theorem dX1_becomeLike_124 : decode cX1_becomeLike 124 = .ok (.iload_n 2, 1) := by decide +kernel
theorem dX1_becomeLike_125 : decode cX1_becomeLike 125 = .ok (.bipush 60, 2) := by decide +kernel
theorem dX1_becomeLike_127 : decode cX1_becomeLike 127 = .ok (.if_icmp .ge 21, 3) := by decide +kernel
theorem dX1_becomeLike_130 : decode cX1_becomeLike 130 = .ok (.aload_n 0, 1) := by decide +kernel
theorem dX1_becomeLike_131 : decode cX1_becomeLike 131 = .ok (.getfield 27, 3) := by decide +kernel
theorem dX1_becomeLike_134 : decode cX1_becomeLike 134 = .ok (.iload_n 2, 1) := by decide +kernel
theorem dX1_becomeLike_135 : decode cX1_becomeLike 135 = .ok (.aload_n 1, 1) := by decide +kernel
theorem dX1_becomeLike_136 : decode cX1_becomeLike 136 = .ok (.getfield 27, 3) := by decide +kernel
theorem dX1_becomeLike_139 : decode cX1_becomeLike 139 = .ok (.iload_n 2, 1) := by decide +kernel
theorem dX1_becomeLike_140 : decode cX1_becomeLike 140 = .ok (.aaload, 1) := by decide +kernel
theorem dX1_becomeLike_141 : decode cX1_becomeLike 141 = .ok (.aastore, 1) := by decide +kernel
theorem dX1_becomeLike_142 : decode cX1_becomeLike 142 = .ok (.iinc 2 1, 3) := by decide +kernel
theorem dX1_becomeLike_145 : decode cX1_becomeLike 145 = .ok (.goto (-21), 3) := by decide +kernel
theorem dX1_becomeLike_148 : decode cX1_becomeLike 148 = .ok (.iconst 0, 1) := by decide +kernel
theorem dX1_becomeLike_149 : decode cX1_becomeLike 149 = .ok (.istore_n 2, 1) := by decide +kernel
theorem dX1_becomeLike_150 : decode cX1_becomeLike 150 = .ok (.iload_n 2, 1) := by decide +kernel
theorem dX1_becomeLike_151 : decode cX1_becomeLike 151 = .ok (.iconst 3, 1) := by decide +kernel
theorem dX1_becomeLike_152 : decode cX1_becomeLike 152 = .ok (.if_icmp .ge 45, 3) := by decide +kernel
theorem dX1_becomeLike_155 : decode cX1_becomeLike 155 = .ok (.aload_n 0, 1) := by decide +kernel
theorem dX1_becomeLike_156 : decode cX1_becomeLike 156 = .ok (.getfield 31, 3) := by decide +kernel
theorem dX1_becomeLike_159 : decode cX1_becomeLike 159 = .ok (.iload_n 2, 1) := by decide +kernel
theorem dX1_becomeLike_160 : decode cX1_becomeLike 160 = .ok (.aload_n 1, 1) := by decide +kernel
theorem dX1_becomeLike_161 : decode cX1_becomeLike 161 = .ok (.getfield 31, 3) := by decide +kernel
theorem dX1_becomeLike_164 : decode cX1_becomeLike 164 = .ok (.iload_n 2, 1) := by decide +kernel
theorem dX1_becomeLike_165 : decode cX1_becomeLike 165 = .ok (.iaload, 1) := by decide +kernel
theorem dX1_becomeLike_166 : decode cX1_becomeLike 166 = .ok (.iastore, 1) := by decide +kernel
theorem dX1_becomeLike_167 : decode cX1_becomeLike 167 = .ok (.aload_n 0, 1) := by decide +kernel
theorem dX1_becomeLike_168 : decode cX1_becomeLike 168 = .ok (.getfield 34, 3) := by decide +kernel
theorem dX1_becomeLike_171 : decode cX1_becomeLike 171 = .ok (.iload_n 2, 1) := by decide +kernel
theorem dX1_becomeLike_172 : decode cX1_becomeLike 172 = .ok (.aload_n 1, 1) := by decide +kernel
theorem dX1_becomeLike_173 : decode cX1_becomeLike 173 = .ok (.getfield 34, 3) := by decide +kernel
theorem dX1_becomeLike_176 : decode cX1_becomeLike 176 = .ok (.iload_n 2, 1) := by decide +kernel
theorem dX1_becomeLike_177 : decode cX1_becomeLike 177 = .ok (.iaload, 1) := by decide +kernel
theorem dX1_becomeLike_178 : decode cX1_becomeLike 178 = .ok (.iastore, 1) := by decide +kernel
theorem dX1_becomeLike_179 : decode cX1_becomeLike 179 = .ok (.aload_n 0, 1) := by decide +kernel
theorem dX1_becomeLike_180 : decode cX1_becomeLike 180 = .ok (.getfield 37, 3) := by decide +kernel
theorem dX1_becomeLike_183 : decode cX1_becomeLike 183 = .ok (.iload_n 2, 1) := by decide +kernel
theorem dX1_becomeLike_184 : decode cX1_becomeLike 184 = .ok (.aload_n 1, 1) := by decide +kernel
theorem dX1_becomeLike_185 : decode cX1_becomeLike 185 = .ok (.getfield 37, 3) := by decide +kernel
theorem dX1_becomeLike_188 : decode cX1_becomeLike 188 = .ok (.iload_n 2, 1) := by decide +kernel
theorem dX1_becomeLike_189 : decode cX1_becomeLike 189 = .ok (.iaload, 1) := by decide +kernel
theorem dX1_becomeLike_190 : decode cX1_becomeLike 190 = .ok (.iastore, 1) := by decide +kernel
theorem dX1_becomeLike_191 : decode cX1_becomeLike 191 = .ok (.iinc 2 1, 3) := by decide +kernel
theorem dX1_becomeLike_194 : decode cX1_becomeLike 194 = .ok (.goto (-44), 3) := by decide +kernel
theorem dX1_becomeLike_197 : decode cX1_becomeLike 197 = .ok (.return_, 1) := by decide +kernel
theorem dX1_clear_0 : decode cX1_clear 0 = .ok (.aload_n 0, 1) := by decide +kernel
theorem dX1_clear_1 : decode cX1_clear 1 = .ok (.iload_n 1, 1) := by decide +kernel
theorem dX1_clear_2 : decode cX1_clear 2 = .ok (.putfield 47, 3) := by decide +kernel
theorem dX1_clear_5 : decode cX1_clear 5 = .ok (.aload_n 0, 1) := by decide +kernel
theorem dX1_clear_6 : decode cX1_clear 6 = .ok (.iload_n 2, 1) := by decide +kernel
theorem dX1_clear_7 : decode cX1_clear 7 = .ok (.putfield 51, 3) := by decide +kernel
theorem dX1_clear_10 : decode cX1_clear 10 = .ok (.aload_n 0, 1) := by decide +kernel
theorem dX1_clear_11 : decode cX1_clear 11 = .ok (.iconst 0, 1) := by decide +kernel
theorem dX1_clear_12 : decode cX1_clear 12 = .ok (.iconst 0, 1) := by decide +kernel
theorem dX1_clear_13 : decode cX1_clear 13 = .ok (.iload_n 1, 1) := by decide +kernel
theorem dX1_clear_14 : decode cX1_clear 14 = .ok (.iconst 1, 1) := by decide +kernel
theorem dX1_clear_15 : decode cX1_clear 15 = .ok (.isub, 1) := by decide +kernel
theorem dX1_clear_16 : decode cX1_clear 16 = .ok (.iload_n 2, 1) := by decide +kernel
theorem dX1_clear_17 : decode cX1_clear 17 = .ok (.iconst 1, 1) := by decide +kernel
theorem dX1_clear_18 : decode cX1_clear 18 = .ok (.isub, 1) := by decide +kernel
theorem dX1_clear_19 : decode cX1_clear 19 = .ok (.invokestatic 54, 3) := by decide +kernel
theorem dX1_clear_22 : decode cX1_clear 22 = .ok (.putfield 58, 3) := by decide +kernel
theorem dX1_clear_25 : decode cX1_clear 25 = .ok (.aload_n 0, 1) := by decide +kernel
theorem dX1_clear_26 : decode cX1_clear 26 = .ok (.iconst 0, 1) := by decide +kernel
theorem dX1_clear_27 : decode cX1_clear 27 = .ok (.putfield 62, 3) := by decide +kernel
theorem dX1_clear_30 : decode cX1_clear 30 = .ok (.aload_n 0, 1) := by decide +kernel
theorem dX1_clear_31 : decode cX1_clear 31 = .ok (.iconst 0, 1) := by decide +kernel
theorem dX1_clear_32 : decode cX1_clear 32 = .ok (.putfield 65, 3) := by decide +kernel
theorem dX1_clear_35 : decode cX1_clear 35 = .ok (.aload_n 0, 1) := by decide +kernel
theorem dX1_clear_36 : decode cX1_clear 36 = .ok (.iconst 0, 1) := by decide +kernel
theorem dX1_clear_37 : decode cX1_clear 37 = .ok (.putfield 68, 3) := by decide +kernel
theorem dX1_clear_40 : decode cX1_clear 40 = .ok (.aload_n 0, 1) := by decide +kernel
theorem dX1_clear_41 : decode cX1_clear 41 = .ok (.lconst 0, 1) := by decide +kernel
theorem dX1_clear_42 : decode cX1_clear 42 = .ok (.putfield 71, 3) := by decide +kernel
theorem dX1_clear_45 : decode cX1_clear 45 = .ok (.aload_n 0, 1) := by decide +kernel
theorem dX1_clear_46 : decode cX1_clear 46 = .ok (.iconst 0, 1) := by decide +kernel
theorem dX1_clear_47 : decode cX1_clear 47 = .ok (.putfield 74, 3) := by decide +kernel
theorem dX1_clear_50 : decode cX1_clear 50 = .ok (.aload_n 0, 1) := by decide +kernel
theorem dX1_clear_51 : decode cX1_clear 51 = .ok (.iconst 0, 1) := by decide +kernel
theorem dX1_clear_52 : decode cX1_clear 52 = .ok (.putfield 77, 3) := by decide +kernel
theorem dX1_clear_55 : decode cX1_clear 55 = .ok (.return_, 1) := by decide +kernel
theorem dX1_firstCrowded_0 : decode cX1_firstCrowded 0 = .ok (.lconst 0, 1) := by decide +kernel
theorem dX1_firstCrowded_1 : decode cX1_firstCrowded 1 = .ok (.lstore_n 1, 1) := by decide +kernel
theorem dX1_firstCrowded_2 : decode cX1_firstCrowded 2 = .ok (.iconst 0, 1) := by decide +kernel
theorem dX1_firstCrowded_3 : decode cX1_firstCrowded 3 = .ok (.istore_n 3, 1) := by decide +kernel
theorem dX1_firstCrowded_4 : decode cX1_firstCrowded 4 = .ok (.iload_n 3, 1) := by decide +kernel
theorem dX1_firstCrowded_5 : decode cX1_firstCrowded 5 = .ok (.aload_n 0, 1) := by decide +kernel
theorem dX1_firstCrowded_6 : decode cX1_firstCrowded 6 = .ok (.getfield 62, 3) := by decide +kernel
theorem dX1_firstCrowded_9 : decode cX1_firstCrowded 9 = .ok (.if_icmp .ge 47, 3) := by decide +kernel
theorem dX1_firstCrowded_12 : decode cX1_firstCrowded 12 = .ok (.aload_n 0, 1) := by decide +kernel
theorem dX1_firstCrowded_13 : decode cX1_firstCrowded 13 = .ok (.getfield 21, 3) := by decide +kernel
theorem dX1_firstCrowded_16 : decode cX1_firstCrowded 16 = .ok (.iload_n 3, 1) := by decide +kernel
theorem dX1_firstCrowded_17 : decode cX1_firstCrowded 17 = .ok (.iaload, 1) := by decide +kernel
theorem dX1_firstCrowded_18 : decode cX1_firstCrowded 18 = .ok (.bipush (-9), 2) := by decide +kernel
theorem dX1_firstCrowded_20 : decode cX1_firstCrowded 20 = .ok (.if_icmp .eq 30, 3) := by decide +kernel
theorem dX1_firstCrowded_23 : decode cX1_firstCrowded 23 = .ok (.lload_n 1, 1) := by decide +kernel
theorem dX1_firstCrowded_24 : decode cX1_firstCrowded 24 = .ok (.aload_n 0, 1) := by decide +kernel
theorem dX1_firstCrowded_25 : decode cX1_firstCrowded 25 = .ok (.getfield 21, 3) := by decide +kernel
theorem dX1_firstCrowded_28 : decode cX1_firstCrowded 28 = .ok (.iload_n 3, 1) := by decide +kernel
theorem dX1_firstCrowded_29 : decode cX1_firstCrowded 29 = .ok (.iaload, 1) := by decide +kernel
theorem dX1_firstCrowded_30 : decode cX1_firstCrowded 30 = .ok (.invokestatic 139, 3) := by decide +kernel
theorem dX1_firstCrowded_33 : decode cX1_firstCrowded 33 = .ok (.ifCond .eq 5, 3) := by decide +kernel
theorem dX1_firstCrowded_36 : decode cX1_firstCrowded 36 = .ok (.iload_n 3, 1) := by decide +kernel
theorem dX1_firstCrowded_37 : decode cX1_firstCrowded 37 = .ok (.ireturn, 1) := by decide +kernel
theorem dX1_firstCrowded_38 : decode cX1_firstCrowded 38 = .ok (.lload_n 1, 1) := by decide +kernel
theorem dX1_firstCrowded_39 : decode cX1_firstCrowded 39 = .ok (.aload_n 0, 1) := by decide +kernel
theorem dX1_firstCrowded_40 : decode cX1_firstCrowded 40 = .ok (.getfield 21, 3) := by decide +kernel
theorem dX1_firstCrowded_43 : decode cX1_firstCrowded 43 = .ok (.iload_n 3, 1) := by decide +kernel
theorem dX1_firstCrowded_44 : decode cX1_firstCrowded 44 = .ok (.iaload, 1) := by decide +kernel
theorem dX1_firstCrowded_45 : decode cX1_firstCrowded 45 = .ok (.invokestatic 97, 3) := by decide +kernel
theorem dX1_firstCrowded_48 : decode cX1_firstCrowded 48 = .ok (.lor, 1) := by decide +kernel
theorem dX1_firstCrowded_49 : decode cX1_firstCrowded 49 = .ok (.lstore_n 1, 1) := by decide +kernel
theorem dX1_firstCrowded_50 : decode cX1_firstCrowded 50 = .ok (.iinc 3 1, 3) := by decide +kernel
theorem dX1_firstCrowded_53 : decode cX1_firstCrowded 53 = .ok (.goto (-49), 3) := by decide +kernel
theorem dX1_firstCrowded_56 : decode cX1_firstCrowded 56 = .ok (.bipush (-9), 2) := by decide +kernel
theorem dX1_firstCrowded_58 : decode cX1_firstCrowded 58 = .ok (.ireturn, 1) := by decide +kernel
theorem dX1_firstUntold_0 : decode cX1_firstUntold 0 = .ok (.iconst 0, 1) := by decide +kernel
theorem dX1_firstUntold_1 : decode cX1_firstUntold 1 = .ok (.istore_n 1, 1) := by decide +kernel
theorem dX1_firstUntold_2 : decode cX1_firstUntold 2 = .ok (.iload_n 1, 1) := by decide +kernel
theorem dX1_firstUntold_3 : decode cX1_firstUntold 3 = .ok (.aload_n 0, 1) := by decide +kernel
theorem dX1_firstUntold_4 : decode cX1_firstUntold 4 = .ok (.getfield 62, 3) := by decide +kernel
theorem dX1_firstUntold_7 : decode cX1_firstUntold 7 = .ok (.if_icmp .ge 39, 3) := by decide +kernel
theorem dX1_firstUntold_10 : decode cX1_firstUntold 10 = .ok (.aload_n 0, 1) := by decide +kernel
theorem dX1_firstUntold_11 : decode cX1_firstUntold 11 = .ok (.getfield 21, 3) := by decide +kernel
theorem dX1_firstUntold_14 : decode cX1_firstUntold 14 = .ok (.iload_n 1, 1) := by decide +kernel
theorem dX1_firstUntold_15 : decode cX1_firstUntold 15 = .ok (.iaload, 1) := by decide +kernel
theorem dX1_firstUntold_16 : decode cX1_firstUntold 16 = .ok (.bipush (-9), 2) := by decide +kernel
theorem dX1_firstUntold_18 : decode cX1_firstUntold 18 = .ok (.if_icmp .eq 22, 3) := by decide +kernel
theorem dX1_firstUntold_21 : decode cX1_firstUntold 21 = .ok (.aload_n 0, 1) := by decide +kernel
theorem dX1_firstUntold_22 : decode cX1_firstUntold 22 = .ok (.iload_n 1, 1) := by decide +kernel
theorem dX1_firstUntold_23 : decode cX1_firstUntold 23 = .ok (.invokevirtual 147, 3) := by decide +kernel
theorem dX1_firstUntold_26 : decode cX1_firstUntold 26 = .ok (.aload_n 0, 1) := by decide +kernel
theorem dX1_firstUntold_27 : decode cX1_firstUntold 27 = .ok (.getfield 21, 3) := by decide +kernel
theorem dX1_firstUntold_30 : decode cX1_firstUntold 30 = .ok (.iload_n 1, 1) := by decide +kernel
theorem dX1_firstUntold_31 : decode cX1_firstUntold 31 = .ok (.iaload, 1) := by decide +kernel
theorem dX1_firstUntold_32 : decode cX1_firstUntold 32 = .ok (.invokestatic 139, 3) := by decide +kernel
theorem dX1_firstUntold_35 : decode cX1_firstUntold 35 = .ok (.ifCond .ne 5, 3) := by decide +kernel
theorem dX1_firstUntold_38 : decode cX1_firstUntold 38 = .ok (.iload_n 1, 1) := by decide +kernel
theorem dX1_firstUntold_39 : decode cX1_firstUntold 39 = .ok (.ireturn, 1) := by decide +kernel
theorem dX1_firstUntold_40 : decode cX1_firstUntold 40 = .ok (.iinc 1 1, 3) := by decide +kernel
theorem dX1_firstUntold_43 : decode cX1_firstUntold 43 = .ok (.goto (-41), 3) := by decide +kernel
theorem dX1_firstUntold_46 : decode cX1_firstUntold 46 = .ok (.bipush (-9), 2) := by decide +kernel
theorem dX1_firstUntold_48 : decode cX1_firstUntold 48 = .ok (.ireturn, 1) := by decide +kernel
theorem dX1_groupOf_0 : decode cX1_groupOf 0 = .ok (.aload_n 0, 1) := by decide +kernel
theorem dX1_groupOf_1 : decode cX1_groupOf 1 = .ok (.getfield 11, 3) := by decide +kernel
theorem dX1_groupOf_4 : decode cX1_groupOf 4 = .ok (.iload_n 1, 1) := by decide +kernel
theorem dX1_groupOf_5 : decode cX1_groupOf 5 = .ok (.aaload, 1) := by decide +kernel
theorem dX1_groupOf_6 : decode cX1_groupOf 6 = .ok (.invokevirtual 109, 3) := by decide +kernel
theorem dX1_groupOf_9 : decode cX1_groupOf 9 = .ok (.ifCond .eq 7, 3) := by decide +kernel
theorem dX1_groupOf_12 : decode cX1_groupOf 12 = .ok (.iconst 1, 1) := by decide +kernel
theorem dX1_groupOf_13 : decode cX1_groupOf 13 = .ok (.iload_n 1, 1) := by decide +kernel
theorem dX1_groupOf_14 : decode cX1_groupOf 14 = .ok (.ishl, 1) := by decide +kernel
theorem dX1_groupOf_15 : decode cX1_groupOf 15 = .ok (.ireturn, 1) := by decide +kernel
theorem dX1_groupOf_16 : decode cX1_groupOf 16 = .ok (.aload_n 0, 1) := by decide +kernel
theorem dX1_groupOf_17 : decode cX1_groupOf 17 = .ok (.invokevirtual 122, 3) := by decide +kernel
theorem dX1_groupOf_20 : decode cX1_groupOf 20 = .ok (.aload_n 0, 1) := by decide +kernel
theorem dX1_groupOf_21 : decode cX1_groupOf 21 = .ok (.iload_n 1, 1) := by decide +kernel
theorem dX1_groupOf_22 : decode cX1_groupOf 22 = .ok (.aload_n 0, 1) := by decide +kernel
theorem dX1_groupOf_23 : decode cX1_groupOf 23 = .ok (.invokevirtual 125, 3) := by decide +kernel
theorem dX1_groupOf_26 : decode cX1_groupOf 26 = .ok (.iconst (-1), 1) := by decide +kernel
theorem dX1_groupOf_27 : decode cX1_groupOf 27 = .ok (.ixor, 1) := by decide +kernel
theorem dX1_groupOf_28 : decode cX1_groupOf 28 = .ok (.invokevirtual 129, 3) := by decide +kernel
theorem dX1_groupOf_31 : decode cX1_groupOf 31 = .ok (.ireturn, 1) := by decide +kernel
theorem dX1_init_0 : decode cX1_init 0 = .ok (.aload_n 0, 1) := by decide +kernel
theorem dX1_init_1 : decode cX1_init 1 = .ok (.invokespecial 3, 3) := by decide +kernel
theorem dX1_init_4 : decode cX1_init 4 = .ok (.aload_n 0, 1) := by decide +kernel
theorem dX1_init_5 : decode cX1_init 5 = .ok (.bipush 24, 2) := by decide +kernel
theorem dX1_init_7 : decode cX1_init 7 = .ok (.anewarray 9, 3) := by decide +kernel
theorem dX1_init_10 : decode cX1_init 10 = .ok (.putfield 11, 3) := by decide +kernel
theorem dX1_init_13 : decode cX1_init 13 = .ok (.aload_n 0, 1) := by decide +kernel
theorem dX1_init_14 : decode cX1_init 14 = .ok (.bipush 24, 2) := by decide +kernel
theorem dX1_init_16 : decode cX1_init 16 = .ok (.newarray .long, 2) := by decide +kernel
theorem dX1_init_18 : decode cX1_init 18 = .ok (.putfield 17, 3) := by decide +kernel
theorem dX1_init_21 : decode cX1_init 21 = .ok (.aload_n 0, 1) := by decide +kernel
theorem dX1_init_22 : decode cX1_init 22 = .ok (.bipush 24, 2) := by decide +kernel
theorem dX1_init_24 : decode cX1_init 24 = .ok (.newarray .int, 2) := by decide +kernel
theorem dX1_init_26 : decode cX1_init 26 = .ok (.putfield 21, 3) := by decide +kernel
theorem dX1_init_29 : decode cX1_init 29 = .ok (.aload_n 0, 1) := by decide +kernel
theorem dX1_init_30 : decode cX1_init 30 = .ok (.bipush 60, 2) := by decide +kernel
theorem dX1_init_32 : decode cX1_init 32 = .ok (.anewarray 25, 3) := by decide +kernel
theorem dX1_init_35 : decode cX1_init 35 = .ok (.putfield 27, 3) := by decide +kernel
theorem dX1_init_38 : decode cX1_init 38 = .ok (.aload_n 0, 1) := by decide +kernel
theorem dX1_init_39 : decode cX1_init 39 = .ok (.iconst 3, 1) := by decide +kernel
theorem dX1_init_40 : decode cX1_init 40 = .ok (.newarray .int, 2) := by decide +kernel
theorem dX1_init_42 : decode cX1_init 42 = .ok (.putfield 31, 3) := by decide +kernel
theorem dX1_init_45 : decode cX1_init 45 = .ok (.aload_n 0, 1) := by decide +kernel
theorem dX1_init_46 : decode cX1_init 46 = .ok (.iconst 3, 1) := by decide +kernel
theorem dX1_init_47 : decode cX1_init 47 = .ok (.newarray .int, 2) := by decide +kernel
theorem dX1_init_49 : decode cX1_init 49 = .ok (.putfield 34, 3) := by decide +kernel
theorem dX1_init_52 : decode cX1_init 52 = .ok (.aload_n 0, 1) := by decide +kernel
theorem dX1_init_53 : decode cX1_init 53 = .ok (.iconst 3, 1) := by decide +kernel
theorem dX1_init_54 : decode cX1_init 54 = .ok (.newarray .int, 2) := by decide +kernel
theorem dX1_init_56 : decode cX1_init 56 = .ok (.putfield 37, 3) := by decide +kernel
theorem dX1_init_59 : decode cX1_init 59 = .ok (.aload_n 0, 1) := by decide +kernel
theorem dX1_init_60 : decode cX1_init 60 = .ok (.bipush 24, 2) := by decide +kernel
theorem dX1_init_62 : decode cX1_init 62 = .ok (.newarray .int, 2) := by decide +kernel
theorem dX1_init_64 : decode cX1_init 64 = .ok (.putfield 40, 3) := by decide +kernel
theorem dX1_init_67 : decode cX1_init 67 = .ok (.aload_n 0, 1) := by decide +kernel
theorem dX1_init_68 : decode cX1_init 68 = .ok (.bipush 8, 2) := by decide +kernel
theorem dX1_init_70 : decode cX1_init 70 = .ok (.bipush 8, 2) := by decide +kernel
theorem dX1_init_72 : decode cX1_init 72 = .ok (.invokevirtual 43, 3) := by decide +kernel
theorem dX1_init_75 : decode cX1_init 75 = .ok (.return_, 1) := by decide +kernel
theorem dX1_isCell_0 : decode cX1_isCell 0 = .ok (.iload_n 1, 1) := by decide +kernel
theorem dX1_isCell_1 : decode cX1_isCell 1 = .ok (.iconst 0, 1) := by decide +kernel
theorem dX1_isCell_2 : decode cX1_isCell 2 = .ok (.bipush 63, 2) := by decide +kernel
theorem dX1_isCell_4 : decode cX1_isCell 4 = .ok (.invokestatic 81, 3) := by decide +kernel
theorem dX1_isCell_7 : decode cX1_isCell 7 = .ok (.ifCond .eq 28, 3) := by decide +kernel
theorem dX1_isCell_10 : decode cX1_isCell 10 = .ok (.iload_n 1, 1) := by decide +kernel
theorem dX1_isCell_11 : decode cX1_isCell 11 = .ok (.bipush 7, 2) := by decide +kernel
theorem dX1_isCell_13 : decode cX1_isCell 13 = .ok (.iand, 1) := by decide +kernel
theorem dX1_isCell_14 : decode cX1_isCell 14 = .ok (.aload_n 0, 1) := by decide +kernel
theorem dX1_isCell_15 : decode cX1_isCell 15 = .ok (.getfield 47, 3) := by decide +kernel
theorem dX1_isCell_18 : decode cX1_isCell 18 = .ok (.if_icmp .ge 17, 3) := by decide +kernel
theorem dX1_isCell_21 : decode cX1_isCell 21 = .ok (.iload_n 1, 1) := by decide +kernel
theorem dX1_isCell_22 : decode cX1_isCell 22 = .ok (.iconst 3, 1) := by decide +kernel
theorem dX1_isCell_23 : decode cX1_isCell 23 = .ok (.ishr, 1) := by decide +kernel
theorem dX1_isCell_24 : decode cX1_isCell 24 = .ok (.aload_n 0, 1) := by decide +kernel
theorem dX1_isCell_25 : decode cX1_isCell 25 = .ok (.getfield 51, 3) := by decide +kernel
theorem dX1_isCell_28 : decode cX1_isCell 28 = .ok (.if_icmp .ge 7, 3) := by decide +kernel
theorem dX1_isCell_31 : decode cX1_isCell 31 = .ok (.iconst 1, 1) := by decide +kernel
theorem dX1_isCell_32 : decode cX1_isCell 32 = .ok (.goto 4, 3) := by decide +kernel
theorem dX1_isCell_35 : decode cX1_isCell 35 = .ok (.iconst 0, 1) := by decide +kernel
theorem dX1_isCell_36 : decode cX1_isCell 36 = .ok (.ireturn, 1) := by decide +kernel
theorem dX1_isMeasure_0 : decode cX1_isMeasure 0 = .ok (.iload_n 1, 1) := by decide +kernel
theorem dX1_isMeasure_1 : decode cX1_isMeasure 1 = .ok (.iconst 0, 1) := by decide +kernel
theorem dX1_isMeasure_2 : decode cX1_isMeasure 2 = .ok (.aload_n 0, 1) := by decide +kernel
theorem dX1_isMeasure_3 : decode cX1_isMeasure 3 = .ok (.getfield 68, 3) := by decide +kernel
theorem dX1_isMeasure_6 : decode cX1_isMeasure 6 = .ok (.iconst 1, 1) := by decide +kernel
theorem dX1_isMeasure_7 : decode cX1_isMeasure 7 = .ok (.isub, 1) := by decide +kernel
theorem dX1_isMeasure_8 : decode cX1_isMeasure 8 = .ok (.invokestatic 81, 3) := by decide +kernel
theorem dX1_isMeasure_11 : decode cX1_isMeasure 11 = .ok (.ireturn, 1) := by decide +kernel
theorem dX1_isMover_0 : decode cX1_isMover 0 = .ok (.iload_n 1, 1) := by decide +kernel
theorem dX1_isMover_1 : decode cX1_isMover 1 = .ok (.iconst 0, 1) := by decide +kernel
theorem dX1_isMover_2 : decode cX1_isMover 2 = .ok (.aload_n 0, 1) := by decide +kernel
theorem dX1_isMover_3 : decode cX1_isMover 3 = .ok (.getfield 74, 3) := by decide +kernel
theorem dX1_isMover_6 : decode cX1_isMover 6 = .ok (.iconst 1, 1) := by decide +kernel
theorem dX1_isMover_7 : decode cX1_isMover 7 = .ok (.isub, 1) := by decide +kernel
theorem dX1_isMover_8 : decode cX1_isMover 8 = .ok (.invokestatic 81, 3) := by decide +kernel
theorem dX1_isMover_11 : decode cX1_isMover 11 = .ok (.ireturn, 1) := by decide +kernel
theorem dX1_isThing_0 : decode cX1_isThing 0 = .ok (.iload_n 1, 1) := by decide +kernel
theorem dX1_isThing_1 : decode cX1_isThing 1 = .ok (.iconst 0, 1) := by decide +kernel
theorem dX1_isThing_2 : decode cX1_isThing 2 = .ok (.aload_n 0, 1) := by decide +kernel
theorem dX1_isThing_3 : decode cX1_isThing 3 = .ok (.getfield 62, 3) := by decide +kernel
theorem dX1_isThing_6 : decode cX1_isThing 6 = .ok (.iconst 1, 1) := by decide +kernel
theorem dX1_isThing_7 : decode cX1_isThing 7 = .ok (.isub, 1) := by decide +kernel
theorem dX1_isThing_8 : decode cX1_isThing 8 = .ok (.invokestatic 81, 3) := by decide +kernel
theorem dX1_isThing_11 : decode cX1_isThing 11 = .ok (.ireturn, 1) := by decide +kernel
theorem dX1_isTick_0 : decode cX1_isTick 0 = .ok (.aload_n 0, 1) := by decide +kernel
theorem dX1_isTick_1 : decode cX1_isTick 1 = .ok (.iload_n 1, 1) := by decide +kernel
theorem dX1_isTick_2 : decode cX1_isTick 2 = .ok (.invokevirtual 85, 3) := by decide +kernel
theorem dX1_isTick_5 : decode cX1_isTick 5 = .ok (.ifCond .eq 23, 3) := by decide +kernel
theorem dX1_isTick_8 : decode cX1_isTick 8 = .ok (.iload_n 2, 1) := by decide +kernel
theorem dX1_isTick_9 : decode cX1_isTick 9 = .ok (.iconst 0, 1) := by decide +kernel
theorem dX1_isTick_10 : decode cX1_isTick 10 = .ok (.aload_n 0, 1) := by decide +kernel
theorem dX1_isTick_11 : decode cX1_isTick 11 = .ok (.getfield 34, 3) := by decide +kernel
theorem dX1_isTick_14 : decode cX1_isTick 14 = .ok (.iload_n 1, 1) := by decide +kernel
theorem dX1_isTick_15 : decode cX1_isTick 15 = .ok (.iaload, 1) := by decide +kernel
theorem dX1_isTick_16 : decode cX1_isTick 16 = .ok (.iconst 1, 1) := by decide +kernel
theorem dX1_isTick_17 : decode cX1_isTick 17 = .ok (.isub, 1) := by decide +kernel
theorem dX1_isTick_18 : decode cX1_isTick 18 = .ok (.invokestatic 81, 3) := by decide +kernel
theorem dX1_isTick_21 : decode cX1_isTick 21 = .ok (.ifCond .eq 7, 3) := by decide +kernel
theorem dX1_isTick_24 : decode cX1_isTick 24 = .ok (.iconst 1, 1) := by decide +kernel
theorem dX1_isTick_25 : decode cX1_isTick 25 = .ok (.goto 4, 3) := by decide +kernel
theorem dX1_isTick_28 : decode cX1_isTick 28 = .ok (.iconst 0, 1) := by decide +kernel
theorem dX1_isTick_29 : decode cX1_isTick 29 = .ok (.ireturn, 1) := by decide +kernel
theorem dX1_link_0 : decode cX1_link 0 = .ok (.aload_n 0, 1) := by decide +kernel
theorem dX1_link_1 : decode cX1_link 1 = .ok (.getfield 40, 3) := by decide +kernel
theorem dX1_link_4 : decode cX1_link 4 = .ok (.iconst 0, 1) := by decide +kernel
theorem dX1_link_5 : decode cX1_link 5 = .ok (.invokestatic 133, 3) := by decide +kernel
theorem dX1_link_8 : decode cX1_link 8 = .ok (.iconst 0, 1) := by decide +kernel
theorem dX1_link_9 : decode cX1_link 9 = .ok (.istore_n 1, 1) := by decide +kernel
theorem dX1_link_10 : decode cX1_link 10 = .ok (.iload_n 1, 1) := by decide +kernel
theorem dX1_link_11 : decode cX1_link 11 = .ok (.aload_n 0, 1) := by decide +kernel
theorem dX1_link_12 : decode cX1_link 12 = .ok (.getfield 68, 3) := by decide +kernel
theorem dX1_link_15 : decode cX1_link 15 = .ok (.if_icmp .ge 76, 3) := by decide +kernel
theorem dX1_link_18 : decode cX1_link 18 = .ok (.aload_n 0, 1) := by decide +kernel
theorem dX1_link_19 : decode cX1_link 19 = .ok (.getfield 71, 3) := by decide +kernel
theorem dX1_link_22 : decode cX1_link 22 = .ok (.iload_n 1, 1) := by decide +kernel
theorem dX1_link_23 : decode cX1_link 23 = .ok (.invokestatic 139, 3) := by decide +kernel
theorem dX1_link_26 : decode cX1_link 26 = .ok (.ifCond .eq 59, 3) := by decide +kernel
theorem dX1_link_29 : decode cX1_link 29 = .ok (.aload_n 0, 1) := by decide +kernel
theorem dX1_link_30 : decode cX1_link 30 = .ok (.getfield 40, 3) := by decide +kernel
theorem dX1_link_33 : decode cX1_link 33 = .ok (.aload_n 0, 1) := by decide +kernel
theorem dX1_link_34 : decode cX1_link 34 = .ok (.getfield 27, 3) := by decide +kernel
theorem dX1_link_37 : decode cX1_link 37 = .ok (.iload_n 1, 1) := by decide +kernel
theorem dX1_link_38 : decode cX1_link 38 = .ok (.aaload, 1) := by decide +kernel
theorem dX1_link_39 : decode cX1_link 39 = .ok (.getfield 116, 3) := by decide +kernel
theorem dX1_link_42 : decode cX1_link 42 = .ok (.dup2, 1) := by decide +kernel
theorem dX1_link_43 : decode cX1_link 43 = .ok (.iaload, 1) := by decide +kernel
theorem dX1_link_44 : decode cX1_link 44 = .ok (.iconst 1, 1) := by decide +kernel
theorem dX1_link_45 : decode cX1_link 45 = .ok (.aload_n 0, 1) := by decide +kernel
theorem dX1_link_46 : decode cX1_link 46 = .ok (.getfield 27, 3) := by decide +kernel
theorem dX1_link_49 : decode cX1_link 49 = .ok (.iload_n 1, 1) := by decide +kernel
theorem dX1_link_50 : decode cX1_link 50 = .ok (.aaload, 1) := by decide +kernel
theorem dX1_link_51 : decode cX1_link 51 = .ok (.getfield 119, 3) := by decide +kernel
theorem dX1_link_54 : decode cX1_link 54 = .ok (.ishl, 1) := by decide +kernel
theorem dX1_link_55 : decode cX1_link 55 = .ok (.ior, 1) := by decide +kernel
theorem dX1_link_56 : decode cX1_link 56 = .ok (.iastore, 1) := by decide +kernel
theorem dX1_link_57 : decode cX1_link 57 = .ok (.aload_n 0, 1) := by decide +kernel
theorem dX1_link_58 : decode cX1_link 58 = .ok (.getfield 40, 3) := by decide +kernel
theorem dX1_link_61 : decode cX1_link 61 = .ok (.aload_n 0, 1) := by decide +kernel
theorem dX1_link_62 : decode cX1_link 62 = .ok (.getfield 27, 3) := by decide +kernel
theorem dX1_link_65 : decode cX1_link 65 = .ok (.iload_n 1, 1) := by decide +kernel
theorem dX1_link_66 : decode cX1_link 66 = .ok (.aaload, 1) := by decide +kernel
theorem dX1_link_67 : decode cX1_link 67 = .ok (.getfield 119, 3) := by decide +kernel
theorem dX1_link_70 : decode cX1_link 70 = .ok (.dup2, 1) := by decide +kernel
theorem dX1_link_71 : decode cX1_link 71 = .ok (.iaload, 1) := by decide +kernel
theorem dX1_link_72 : decode cX1_link 72 = .ok (.iconst 1, 1) := by decide +kernel
theorem dX1_link_73 : decode cX1_link 73 = .ok (.aload_n 0, 1) := by decide +kernel
theorem dX1_link_74 : decode cX1_link 74 = .ok (.getfield 27, 3) := by decide +kernel
theorem dX1_link_77 : decode cX1_link 77 = .ok (.iload_n 1, 1) := by decide +kernel
theorem dX1_link_78 : decode cX1_link 78 = .ok (.aaload, 1) := by decide +kernel
theorem dX1_link_79 : decode cX1_link 79 = .ok (.getfield 116, 3) := by decide +kernel
theorem dX1_link_82 : decode cX1_link 82 = .ok (.ishl, 1) := by decide +kernel
theorem dX1_link_83 : decode cX1_link 83 = .ok (.ior, 1) := by decide +kernel
theorem dX1_link_84 : decode cX1_link 84 = .ok (.iastore, 1) := by decide +kernel
theorem dX1_link_85 : decode cX1_link 85 = .ok (.iinc 1 1, 3) := by decide +kernel
theorem dX1_link_88 : decode cX1_link 88 = .ok (.goto (-78), 3) := by decide +kernel
theorem dX1_link_91 : decode cX1_link 91 = .ok (.return_, 1) := by decide +kernel
theorem dX1_measuresOf_0 : decode cX1_measuresOf 0 = .ok (.lconst 0, 1) := by decide +kernel
theorem dX1_measuresOf_1 : decode cX1_measuresOf 1 = .ok (.lstore_n 2, 1) := by decide +kernel
theorem dX1_measuresOf_2 : decode cX1_measuresOf 2 = .ok (.iconst 0, 1) := by decide +kernel
theorem dX1_measuresOf_3 : decode cX1_measuresOf 3 = .ok (.istore 4, 2) := by decide +kernel
theorem dX1_measuresOf_5 : decode cX1_measuresOf 5 = .ok (.iload 4, 2) := by decide +kernel
theorem dX1_measuresOf_7 : decode cX1_measuresOf 7 = .ok (.aload_n 0, 1) := by decide +kernel
theorem dX1_measuresOf_8 : decode cX1_measuresOf 8 = .ok (.getfield 68, 3) := by decide +kernel
theorem dX1_measuresOf_11 : decode cX1_measuresOf 11 = .ok (.if_icmp .ge 45, 3) := by decide +kernel
theorem dX1_measuresOf_14 : decode cX1_measuresOf 14 = .ok (.aload_n 0, 1) := by decide +kernel
theorem dX1_measuresOf_15 : decode cX1_measuresOf 15 = .ok (.getfield 27, 3) := by decide +kernel
theorem dX1_measuresOf_18 : decode cX1_measuresOf 18 = .ok (.iload 4, 2) := by decide +kernel
theorem dX1_measuresOf_20 : decode cX1_measuresOf 20 = .ok (.aaload, 1) := by decide +kernel
theorem dX1_measuresOf_21 : decode cX1_measuresOf 21 = .ok (.getfield 116, 3) := by decide +kernel
theorem dX1_measuresOf_24 : decode cX1_measuresOf 24 = .ok (.iload_n 1, 1) := by decide +kernel
theorem dX1_measuresOf_25 : decode cX1_measuresOf 25 = .ok (.if_icmp .eq 17, 3) := by decide +kernel
theorem dX1_measuresOf_28 : decode cX1_measuresOf 28 = .ok (.aload_n 0, 1) := by decide +kernel
theorem dX1_measuresOf_29 : decode cX1_measuresOf 29 = .ok (.getfield 27, 3) := by decide +kernel
theorem dX1_measuresOf_32 : decode cX1_measuresOf 32 = .ok (.iload 4, 2) := by decide +kernel
theorem dX1_measuresOf_34 : decode cX1_measuresOf 34 = .ok (.aaload, 1) := by decide +kernel
theorem dX1_measuresOf_35 : decode cX1_measuresOf 35 = .ok (.getfield 119, 3) := by decide +kernel
theorem dX1_measuresOf_38 : decode cX1_measuresOf 38 = .ok (.iload_n 1, 1) := by decide +kernel
theorem dX1_measuresOf_39 : decode cX1_measuresOf 39 = .ok (.if_icmp .ne 11, 3) := by decide +kernel
theorem dX1_measuresOf_42 : decode cX1_measuresOf 42 = .ok (.lload_n 2, 1) := by decide +kernel
theorem dX1_measuresOf_43 : decode cX1_measuresOf 43 = .ok (.iload 4, 2) := by decide +kernel
theorem dX1_measuresOf_45 : decode cX1_measuresOf 45 = .ok (.invokestatic 97, 3) := by decide +kernel
theorem dX1_measuresOf_48 : decode cX1_measuresOf 48 = .ok (.lor, 1) := by decide +kernel
theorem dX1_measuresOf_49 : decode cX1_measuresOf 49 = .ok (.lstore_n 2, 1) := by decide +kernel
theorem dX1_measuresOf_50 : decode cX1_measuresOf 50 = .ok (.iinc 4 1, 3) := by decide +kernel
theorem dX1_measuresOf_53 : decode cX1_measuresOf 53 = .ok (.goto (-48), 3) := by decide +kernel
theorem dX1_measuresOf_56 : decode cX1_measuresOf 56 = .ok (.lload_n 2, 1) := by decide +kernel
theorem dX1_measuresOf_57 : decode cX1_measuresOf 57 = .ok (.lreturn, 1) := by decide +kernel
theorem dX1_spread_0 : decode cX1_spread 0 = .ok (.iconst 1, 1) := by decide +kernel
theorem dX1_spread_1 : decode cX1_spread 1 = .ok (.iload_n 1, 1) := by decide +kernel
theorem dX1_spread_2 : decode cX1_spread 2 = .ok (.ishl, 1) := by decide +kernel
theorem dX1_spread_3 : decode cX1_spread 3 = .ok (.istore_n 3, 1) := by decide +kernel
theorem dX1_spread_4 : decode cX1_spread 4 = .ok (.iload_n 3, 1) := by decide +kernel
theorem dX1_spread_5 : decode cX1_spread 5 = .ok (.istore 4, 2) := by decide +kernel
theorem dX1_spread_7 : decode cX1_spread 7 = .ok (.iconst 0, 1) := by decide +kernel
theorem dX1_spread_8 : decode cX1_spread 8 = .ok (.istore 5, 2) := by decide +kernel
theorem dX1_spread_10 : decode cX1_spread 10 = .ok (.iload 5, 2) := by decide +kernel
theorem dX1_spread_12 : decode cX1_spread 12 = .ok (.bipush 24, 2) := by decide +kernel
theorem dX1_spread_14 : decode cX1_spread 14 = .ok (.if_icmp .ge 54, 3) := by decide +kernel
theorem dX1_spread_17 : decode cX1_spread 17 = .ok (.iload 4, 2) := by decide +kernel
theorem dX1_spread_19 : decode cX1_spread 19 = .ok (.ifCond .eq 49, 3) := by decide +kernel
theorem dX1_spread_22 : decode cX1_spread 22 = .ok (.iload 4, 2) := by decide +kernel
theorem dX1_spread_24 : decode cX1_spread 24 = .ok (.i2l, 1) := by decide +kernel
theorem dX1_spread_25 : decode cX1_spread 25 = .ok (.invokestatic 143, 3) := by decide +kernel
theorem dX1_spread_28 : decode cX1_spread 28 = .ok (.istore 6, 2) := by decide +kernel
theorem dX1_spread_30 : decode cX1_spread 30 = .ok (.aload_n 0, 1) := by decide +kernel
theorem dX1_spread_31 : decode cX1_spread 31 = .ok (.getfield 40, 3) := by decide +kernel
theorem dX1_spread_34 : decode cX1_spread 34 = .ok (.iload 6, 2) := by decide +kernel
theorem dX1_spread_36 : decode cX1_spread 36 = .ok (.iaload, 1) := by decide +kernel
theorem dX1_spread_37 : decode cX1_spread 37 = .ok (.iload_n 2, 1) := by decide +kernel
theorem dX1_spread_38 : decode cX1_spread 38 = .ok (.iand, 1) := by decide +kernel
theorem dX1_spread_39 : decode cX1_spread 39 = .ok (.iload_n 3, 1) := by decide +kernel
theorem dX1_spread_40 : decode cX1_spread 40 = .ok (.iconst (-1), 1) := by decide +kernel
theorem dX1_spread_41 : decode cX1_spread 41 = .ok (.ixor, 1) := by decide +kernel
theorem dX1_spread_42 : decode cX1_spread 42 = .ok (.iand, 1) := by decide +kernel
theorem dX1_spread_43 : decode cX1_spread 43 = .ok (.istore 7, 2) := by decide +kernel
theorem dX1_spread_45 : decode cX1_spread 45 = .ok (.iload_n 3, 1) := by decide +kernel
theorem dX1_spread_46 : decode cX1_spread 46 = .ok (.iload 7, 2) := by decide +kernel
theorem dX1_spread_48 : decode cX1_spread 48 = .ok (.ior, 1) := by decide +kernel
theorem dX1_spread_49 : decode cX1_spread 49 = .ok (.istore_n 3, 1) := by decide +kernel
theorem dX1_spread_50 : decode cX1_spread 50 = .ok (.iload 4, 2) := by decide +kernel
theorem dX1_spread_52 : decode cX1_spread 52 = .ok (.iload 4, 2) := by decide +kernel
theorem dX1_spread_54 : decode cX1_spread 54 = .ok (.iconst 1, 1) := by decide +kernel
theorem dX1_spread_55 : decode cX1_spread 55 = .ok (.isub, 1) := by decide +kernel
theorem dX1_spread_56 : decode cX1_spread 56 = .ok (.iand, 1) := by decide +kernel
theorem dX1_spread_57 : decode cX1_spread 57 = .ok (.iload 7, 2) := by decide +kernel
theorem dX1_spread_59 : decode cX1_spread 59 = .ok (.ior, 1) := by decide +kernel
theorem dX1_spread_60 : decode cX1_spread 60 = .ok (.istore 4, 2) := by decide +kernel
theorem dX1_spread_62 : decode cX1_spread 62 = .ok (.iinc 5 1, 3) := by decide +kernel
theorem dX1_spread_65 : decode cX1_spread 65 = .ok (.goto (-55), 3) := by decide +kernel
theorem dX1_spread_68 : decode cX1_spread 68 = .ok (.iload_n 3, 1) := by decide +kernel
theorem dX1_spread_69 : decode cX1_spread 69 = .ok (.ireturn, 1) := by decide +kernel
theorem dX1_thingsOnMap_0 : decode cX1_thingsOnMap 0 = .ok (.iconst 0, 1) := by decide +kernel
theorem dX1_thingsOnMap_1 : decode cX1_thingsOnMap 1 = .ok (.istore_n 1, 1) := by decide +kernel
theorem dX1_thingsOnMap_2 : decode cX1_thingsOnMap 2 = .ok (.iconst 0, 1) := by decide +kernel
theorem dX1_thingsOnMap_3 : decode cX1_thingsOnMap 3 = .ok (.istore_n 2, 1) := by decide +kernel
theorem dX1_thingsOnMap_4 : decode cX1_thingsOnMap 4 = .ok (.iload_n 2, 1) := by decide +kernel
theorem dX1_thingsOnMap_5 : decode cX1_thingsOnMap 5 = .ok (.aload_n 0, 1) := by decide +kernel
theorem dX1_thingsOnMap_6 : decode cX1_thingsOnMap 6 = .ok (.getfield 62, 3) := by decide +kernel
theorem dX1_thingsOnMap_9 : decode cX1_thingsOnMap 9 = .ok (.if_icmp .ge 30, 3) := by decide +kernel
theorem dX1_thingsOnMap_12 : decode cX1_thingsOnMap 12 = .ok (.iload_n 1, 1) := by decide +kernel
theorem dX1_thingsOnMap_13 : decode cX1_thingsOnMap 13 = .ok (.aload_n 0, 1) := by decide +kernel
theorem dX1_thingsOnMap_14 : decode cX1_thingsOnMap 14 = .ok (.getfield 21, 3) := by decide +kernel
theorem dX1_thingsOnMap_17 : decode cX1_thingsOnMap 17 = .ok (.iload_n 2, 1) := by decide +kernel
theorem dX1_thingsOnMap_18 : decode cX1_thingsOnMap 18 = .ok (.iaload, 1) := by decide +kernel
theorem dX1_thingsOnMap_19 : decode cX1_thingsOnMap 19 = .ok (.bipush (-9), 2) := by decide +kernel
theorem dX1_thingsOnMap_21 : decode cX1_thingsOnMap 21 = .ok (.if_icmp .eq 9, 3) := by decide +kernel
theorem dX1_thingsOnMap_24 : decode cX1_thingsOnMap 24 = .ok (.iconst 1, 1) := by decide +kernel
theorem dX1_thingsOnMap_25 : decode cX1_thingsOnMap 25 = .ok (.iload_n 2, 1) := by decide +kernel
theorem dX1_thingsOnMap_26 : decode cX1_thingsOnMap 26 = .ok (.ishl, 1) := by decide +kernel
theorem dX1_thingsOnMap_27 : decode cX1_thingsOnMap 27 = .ok (.goto 4, 3) := by decide +kernel
theorem dX1_thingsOnMap_30 : decode cX1_thingsOnMap 30 = .ok (.iconst 0, 1) := by decide +kernel
theorem dX1_thingsOnMap_31 : decode cX1_thingsOnMap 31 = .ok (.ior, 1) := by decide +kernel
theorem dX1_thingsOnMap_32 : decode cX1_thingsOnMap 32 = .ok (.istore_n 1, 1) := by decide +kernel
theorem dX1_thingsOnMap_33 : decode cX1_thingsOnMap 33 = .ok (.iinc 2 1, 3) := by decide +kernel
theorem dX1_thingsOnMap_36 : decode cX1_thingsOnMap 36 = .ok (.goto (-32), 3) := by decide +kernel
theorem dX1_thingsOnMap_39 : decode cX1_thingsOnMap 39 = .ok (.iload_n 1, 1) := by decide +kernel
theorem dX1_thingsOnMap_40 : decode cX1_thingsOnMap 40 = .ok (.ireturn, 1) := by decide +kernel
theorem dX1_toldCells_0 : decode cX1_toldCells 0 = .ok (.aload_n 0, 1) := by decide +kernel
theorem dX1_toldCells_1 : decode cX1_toldCells 1 = .ok (.getfield 11, 3) := by decide +kernel
theorem dX1_toldCells_4 : decode cX1_toldCells 4 = .ok (.iload_n 1, 1) := by decide +kernel
theorem dX1_toldCells_5 : decode cX1_toldCells 5 = .ok (.aaload, 1) := by decide +kernel
theorem dX1_toldCells_6 : decode cX1_toldCells 6 = .ok (.invokevirtual 109, 3) := by decide +kernel
theorem dX1_toldCells_9 : decode cX1_toldCells 9 = .ok (.ifCond .eq 18, 3) := by decide +kernel
theorem dX1_toldCells_12 : decode cX1_toldCells 12 = .ok (.aload_n 0, 1) := by decide +kernel
theorem dX1_toldCells_13 : decode cX1_toldCells 13 = .ok (.getfield 11, 3) := by decide +kernel
theorem dX1_toldCells_16 : decode cX1_toldCells 16 = .ok (.iload_n 1, 1) := by decide +kernel
theorem dX1_toldCells_17 : decode cX1_toldCells 17 = .ok (.aaload, 1) := by decide +kernel
theorem dX1_toldCells_18 : decode cX1_toldCells 18 = .ok (.getfield 113, 3) := by decide +kernel
theorem dX1_toldCells_21 : decode cX1_toldCells 21 = .ok (.invokestatic 97, 3) := by decide +kernel
theorem dX1_toldCells_24 : decode cX1_toldCells 24 = .ok (.goto 14, 3) := by decide +kernel
theorem dX1_toldCells_27 : decode cX1_toldCells 27 = .ok (.aload_n 0, 1) := by decide +kernel
theorem dX1_toldCells_28 : decode cX1_toldCells 28 = .ok (.getfield 58, 3) := by decide +kernel
theorem dX1_toldCells_31 : decode cX1_toldCells 31 = .ok (.aload_n 0, 1) := by decide +kernel
theorem dX1_toldCells_32 : decode cX1_toldCells 32 = .ok (.getfield 17, 3) := by decide +kernel
theorem dX1_toldCells_35 : decode cX1_toldCells 35 = .ok (.iload_n 1, 1) := by decide +kernel
theorem dX1_toldCells_36 : decode cX1_toldCells 36 = .ok (.laload, 1) := by decide +kernel
theorem dX1_toldCells_37 : decode cX1_toldCells 37 = .ok (.land, 1) := by decide +kernel
theorem dX1_toldCells_38 : decode cX1_toldCells 38 = .ok (.lreturn, 1) := by decide +kernel
theorem dX2_canTurn_0 : decode cX2_canTurn 0 = .ok (.iconst 0, 1) := by decide +kernel
theorem dX2_canTurn_1 : decode cX2_canTurn 1 = .ok (.istore 4, 2) := by decide +kernel
theorem dX2_canTurn_3 : decode cX2_canTurn 3 = .ok (.iload_n 3, 1) := by decide +kernel
theorem dX2_canTurn_4 : decode cX2_canTurn 4 = .ok (.istore 5, 2) := by decide +kernel
theorem dX2_canTurn_6 : decode cX2_canTurn 6 = .ok (.iload 5, 2) := by decide +kernel
theorem dX2_canTurn_8 : decode cX2_canTurn 8 = .ok (.ifCond .eq 109, 3) := by decide +kernel
theorem dX2_canTurn_11 : decode cX2_canTurn 11 = .ok (.iload 5, 2) := by decide +kernel
theorem dX2_canTurn_13 : decode cX2_canTurn 13 = .ok (.i2l, 1) := by decide +kernel
theorem dX2_canTurn_14 : decode cX2_canTurn 14 = .ok (.invokestatic 63, 3) := by decide +kernel
theorem dX2_canTurn_17 : decode cX2_canTurn 17 = .ok (.istore 6, 2) := by decide +kernel
theorem dX2_canTurn_19 : decode cX2_canTurn 19 = .ok (.aload_n 0, 1) := by decide +kernel
theorem dX2_canTurn_20 : decode cX2_canTurn 20 = .ok (.iload_n 1, 1) := by decide +kernel
theorem dX2_canTurn_21 : decode cX2_canTurn 21 = .ok (.aload_n 0, 1) := by decide +kernel
theorem dX2_canTurn_22 : decode cX2_canTurn 22 = .ok (.getfield 15, 3) := by decide +kernel
theorem dX2_canTurn_25 : decode cX2_canTurn 25 = .ok (.getfield 60, 3) := by decide +kernel
theorem dX2_canTurn_28 : decode cX2_canTurn 28 = .ok (.iload_n 2, 1) := by decide +kernel
theorem dX2_canTurn_29 : decode cX2_canTurn 29 = .ok (.iaload, 1) := by decide +kernel
theorem dX2_canTurn_30 : decode cX2_canTurn 30 = .ok (.aload_n 0, 1) := by decide +kernel
theorem dX2_canTurn_31 : decode cX2_canTurn 31 = .ok (.getfield 15, 3) := by decide +kernel
theorem dX2_canTurn_34 : decode cX2_canTurn 34 = .ok (.getfield 60, 3) := by decide +kernel
theorem dX2_canTurn_37 : decode cX2_canTurn 37 = .ok (.iload 6, 2) := by decide +kernel
theorem dX2_canTurn_39 : decode cX2_canTurn 39 = .ok (.iaload, 1) := by decide +kernel
theorem dX2_canTurn_40 : decode cX2_canTurn 40 = .ok (.invokevirtual 95, 3) := by decide +kernel
theorem dX2_canTurn_43 : decode cX2_canTurn 43 = .ok (.istore 7, 2) := by decide +kernel
theorem dX2_canTurn_45 : decode cX2_canTurn 45 = .ok (.iload 7, 2) := by decide +kernel
theorem dX2_canTurn_47 : decode cX2_canTurn 47 = .ok (.bipush (-9), 2) := by decide +kernel
theorem dX2_canTurn_49 : decode cX2_canTurn 49 = .ok (.if_icmp .eq 20, 3) := by decide +kernel
theorem dX2_canTurn_52 : decode cX2_canTurn 52 = .ok (.aload_n 0, 1) := by decide +kernel
theorem dX2_canTurn_53 : decode cX2_canTurn 53 = .ok (.getfield 15, 3) := by decide +kernel
theorem dX2_canTurn_56 : decode cX2_canTurn 56 = .ok (.iload 6, 2) := by decide +kernel
theorem dX2_canTurn_58 : decode cX2_canTurn 58 = .ok (.invokevirtual 99, 3) := by decide +kernel
theorem dX2_canTurn_61 : decode cX2_canTurn 61 = .ok (.iload 7, 2) := by decide +kernel
theorem dX2_canTurn_63 : decode cX2_canTurn 63 = .ok (.invokestatic 49, 3) := by decide +kernel
theorem dX2_canTurn_66 : decode cX2_canTurn 66 = .ok (.ifCond .ne 5, 3) := by decide +kernel
theorem dX2_canTurn_69 : decode cX2_canTurn 69 = .ok (.iconst 0, 1) := by decide +kernel
theorem dX2_canTurn_70 : decode cX2_canTurn 70 = .ok (.ireturn, 1) := by decide +kernel
theorem dX2_canTurn_71 : decode cX2_canTurn 71 = .ok (.aload_n 0, 1) := by decide +kernel
theorem dX2_canTurn_72 : decode cX2_canTurn 72 = .ok (.getfield 9, 3) := by decide +kernel
theorem dX2_canTurn_75 : decode cX2_canTurn 75 = .ok (.iload 6, 2) := by decide +kernel
theorem dX2_canTurn_77 : decode cX2_canTurn 77 = .ok (.iload 7, 2) := by decide +kernel
theorem dX2_canTurn_79 : decode cX2_canTurn 79 = .ok (.iastore, 1) := by decide +kernel
theorem dX2_canTurn_80 : decode cX2_canTurn 80 = .ok (.iload 4, 2) := by decide +kernel
theorem dX2_canTurn_82 : decode cX2_canTurn 82 = .ok (.iload 7, 2) := by decide +kernel
theorem dX2_canTurn_84 : decode cX2_canTurn 84 = .ok (.aload_n 0, 1) := by decide +kernel
theorem dX2_canTurn_85 : decode cX2_canTurn 85 = .ok (.getfield 15, 3) := by decide +kernel
theorem dX2_canTurn_88 : decode cX2_canTurn 88 = .ok (.getfield 60, 3) := by decide +kernel
theorem dX2_canTurn_91 : decode cX2_canTurn 91 = .ok (.iload 6, 2) := by decide +kernel
theorem dX2_canTurn_93 : decode cX2_canTurn 93 = .ok (.iaload, 1) := by decide +kernel
theorem dX2_canTurn_94 : decode cX2_canTurn 94 = .ok (.if_icmp .eq 7, 3) := by decide +kernel
theorem dX2_canTurn_97 : decode cX2_canTurn 97 = .ok (.iconst 1, 1) := by decide +kernel
theorem dX2_canTurn_98 : decode cX2_canTurn 98 = .ok (.goto 4, 3) := by decide +kernel
theorem dX2_canTurn_101 : decode cX2_canTurn 101 = .ok (.iconst 0, 1) := by decide +kernel
theorem dX2_canTurn_102 : decode cX2_canTurn 102 = .ok (.ior, 1) := by decide +kernel
theorem dX2_canTurn_103 : decode cX2_canTurn 103 = .ok (.istore 4, 2) := by decide +kernel
theorem dX2_canTurn_105 : decode cX2_canTurn 105 = .ok (.iload 5, 2) := by decide +kernel
theorem dX2_canTurn_107 : decode cX2_canTurn 107 = .ok (.iload 5, 2) := by decide +kernel
theorem dX2_canTurn_109 : decode cX2_canTurn 109 = .ok (.iconst 1, 1) := by decide +kernel
theorem dX2_canTurn_110 : decode cX2_canTurn 110 = .ok (.isub, 1) := by decide +kernel
theorem dX2_canTurn_111 : decode cX2_canTurn 111 = .ok (.iand, 1) := by decide +kernel
theorem dX2_canTurn_112 : decode cX2_canTurn 112 = .ok (.istore 5, 2) := by decide +kernel
theorem dX2_canTurn_114 : decode cX2_canTurn 114 = .ok (.goto (-108), 3) := by decide +kernel
theorem dX2_canTurn_117 : decode cX2_canTurn 117 = .ok (.iload 4, 2) := by decide +kernel
theorem dX2_canTurn_119 : decode cX2_canTurn 119 = .ok (.ifCond .eq 33, 3) := by decide +kernel
theorem dX2_canTurn_122 : decode cX2_canTurn 122 = .ok (.aload_n 0, 1) := by decide +kernel
theorem dX2_canTurn_123 : decode cX2_canTurn 123 = .ok (.getfield 15, 3) := by decide +kernel
theorem dX2_canTurn_126 : decode cX2_canTurn 126 = .ok (.getfield 103, 3) := by decide +kernel
theorem dX2_canTurn_129 : decode cX2_canTurn 129 = .ok (.ifCond .eq 11, 3) := by decide +kernel
theorem dX2_canTurn_132 : decode cX2_canTurn 132 = .ok (.aload_n 0, 1) := by decide +kernel
theorem dX2_canTurn_133 : decode cX2_canTurn 133 = .ok (.iload_n 3, 1) := by decide +kernel
theorem dX2_canTurn_134 : decode cX2_canTurn 134 = .ok (.invokevirtual 106, 3) := by decide +kernel
theorem dX2_canTurn_137 : decode cX2_canTurn 137 = .ok (.ifCond .eq 15, 3) := by decide +kernel
theorem dX2_canTurn_140 : decode cX2_canTurn 140 = .ok (.aload_n 0, 1) := by decide +kernel
theorem dX2_canTurn_141 : decode cX2_canTurn 141 = .ok (.iload_n 3, 1) := by decide +kernel
theorem dX2_canTurn_142 : decode cX2_canTurn 142 = .ok (.invokevirtual 110, 3) := by decide +kernel
theorem dX2_canTurn_145 : decode cX2_canTurn 145 = .ok (.ifCond .eq 7, 3) := by decide +kernel
theorem dX2_canTurn_148 : decode cX2_canTurn 148 = .ok (.iconst 1, 1) := by decide +kernel
theorem dX2_canTurn_149 : decode cX2_canTurn 149 = .ok (.goto 4, 3) := by decide +kernel
theorem dX2_canTurn_152 : decode cX2_canTurn 152 = .ok (.iconst 0, 1) := by decide +kernel
theorem dX2_canTurn_153 : decode cX2_canTurn 153 = .ok (.ireturn, 1) := by decide +kernel
theorem dX2_cellAfter_0 : decode cX2_cellAfter 0 = .ok (.iload_n 1, 1) := by decide +kernel
theorem dX2_cellAfter_1 : decode cX2_cellAfter 1 = .ok (.i2l, 1) := by decide +kernel
theorem dX2_cellAfter_2 : decode cX2_cellAfter 2 = .ok (.iload_n 2, 1) := by decide +kernel
theorem dX2_cellAfter_3 : decode cX2_cellAfter 3 = .ok (.invokestatic 49, 3) := by decide +kernel
theorem dX2_cellAfter_6 : decode cX2_cellAfter 6 = .ok (.ifCond .eq 12, 3) := by decide +kernel
theorem dX2_cellAfter_9 : decode cX2_cellAfter 9 = .ok (.aload_n 0, 1) := by decide +kernel
theorem dX2_cellAfter_10 : decode cX2_cellAfter 10 = .ok (.getfield 9, 3) := by decide +kernel
theorem dX2_cellAfter_13 : decode cX2_cellAfter 13 = .ok (.iload_n 2, 1) := by decide +kernel
theorem dX2_cellAfter_14 : decode cX2_cellAfter 14 = .ok (.iaload, 1) := by decide +kernel
theorem dX2_cellAfter_15 : decode cX2_cellAfter 15 = .ok (.goto 12, 3) := by decide +kernel
theorem dX2_cellAfter_18 : decode cX2_cellAfter 18 = .ok (.aload_n 0, 1) := by decide +kernel
theorem dX2_cellAfter_19 : decode cX2_cellAfter 19 = .ok (.getfield 15, 3) := by decide +kernel
theorem dX2_cellAfter_22 : decode cX2_cellAfter 22 = .ok (.getfield 60, 3) := by decide +kernel
theorem dX2_cellAfter_25 : decode cX2_cellAfter 25 = .ok (.iload_n 2, 1) := by decide +kernel
theorem dX2_cellAfter_26 : decode cX2_cellAfter 26 = .ok (.iaload, 1) := by decide +kernel
theorem dX2_cellAfter_27 : decode cX2_cellAfter 27 = .ok (.ireturn, 1) := by decide +kernel
theorem dX2_comeTo_0 : decode cX2_comeTo 0 = .ok (.aload_n 0, 1) := by decide +kernel
theorem dX2_comeTo_1 : decode cX2_comeTo 1 = .ok (.getfield 27, 3) := by decide +kernel
theorem dX2_comeTo_4 : decode cX2_comeTo 4 = .ok (.aload_n 0, 1) := by decide +kernel
theorem dX2_comeTo_5 : decode cX2_comeTo 5 = .ok (.getfield 23, 3) := by decide +kernel
theorem dX2_comeTo_8 : decode cX2_comeTo 8 = .ok (.if_icmp .ne 32, 3) := by decide +kernel
theorem dX2_comeTo_11 : decode cX2_comeTo 11 = .ok (.aload_n 0, 1) := by decide +kernel
theorem dX2_comeTo_12 : decode cX2_comeTo 12 = .ok (.iconst 1, 1) := by decide +kernel
theorem dX2_comeTo_13 : decode cX2_comeTo 13 = .ok (.putfield 35, 3) := by decide +kernel
theorem dX2_comeTo_16 : decode cX2_comeTo 16 = .ok (.aload_n 0, 1) := by decide +kernel
theorem dX2_comeTo_17 : decode cX2_comeTo 17 = .ok (.iload_n 2, 1) := by decide +kernel
theorem dX2_comeTo_18 : decode cX2_comeTo 18 = .ok (.putfield 86, 3) := by decide +kernel
theorem dX2_comeTo_21 : decode cX2_comeTo 21 = .ok (.aload_n 0, 1) := by decide +kernel
theorem dX2_comeTo_22 : decode cX2_comeTo 22 = .ok (.iload_n 3, 1) := by decide +kernel
theorem dX2_comeTo_23 : decode cX2_comeTo 23 = .ok (.putfield 89, 3) := by decide +kernel
theorem dX2_comeTo_26 : decode cX2_comeTo 26 = .ok (.aload_n 0, 1) := by decide +kernel
theorem dX2_comeTo_27 : decode cX2_comeTo 27 = .ok (.iload_n 1, 1) := by decide +kernel
theorem dX2_comeTo_28 : decode cX2_comeTo 28 = .ok (.putfield 92, 3) := by decide +kernel
theorem dX2_comeTo_31 : decode cX2_comeTo 31 = .ok (.aload_n 0, 1) := by decide +kernel
theorem dX2_comeTo_32 : decode cX2_comeTo 32 = .ok (.iload 4, 2) := by decide +kernel
theorem dX2_comeTo_34 : decode cX2_comeTo 34 = .ok (.putfield 57, 3) := by decide +kernel
theorem dX2_comeTo_37 : decode cX2_comeTo 37 = .ok (.goto 13, 3) := by decide +kernel
theorem dX2_comeTo_40 : decode cX2_comeTo 40 = .ok (.aload_n 0, 1) := by decide +kernel
theorem dX2_comeTo_41 : decode cX2_comeTo 41 = .ok (.dup, 1) := by decide +kernel
theorem dX2_comeTo_42 : decode cX2_comeTo 42 = .ok (.getfield 27, 3) := by decide +kernel
theorem dX2_comeTo_45 : decode cX2_comeTo 45 = .ok (.iconst 1, 1) := by decide +kernel
theorem dX2_comeTo_46 : decode cX2_comeTo 46 = .ok (.iadd, 1) := by decide +kernel
theorem dX2_comeTo_47 : decode cX2_comeTo 47 = .ok (.putfield 27, 3) := by decide +kernel
theorem dX2_comeTo_50 : decode cX2_comeTo 50 = .ok (.return_, 1) := by decide +kernel
theorem dX2_init_0 : decode cX2_init 0 = .ok (.aload_n 0, 1) := by decide +kernel
theorem dX2_init_1 : decode cX2_init 1 = .ok (.invokespecial 3, 3) := by decide +kernel
theorem dX2_init_4 : decode cX2_init 4 = .ok (.aload_n 0, 1) := by decide +kernel
theorem dX2_init_5 : decode cX2_init 5 = .ok (.bipush 24, 2) := by decide +kernel
theorem dX2_init_7 : decode cX2_init 7 = .ok (.newarray .int, 2) := by decide +kernel
theorem dX2_init_9 : decode cX2_init 9 = .ok (.putfield 9, 3) := by decide +kernel
theorem dX2_init_12 : decode cX2_init 12 = .ok (.aload_n 0, 1) := by decide +kernel
theorem dX2_init_13 : decode cX2_init 13 = .ok (.aload_n 1, 1) := by decide +kernel
theorem dX2_init_14 : decode cX2_init 14 = .ok (.putfield 15, 3) := by decide +kernel
theorem dX2_init_17 : decode cX2_init 17 = .ok (.aload_n 0, 1) := by decide +kernel
theorem dX2_init_18 : decode cX2_init 18 = .ok (.aload_n 2, 1) := by decide +kernel
theorem dX2_init_19 : decode cX2_init 19 = .ok (.putfield 19, 3) := by decide +kernel
theorem dX2_init_22 : decode cX2_init 22 = .ok (.return_, 1) := by decide +kernel
theorem dX2_isAlone_0 : decode cX2_isAlone 0 = .ok (.lconst 0, 1) := by decide +kernel
theorem dX2_isAlone_1 : decode cX2_isAlone 1 = .ok (.lstore_n 2, 1) := by decide +kernel
theorem dX2_isAlone_2 : decode cX2_isAlone 2 = .ok (.iconst 0, 1) := by decide +kernel
theorem dX2_isAlone_3 : decode cX2_isAlone 3 = .ok (.istore 4, 2) := by decide +kernel
theorem dX2_isAlone_5 : decode cX2_isAlone 5 = .ok (.iload 4, 2) := by decide +kernel
theorem dX2_isAlone_7 : decode cX2_isAlone 7 = .ok (.aload_n 0, 1) := by decide +kernel
theorem dX2_isAlone_8 : decode cX2_isAlone 8 = .ok (.getfield 15, 3) := by decide +kernel
theorem dX2_isAlone_11 : decode cX2_isAlone 11 = .ok (.getfield 46, 3) := by decide +kernel
theorem dX2_isAlone_14 : decode cX2_isAlone 14 = .ok (.if_icmp .ge 50, 3) := by decide +kernel
theorem dX2_isAlone_17 : decode cX2_isAlone 17 = .ok (.iload_n 1, 1) := by decide +kernel
theorem dX2_isAlone_18 : decode cX2_isAlone 18 = .ok (.i2l, 1) := by decide +kernel
theorem dX2_isAlone_19 : decode cX2_isAlone 19 = .ok (.iload 4, 2) := by decide +kernel
theorem dX2_isAlone_21 : decode cX2_isAlone 21 = .ok (.invokestatic 49, 3) := by decide +kernel
theorem dX2_isAlone_24 : decode cX2_isAlone 24 = .ok (.ifCond .ne 34, 3) := by decide +kernel
theorem dX2_isAlone_27 : decode cX2_isAlone 27 = .ok (.aload_n 0, 1) := by decide +kernel
theorem dX2_isAlone_28 : decode cX2_isAlone 28 = .ok (.getfield 15, 3) := by decide +kernel
theorem dX2_isAlone_31 : decode cX2_isAlone 31 = .ok (.getfield 60, 3) := by decide +kernel
theorem dX2_isAlone_34 : decode cX2_isAlone 34 = .ok (.iload 4, 2) := by decide +kernel
theorem dX2_isAlone_36 : decode cX2_isAlone 36 = .ok (.iaload, 1) := by decide +kernel
theorem dX2_isAlone_37 : decode cX2_isAlone 37 = .ok (.bipush (-9), 2) := by decide +kernel
theorem dX2_isAlone_39 : decode cX2_isAlone 39 = .ok (.if_icmp .eq 19, 3) := by decide +kernel
theorem dX2_isAlone_42 : decode cX2_isAlone 42 = .ok (.lload_n 2, 1) := by decide +kernel
theorem dX2_isAlone_43 : decode cX2_isAlone 43 = .ok (.aload_n 0, 1) := by decide +kernel
theorem dX2_isAlone_44 : decode cX2_isAlone 44 = .ok (.getfield 15, 3) := by decide +kernel
theorem dX2_isAlone_47 : decode cX2_isAlone 47 = .ok (.getfield 60, 3) := by decide +kernel
theorem dX2_isAlone_50 : decode cX2_isAlone 50 = .ok (.iload 4, 2) := by decide +kernel
theorem dX2_isAlone_52 : decode cX2_isAlone 52 = .ok (.iaload, 1) := by decide +kernel
theorem dX2_isAlone_53 : decode cX2_isAlone 53 = .ok (.invokestatic 128, 3) := by decide +kernel
theorem dX2_isAlone_56 : decode cX2_isAlone 56 = .ok (.lor, 1) := by decide +kernel
theorem dX2_isAlone_57 : decode cX2_isAlone 57 = .ok (.lstore_n 2, 1) := by decide +kernel
theorem dX2_isAlone_58 : decode cX2_isAlone 58 = .ok (.iinc 4 1, 3) := by decide +kernel
theorem dX2_isAlone_61 : decode cX2_isAlone 61 = .ok (.goto (-56), 3) := by decide +kernel
theorem dX2_isAlone_64 : decode cX2_isAlone 64 = .ok (.iload_n 1, 1) := by decide +kernel
theorem dX2_isAlone_65 : decode cX2_isAlone 65 = .ok (.istore 4, 2) := by decide +kernel
theorem dX2_isAlone_67 : decode cX2_isAlone 67 = .ok (.iload 4, 2) := by decide +kernel
theorem dX2_isAlone_69 : decode cX2_isAlone 69 = .ok (.ifCond .eq 47, 3) := by decide +kernel
theorem dX2_isAlone_72 : decode cX2_isAlone 72 = .ok (.aload_n 0, 1) := by decide +kernel
theorem dX2_isAlone_73 : decode cX2_isAlone 73 = .ok (.getfield 9, 3) := by decide +kernel
theorem dX2_isAlone_76 : decode cX2_isAlone 76 = .ok (.iload 4, 2) := by decide +kernel
theorem dX2_isAlone_78 : decode cX2_isAlone 78 = .ok (.i2l, 1) := by decide +kernel
theorem dX2_isAlone_79 : decode cX2_isAlone 79 = .ok (.invokestatic 63, 3) := by decide +kernel
theorem dX2_isAlone_82 : decode cX2_isAlone 82 = .ok (.iaload, 1) := by decide +kernel
theorem dX2_isAlone_83 : decode cX2_isAlone 83 = .ok (.istore 5, 2) := by decide +kernel
theorem dX2_isAlone_85 : decode cX2_isAlone 85 = .ok (.lload_n 2, 1) := by decide +kernel
theorem dX2_isAlone_86 : decode cX2_isAlone 86 = .ok (.iload 5, 2) := by decide +kernel
theorem dX2_isAlone_88 : decode cX2_isAlone 88 = .ok (.invokestatic 49, 3) := by decide +kernel
theorem dX2_isAlone_91 : decode cX2_isAlone 91 = .ok (.ifCond .eq 5, 3) := by decide +kernel
theorem dX2_isAlone_94 : decode cX2_isAlone 94 = .ok (.iconst 0, 1) := by decide +kernel
theorem dX2_isAlone_95 : decode cX2_isAlone 95 = .ok (.ireturn, 1) := by decide +kernel
theorem dX2_isAlone_96 : decode cX2_isAlone 96 = .ok (.lload_n 2, 1) := by decide +kernel
theorem dX2_isAlone_97 : decode cX2_isAlone 97 = .ok (.iload 5, 2) := by decide +kernel
theorem dX2_isAlone_99 : decode cX2_isAlone 99 = .ok (.invokestatic 128, 3) := by decide +kernel
theorem dX2_isAlone_102 : decode cX2_isAlone 102 = .ok (.lor, 1) := by decide +kernel
theorem dX2_isAlone_103 : decode cX2_isAlone 103 = .ok (.lstore_n 2, 1) := by decide +kernel
theorem dX2_isAlone_104 : decode cX2_isAlone 104 = .ok (.iload 4, 2) := by decide +kernel
theorem dX2_isAlone_106 : decode cX2_isAlone 106 = .ok (.iload 4, 2) := by decide +kernel
theorem dX2_isAlone_108 : decode cX2_isAlone 108 = .ok (.iconst 1, 1) := by decide +kernel
theorem dX2_isAlone_109 : decode cX2_isAlone 109 = .ok (.isub, 1) := by decide +kernel
theorem dX2_isAlone_110 : decode cX2_isAlone 110 = .ok (.iand, 1) := by decide +kernel
theorem dX2_isAlone_111 : decode cX2_isAlone 111 = .ok (.istore 4, 2) := by decide +kernel
theorem dX2_isAlone_113 : decode cX2_isAlone 113 = .ok (.goto (-46), 3) := by decide +kernel
theorem dX2_isAlone_116 : decode cX2_isAlone 116 = .ok (.iconst 1, 1) := by decide +kernel
theorem dX2_isAlone_117 : decode cX2_isAlone 117 = .ok (.ireturn, 1) := by decide +kernel
theorem dX2_isKeeping_0 : decode cX2_isKeeping 0 = .ok (.iconst 0, 1) := by decide +kernel
theorem dX2_isKeeping_1 : decode cX2_isKeeping 1 = .ok (.istore_n 2, 1) := by decide +kernel
theorem dX2_isKeeping_2 : decode cX2_isKeeping 2 = .ok (.iload_n 2, 1) := by decide +kernel
theorem dX2_isKeeping_3 : decode cX2_isKeeping 3 = .ok (.aload_n 0, 1) := by decide +kernel
theorem dX2_isKeeping_4 : decode cX2_isKeeping 4 = .ok (.getfield 15, 3) := by decide +kernel
theorem dX2_isKeeping_7 : decode cX2_isKeeping 7 = .ok (.getfield 131, 3) := by decide +kernel
theorem dX2_isKeeping_10 : decode cX2_isKeeping 10 = .ok (.if_icmp .ge 88, 3) := by decide +kernel
theorem dX2_isKeeping_13 : decode cX2_isKeeping 13 = .ok (.aload_n 0, 1) := by decide +kernel
theorem dX2_isKeeping_14 : decode cX2_isKeeping 14 = .ok (.getfield 15, 3) := by decide +kernel
theorem dX2_isKeeping_17 : decode cX2_isKeeping 17 = .ok (.getfield 134, 3) := by decide +kernel
theorem dX2_isKeeping_20 : decode cX2_isKeeping 20 = .ok (.iload_n 2, 1) := by decide +kernel
theorem dX2_isKeeping_21 : decode cX2_isKeeping 21 = .ok (.aaload, 1) := by decide +kernel
theorem dX2_isKeeping_22 : decode cX2_isKeeping 22 = .ok (.astore_n 3, 1) := by decide +kernel
theorem dX2_isKeeping_23 : decode cX2_isKeeping 23 = .ok (.aload_n 0, 1) := by decide +kernel
theorem dX2_isKeeping_24 : decode cX2_isKeeping 24 = .ok (.getfield 15, 3) := by decide +kernel
theorem dX2_isKeeping_27 : decode cX2_isKeeping 27 = .ok (.getfield 138, 3) := by decide +kernel
theorem dX2_isKeeping_30 : decode cX2_isKeeping 30 = .ok (.iload_n 2, 1) := by decide +kernel
theorem dX2_isKeeping_31 : decode cX2_isKeeping 31 = .ok (.invokestatic 49, 3) := by decide +kernel
theorem dX2_isKeeping_34 : decode cX2_isKeeping 34 = .ok (.ifCond .eq 58, 3) := by decide +kernel
theorem dX2_isKeeping_37 : decode cX2_isKeeping 37 = .ok (.iload_n 1, 1) := by decide +kernel
theorem dX2_isKeeping_38 : decode cX2_isKeeping 38 = .ok (.i2l, 1) := by decide +kernel
theorem dX2_isKeeping_39 : decode cX2_isKeeping 39 = .ok (.aload_n 3, 1) := by decide +kernel
theorem dX2_isKeeping_40 : decode cX2_isKeeping 40 = .ok (.getfield 142, 3) := by decide +kernel
theorem dX2_isKeeping_43 : decode cX2_isKeeping 43 = .ok (.invokestatic 49, 3) := by decide +kernel
theorem dX2_isKeeping_46 : decode cX2_isKeeping 46 = .ok (.ifCond .ne 15, 3) := by decide +kernel
theorem dX2_isKeeping_49 : decode cX2_isKeeping 49 = .ok (.iload_n 1, 1) := by decide +kernel
theorem dX2_isKeeping_50 : decode cX2_isKeeping 50 = .ok (.i2l, 1) := by decide +kernel
theorem dX2_isKeeping_51 : decode cX2_isKeeping 51 = .ok (.aload_n 3, 1) := by decide +kernel
theorem dX2_isKeeping_52 : decode cX2_isKeeping 52 = .ok (.getfield 147, 3) := by decide +kernel
theorem dX2_isKeeping_55 : decode cX2_isKeeping 55 = .ok (.invokestatic 49, 3) := by decide +kernel
theorem dX2_isKeeping_58 : decode cX2_isKeeping 58 = .ok (.ifCond .eq 34, 3) := by decide +kernel
theorem dX2_isKeeping_61 : decode cX2_isKeeping 61 = .ok (.aload_n 0, 1) := by decide +kernel
theorem dX2_isKeeping_62 : decode cX2_isKeeping 62 = .ok (.getfield 19, 3) := by decide +kernel
theorem dX2_isKeeping_65 : decode cX2_isKeeping 65 = .ok (.aload_n 3, 1) := by decide +kernel
theorem dX2_isKeeping_66 : decode cX2_isKeeping 66 = .ok (.aload_n 0, 1) := by decide +kernel
theorem dX2_isKeeping_67 : decode cX2_isKeeping 67 = .ok (.iload_n 1, 1) := by decide +kernel
theorem dX2_isKeeping_68 : decode cX2_isKeeping 68 = .ok (.aload_n 3, 1) := by decide +kernel
theorem dX2_isKeeping_69 : decode cX2_isKeeping 69 = .ok (.getfield 142, 3) := by decide +kernel
theorem dX2_isKeeping_72 : decode cX2_isKeeping 72 = .ok (.invokevirtual 150, 3) := by decide +kernel
theorem dX2_isKeeping_75 : decode cX2_isKeeping 75 = .ok (.aload_n 0, 1) := by decide +kernel
theorem dX2_isKeeping_76 : decode cX2_isKeeping 76 = .ok (.iload_n 1, 1) := by decide +kernel
theorem dX2_isKeeping_77 : decode cX2_isKeeping 77 = .ok (.aload_n 3, 1) := by decide +kernel
theorem dX2_isKeeping_78 : decode cX2_isKeeping 78 = .ok (.getfield 147, 3) := by decide +kernel
theorem dX2_isKeeping_81 : decode cX2_isKeeping 81 = .ok (.invokevirtual 150, 3) := by decide +kernel
theorem dX2_isKeeping_84 : decode cX2_isKeeping 84 = .ok (.invokevirtual 153, 3) := by decide +kernel
theorem dX2_isKeeping_87 : decode cX2_isKeeping 87 = .ok (.ifCond .ne 5, 3) := by decide +kernel
theorem dX2_isKeeping_90 : decode cX2_isKeeping 90 = .ok (.iconst 0, 1) := by decide +kernel
theorem dX2_isKeeping_91 : decode cX2_isKeeping 91 = .ok (.ireturn, 1) := by decide +kernel
theorem dX2_isKeeping_92 : decode cX2_isKeeping 92 = .ok (.iinc 2 1, 3) := by decide +kernel
theorem dX2_isKeeping_95 : decode cX2_isKeeping 95 = .ok (.goto (-93), 3) := by decide +kernel
theorem dX2_isKeeping_98 : decode cX2_isKeeping 98 = .ok (.iconst 1, 1) := by decide +kernel
theorem dX2_isKeeping_99 : decode cX2_isKeeping 99 = .ok (.ireturn, 1) := by decide +kernel
theorem dX2_leaves_0 : decode cX2_leaves 0 = .ok (.iload_n 3, 1) := by decide +kernel
theorem dX2_leaves_1 : decode cX2_leaves 1 = .ok (.bipush (-9), 2) := by decide +kernel
theorem dX2_leaves_3 : decode cX2_leaves 3 = .ok (.if_icmp .eq 38, 3) := by decide +kernel
theorem dX2_leaves_6 : decode cX2_leaves 6 = .ok (.aload_n 0, 1) := by decide +kernel
theorem dX2_leaves_7 : decode cX2_leaves 7 = .ok (.iload_n 1, 1) := by decide +kernel
theorem dX2_leaves_8 : decode cX2_leaves 8 = .ok (.aload_n 0, 1) := by decide +kernel
theorem dX2_leaves_9 : decode cX2_leaves 9 = .ok (.getfield 15, 3) := by decide +kernel
theorem dX2_leaves_12 : decode cX2_leaves 12 = .ok (.getfield 60, 3) := by decide +kernel
theorem dX2_leaves_15 : decode cX2_leaves 15 = .ok (.iload_n 2, 1) := by decide +kernel
theorem dX2_leaves_16 : decode cX2_leaves 16 = .ok (.iaload, 1) := by decide +kernel
theorem dX2_leaves_17 : decode cX2_leaves 17 = .ok (.aload_n 0, 1) := by decide +kernel
theorem dX2_leaves_18 : decode cX2_leaves 18 = .ok (.getfield 15, 3) := by decide +kernel
theorem dX2_leaves_21 : decode cX2_leaves 21 = .ok (.getfield 60, 3) := by decide +kernel
theorem dX2_leaves_24 : decode cX2_leaves 24 = .ok (.iload_n 3, 1) := by decide +kernel
theorem dX2_leaves_25 : decode cX2_leaves 25 = .ok (.iaload, 1) := by decide +kernel
theorem dX2_leaves_26 : decode cX2_leaves 26 = .ok (.invokevirtual 95, 3) := by decide +kernel
theorem dX2_leaves_29 : decode cX2_leaves 29 = .ok (.aload_n 0, 1) := by decide +kernel
theorem dX2_leaves_30 : decode cX2_leaves 30 = .ok (.getfield 15, 3) := by decide +kernel
theorem dX2_leaves_33 : decode cX2_leaves 33 = .ok (.getfield 60, 3) := by decide +kernel
theorem dX2_leaves_36 : decode cX2_leaves 36 = .ok (.iload_n 3, 1) := by decide +kernel
theorem dX2_leaves_37 : decode cX2_leaves 37 = .ok (.iaload, 1) := by decide +kernel
theorem dX2_leaves_38 : decode cX2_leaves 38 = .ok (.if_icmp .ne 7, 3) := by decide +kernel
theorem dX2_leaves_41 : decode cX2_leaves 41 = .ok (.iconst 1, 1) := by decide +kernel
theorem dX2_leaves_42 : decode cX2_leaves 42 = .ok (.goto 4, 3) := by decide +kernel
theorem dX2_leaves_45 : decode cX2_leaves 45 = .ok (.iconst 0, 1) := by decide +kernel
theorem dX2_leaves_46 : decode cX2_leaves 46 = .ok (.ireturn, 1) := by decide +kernel
theorem dX2_seek_0 : decode cX2_seek 0 = .ok (.aload_n 0, 1) := by decide +kernel
theorem dX2_seek_1 : decode cX2_seek 1 = .ok (.iload_n 2, 1) := by decide +kernel
theorem dX2_seek_2 : decode cX2_seek 2 = .ok (.putfield 23, 3) := by decide +kernel
theorem dX2_seek_5 : decode cX2_seek 5 = .ok (.aload_n 0, 1) := by decide +kernel
theorem dX2_seek_6 : decode cX2_seek 6 = .ok (.iconst 0, 1) := by decide +kernel
theorem dX2_seek_7 : decode cX2_seek 7 = .ok (.putfield 27, 3) := by decide +kernel
theorem dX2_seek_10 : decode cX2_seek 10 = .ok (.aload_n 0, 1) := by decide +kernel
theorem dX2_seek_11 : decode cX2_seek 11 = .ok (.getfield 15, 3) := by decide +kernel
theorem dX2_seek_14 : decode cX2_seek 14 = .ok (.invokevirtual 30, 3) := by decide +kernel
theorem dX2_seek_17 : decode cX2_seek 17 = .ok (.aload_n 0, 1) := by decide +kernel
theorem dX2_seek_18 : decode cX2_seek 18 = .ok (.iconst 0, 1) := by decide +kernel
theorem dX2_seek_19 : decode cX2_seek 19 = .ok (.putfield 35, 3) := by decide +kernel
theorem dX2_seek_22 : decode cX2_seek 22 = .ok (.iload_n 1, 1) := by decide +kernel
theorem dX2_seek_23 : decode cX2_seek 23 = .ok (.aload_n 0, 1) := by decide +kernel
theorem dX2_seek_24 : decode cX2_seek 24 = .ok (.getfield 15, 3) := by decide +kernel
theorem dX2_seek_27 : decode cX2_seek 27 = .ok (.invokevirtual 39, 3) := by decide +kernel
theorem dX2_seek_30 : decode cX2_seek 30 = .ok (.ior, 1) := by decide +kernel
theorem dX2_seek_31 : decode cX2_seek 31 = .ok (.aload_n 0, 1) := by decide +kernel
theorem dX2_seek_32 : decode cX2_seek 32 = .ok (.getfield 15, 3) := by decide +kernel
theorem dX2_seek_35 : decode cX2_seek 35 = .ok (.invokevirtual 43, 3) := by decide +kernel
theorem dX2_seek_38 : decode cX2_seek 38 = .ok (.iand, 1) := by decide +kernel
theorem dX2_seek_39 : decode cX2_seek 39 = .ok (.istore_n 3, 1) := by decide +kernel
theorem dX2_seek_40 : decode cX2_seek 40 = .ok (.iconst 0, 1) := by decide +kernel
theorem dX2_seek_41 : decode cX2_seek 41 = .ok (.istore 4, 2) := by decide +kernel
theorem dX2_seek_43 : decode cX2_seek 43 = .ok (.iload 4, 2) := by decide +kernel
theorem dX2_seek_45 : decode cX2_seek 45 = .ok (.aload_n 0, 1) := by decide +kernel
theorem dX2_seek_46 : decode cX2_seek 46 = .ok (.getfield 15, 3) := by decide +kernel
theorem dX2_seek_49 : decode cX2_seek 49 = .ok (.getfield 46, 3) := by decide +kernel
theorem dX2_seek_52 : decode cX2_seek 52 = .ok (.if_icmp .ge 35, 3) := by decide +kernel
theorem dX2_seek_55 : decode cX2_seek 55 = .ok (.aload_n 0, 1) := by decide +kernel
theorem dX2_seek_56 : decode cX2_seek 56 = .ok (.getfield 35, 3) := by decide +kernel
theorem dX2_seek_59 : decode cX2_seek 59 = .ok (.ifCond .ne 28, 3) := by decide +kernel
theorem dX2_seek_62 : decode cX2_seek 62 = .ok (.iload_n 3, 1) := by decide +kernel
theorem dX2_seek_63 : decode cX2_seek 63 = .ok (.i2l, 1) := by decide +kernel
theorem dX2_seek_64 : decode cX2_seek 64 = .ok (.iload 4, 2) := by decide +kernel
theorem dX2_seek_66 : decode cX2_seek 66 = .ok (.invokestatic 49, 3) := by decide +kernel
theorem dX2_seek_69 : decode cX2_seek 69 = .ok (.ifCond .eq 12, 3) := by decide +kernel
theorem dX2_seek_72 : decode cX2_seek 72 = .ok (.aload_n 0, 1) := by decide +kernel
theorem dX2_seek_73 : decode cX2_seek 73 = .ok (.iload_n 1, 1) := by decide +kernel
theorem dX2_seek_74 : decode cX2_seek 74 = .ok (.iload 4, 2) := by decide +kernel
theorem dX2_seek_76 : decode cX2_seek 76 = .ok (.bipush (-9), 2) := by decide +kernel
theorem dX2_seek_78 : decode cX2_seek 78 = .ok (.invokevirtual 53, 3) := by decide +kernel
theorem dX2_seek_81 : decode cX2_seek 81 = .ok (.iinc 4 1, 3) := by decide +kernel
theorem dX2_seek_84 : decode cX2_seek 84 = .ok (.goto (-41), 3) := by decide +kernel
theorem dX2_seek_87 : decode cX2_seek 87 = .ok (.iconst 0, 1) := by decide +kernel
theorem dX2_seek_88 : decode cX2_seek 88 = .ok (.istore 4, 2) := by decide +kernel
theorem dX2_seek_90 : decode cX2_seek 90 = .ok (.iload 4, 2) := by decide +kernel
theorem dX2_seek_92 : decode cX2_seek 92 = .ok (.aload_n 0, 1) := by decide +kernel
theorem dX2_seek_93 : decode cX2_seek 93 = .ok (.getfield 15, 3) := by decide +kernel
theorem dX2_seek_96 : decode cX2_seek 96 = .ok (.getfield 46, 3) := by decide +kernel
theorem dX2_seek_99 : decode cX2_seek 99 = .ok (.if_icmp .ge 69, 3) := by decide +kernel
theorem dX2_seek_102 : decode cX2_seek 102 = .ok (.iload 4, 2) := by decide +kernel
theorem dX2_seek_104 : decode cX2_seek 104 = .ok (.iconst 1, 1) := by decide +kernel
theorem dX2_seek_105 : decode cX2_seek 105 = .ok (.iadd, 1) := by decide +kernel
theorem dX2_seek_106 : decode cX2_seek 106 = .ok (.istore 5, 2) := by decide +kernel
theorem dX2_seek_108 : decode cX2_seek 108 = .ok (.iload 5, 2) := by decide +kernel
theorem dX2_seek_110 : decode cX2_seek 110 = .ok (.aload_n 0, 1) := by decide +kernel
theorem dX2_seek_111 : decode cX2_seek 111 = .ok (.getfield 15, 3) := by decide +kernel
theorem dX2_seek_114 : decode cX2_seek 114 = .ok (.getfield 46, 3) := by decide +kernel
theorem dX2_seek_117 : decode cX2_seek 117 = .ok (.if_icmp .ge 45, 3) := by decide +kernel
theorem dX2_seek_120 : decode cX2_seek 120 = .ok (.aload_n 0, 1) := by decide +kernel
theorem dX2_seek_121 : decode cX2_seek 121 = .ok (.getfield 35, 3) := by decide +kernel
theorem dX2_seek_124 : decode cX2_seek 124 = .ok (.ifCond .ne 38, 3) := by decide +kernel
theorem dX2_seek_127 : decode cX2_seek 127 = .ok (.iload_n 3, 1) := by decide +kernel
theorem dX2_seek_128 : decode cX2_seek 128 = .ok (.i2l, 1) := by decide +kernel
theorem dX2_seek_129 : decode cX2_seek 129 = .ok (.iload 4, 2) := by decide +kernel
theorem dX2_seek_131 : decode cX2_seek 131 = .ok (.invokestatic 49, 3) := by decide +kernel
theorem dX2_seek_134 : decode cX2_seek 134 = .ok (.ifCond .eq 22, 3) := by decide +kernel
theorem dX2_seek_137 : decode cX2_seek 137 = .ok (.iload_n 3, 1) := by decide +kernel
theorem dX2_seek_138 : decode cX2_seek 138 = .ok (.i2l, 1) := by decide +kernel
theorem dX2_seek_139 : decode cX2_seek 139 = .ok (.iload 5, 2) := by decide +kernel
theorem dX2_seek_141 : decode cX2_seek 141 = .ok (.invokestatic 49, 3) := by decide +kernel
theorem dX2_seek_144 : decode cX2_seek 144 = .ok (.ifCond .eq 12, 3) := by decide +kernel
theorem dX2_seek_147 : decode cX2_seek 147 = .ok (.aload_n 0, 1) := by decide +kernel
theorem dX2_seek_148 : decode cX2_seek 148 = .ok (.iload_n 1, 1) := by decide +kernel
theorem dX2_seek_149 : decode cX2_seek 149 = .ok (.iload 4, 2) := by decide +kernel
theorem dX2_seek_151 : decode cX2_seek 151 = .ok (.iload 5, 2) := by decide +kernel
theorem dX2_seek_153 : decode cX2_seek 153 = .ok (.invokevirtual 53, 3) := by decide +kernel
theorem dX2_seek_156 : decode cX2_seek 156 = .ok (.iinc 5 1, 3) := by decide +kernel
theorem dX2_seek_159 : decode cX2_seek 159 = .ok (.goto (-51), 3) := by decide +kernel
theorem dX2_seek_162 : decode cX2_seek 162 = .ok (.iinc 4 1, 3) := by decide +kernel
theorem dX2_seek_165 : decode cX2_seek 165 = .ok (.goto (-75), 3) := by decide +kernel
theorem dX2_seek_168 : decode cX2_seek 168 = .ok (.aload_n 0, 1) := by decide +kernel
theorem dX2_seek_169 : decode cX2_seek 169 = .ok (.getfield 35, 3) := by decide +kernel
theorem dX2_seek_172 : decode cX2_seek 172 = .ok (.ireturn, 1) := by decide +kernel
theorem dX2_seekAbout_0 : decode cX2_seekAbout 0 = .ok (.iconst 1, 1) := by decide +kernel
theorem dX2_seekAbout_1 : decode cX2_seekAbout 1 = .ok (.iload_n 2, 1) := by decide +kernel
theorem dX2_seekAbout_2 : decode cX2_seekAbout 2 = .ok (.ishl, 1) := by decide +kernel
theorem dX2_seekAbout_3 : decode cX2_seekAbout 3 = .ok (.iload_n 3, 1) := by decide +kernel
theorem dX2_seekAbout_4 : decode cX2_seekAbout 4 = .ok (.bipush (-9), 2) := by decide +kernel
theorem dX2_seekAbout_6 : decode cX2_seekAbout 6 = .ok (.if_icmp .eq 9, 3) := by decide +kernel
theorem dX2_seekAbout_9 : decode cX2_seekAbout 9 = .ok (.iconst 1, 1) := by decide +kernel
theorem dX2_seekAbout_10 : decode cX2_seekAbout 10 = .ok (.iload_n 3, 1) := by decide +kernel
theorem dX2_seekAbout_11 : decode cX2_seekAbout 11 = .ok (.ishl, 1) := by decide +kernel
theorem dX2_seekAbout_12 : decode cX2_seekAbout 12 = .ok (.goto 4, 3) := by decide +kernel
theorem dX2_seekAbout_15 : decode cX2_seekAbout 15 = .ok (.iconst 0, 1) := by decide +kernel
theorem dX2_seekAbout_16 : decode cX2_seekAbout 16 = .ok (.ior, 1) := by decide +kernel
theorem dX2_seekAbout_17 : decode cX2_seekAbout 17 = .ok (.istore 4, 2) := by decide +kernel
theorem dX2_seekAbout_19 : decode cX2_seekAbout 19 = .ok (.iload_n 1, 1) := by decide +kernel
theorem dX2_seekAbout_20 : decode cX2_seekAbout 20 = .ok (.iload 4, 2) := by decide +kernel
theorem dX2_seekAbout_22 : decode cX2_seekAbout 22 = .ok (.iconst (-1), 1) := by decide +kernel
theorem dX2_seekAbout_23 : decode cX2_seekAbout 23 = .ok (.ixor, 1) := by decide +kernel
theorem dX2_seekAbout_24 : decode cX2_seekAbout 24 = .ok (.iand, 1) := by decide +kernel
theorem dX2_seekAbout_25 : decode cX2_seekAbout 25 = .ok (.istore 5, 2) := by decide +kernel
theorem dX2_seekAbout_27 : decode cX2_seekAbout 27 = .ok (.iconst 0, 1) := by decide +kernel
theorem dX2_seekAbout_28 : decode cX2_seekAbout 28 = .ok (.istore 6, 2) := by decide +kernel
theorem dX2_seekAbout_30 : decode cX2_seekAbout 30 = .ok (.iload 6, 2) := by decide +kernel
theorem dX2_seekAbout_32 : decode cX2_seekAbout 32 = .ok (.bipush 24, 2) := by decide +kernel
theorem dX2_seekAbout_34 : decode cX2_seekAbout 34 = .ok (.if_icmp .ge 122, 3) := by decide +kernel
theorem dX2_seekAbout_37 : decode cX2_seekAbout 37 = .ok (.iload 5, 2) := by decide +kernel
theorem dX2_seekAbout_39 : decode cX2_seekAbout 39 = .ok (.ifCond .eq 117, 3) := by decide +kernel
theorem dX2_seekAbout_42 : decode cX2_seekAbout 42 = .ok (.aload_n 0, 1) := by decide +kernel
theorem dX2_seekAbout_43 : decode cX2_seekAbout 43 = .ok (.getfield 15, 3) := by decide +kernel
theorem dX2_seekAbout_46 : decode cX2_seekAbout 46 = .ok (.iload 5, 2) := by decide +kernel
theorem dX2_seekAbout_48 : decode cX2_seekAbout 48 = .ok (.i2l, 1) := by decide +kernel
theorem dX2_seekAbout_49 : decode cX2_seekAbout 49 = .ok (.invokestatic 63, 3) := by decide +kernel
theorem dX2_seekAbout_52 : decode cX2_seekAbout 52 = .ok (.iload 5, 2) := by decide +kernel
theorem dX2_seekAbout_54 : decode cX2_seekAbout 54 = .ok (.invokevirtual 67, 3) := by decide +kernel
theorem dX2_seekAbout_57 : decode cX2_seekAbout 57 = .ok (.istore 7, 2) := by decide +kernel
theorem dX2_seekAbout_59 : decode cX2_seekAbout 59 = .ok (.iload 5, 2) := by decide +kernel
theorem dX2_seekAbout_61 : decode cX2_seekAbout 61 = .ok (.iload 7, 2) := by decide +kernel
theorem dX2_seekAbout_63 : decode cX2_seekAbout 63 = .ok (.iconst (-1), 1) := by decide +kernel
theorem dX2_seekAbout_64 : decode cX2_seekAbout 64 = .ok (.ixor, 1) := by decide +kernel
theorem dX2_seekAbout_65 : decode cX2_seekAbout 65 = .ok (.iand, 1) := by decide +kernel
theorem dX2_seekAbout_66 : decode cX2_seekAbout 66 = .ok (.istore 5, 2) := by decide +kernel
theorem dX2_seekAbout_68 : decode cX2_seekAbout 68 = .ok (.aload_n 0, 1) := by decide +kernel
theorem dX2_seekAbout_69 : decode cX2_seekAbout 69 = .ok (.getfield 15, 3) := by decide +kernel
theorem dX2_seekAbout_72 : decode cX2_seekAbout 72 = .ok (.iload 7, 2) := by decide +kernel
theorem dX2_seekAbout_74 : decode cX2_seekAbout 74 = .ok (.invokevirtual 71, 3) := by decide +kernel
theorem dX2_seekAbout_77 : decode cX2_seekAbout 77 = .ok (.iload 4, 2) := by decide +kernel
theorem dX2_seekAbout_79 : decode cX2_seekAbout 79 = .ok (.if_icmp .ne 7, 3) := by decide +kernel
theorem dX2_seekAbout_82 : decode cX2_seekAbout 82 = .ok (.iconst 1, 1) := by decide +kernel
theorem dX2_seekAbout_83 : decode cX2_seekAbout 83 = .ok (.goto 4, 3) := by decide +kernel
theorem dX2_seekAbout_86 : decode cX2_seekAbout 86 = .ok (.iconst 0, 1) := by decide +kernel
theorem dX2_seekAbout_87 : decode cX2_seekAbout 87 = .ok (.istore 8, 2) := by decide +kernel
theorem dX2_seekAbout_89 : decode cX2_seekAbout 89 = .ok (.iconst 1, 1) := by decide +kernel
theorem dX2_seekAbout_90 : decode cX2_seekAbout 90 = .ok (.istore 9, 2) := by decide +kernel
theorem dX2_seekAbout_92 : decode cX2_seekAbout 92 = .ok (.iload 9, 2) := by decide +kernel
theorem dX2_seekAbout_94 : decode cX2_seekAbout 94 = .ok (.bipush 8, 2) := by decide +kernel
theorem dX2_seekAbout_96 : decode cX2_seekAbout 96 = .ok (.if_icmp .ge 54, 3) := by decide +kernel
theorem dX2_seekAbout_99 : decode cX2_seekAbout 99 = .ok (.iload 8, 2) := by decide +kernel
theorem dX2_seekAbout_101 : decode cX2_seekAbout 101 = .ok (.ifCond .eq 49, 3) := by decide +kernel
theorem dX2_seekAbout_104 : decode cX2_seekAbout 104 = .ok (.aload_n 0, 1) := by decide +kernel
theorem dX2_seekAbout_105 : decode cX2_seekAbout 105 = .ok (.getfield 35, 3) := by decide +kernel
theorem dX2_seekAbout_108 : decode cX2_seekAbout 108 = .ok (.ifCond .ne 42, 3) := by decide +kernel
theorem dX2_seekAbout_111 : decode cX2_seekAbout 111 = .ok (.aload_n 0, 1) := by decide +kernel
theorem dX2_seekAbout_112 : decode cX2_seekAbout 112 = .ok (.iload 9, 2) := by decide +kernel
theorem dX2_seekAbout_114 : decode cX2_seekAbout 114 = .ok (.iload_n 2, 1) := by decide +kernel
theorem dX2_seekAbout_115 : decode cX2_seekAbout 115 = .ok (.iload_n 3, 1) := by decide +kernel
theorem dX2_seekAbout_116 : decode cX2_seekAbout 116 = .ok (.invokevirtual 75, 3) := by decide +kernel
theorem dX2_seekAbout_119 : decode cX2_seekAbout 119 = .ok (.ifCond .eq 25, 3) := by decide +kernel
theorem dX2_seekAbout_122 : decode cX2_seekAbout 122 = .ok (.aload_n 0, 1) := by decide +kernel
theorem dX2_seekAbout_123 : decode cX2_seekAbout 123 = .ok (.iload 9, 2) := by decide +kernel
theorem dX2_seekAbout_125 : decode cX2_seekAbout 125 = .ok (.iload_n 2, 1) := by decide +kernel
theorem dX2_seekAbout_126 : decode cX2_seekAbout 126 = .ok (.iload 7, 2) := by decide +kernel
theorem dX2_seekAbout_128 : decode cX2_seekAbout 128 = .ok (.invokevirtual 79, 3) := by decide +kernel
theorem dX2_seekAbout_131 : decode cX2_seekAbout 131 = .ok (.ifCond .eq 13, 3) := by decide +kernel
theorem dX2_seekAbout_134 : decode cX2_seekAbout 134 = .ok (.aload_n 0, 1) := by decide +kernel
theorem dX2_seekAbout_135 : decode cX2_seekAbout 135 = .ok (.iload 9, 2) := by decide +kernel
theorem dX2_seekAbout_137 : decode cX2_seekAbout 137 = .ok (.iload_n 2, 1) := by decide +kernel
theorem dX2_seekAbout_138 : decode cX2_seekAbout 138 = .ok (.iload_n 3, 1) := by decide +kernel
theorem dX2_seekAbout_139 : decode cX2_seekAbout 139 = .ok (.iload 7, 2) := by decide +kernel
theorem dX2_seekAbout_141 : decode cX2_seekAbout 141 = .ok (.invokevirtual 82, 3) := by decide +kernel
theorem dX2_seekAbout_144 : decode cX2_seekAbout 144 = .ok (.iinc 9 1, 3) := by decide +kernel
theorem dX2_seekAbout_147 : decode cX2_seekAbout 147 = .ok (.goto (-55), 3) := by decide +kernel
theorem dX2_seekAbout_150 : decode cX2_seekAbout 150 = .ok (.iinc 6 1, 3) := by decide +kernel
theorem dX2_seekAbout_153 : decode cX2_seekAbout 153 = .ok (.goto (-123), 3) := by decide +kernel
theorem dX2_seekAbout_156 : decode cX2_seekAbout 156 = .ok (.return_, 1) := by decide +kernel
theorem dX2_settleOnMap_0 : decode cX2_settleOnMap 0 = .ok (.iconst 0, 1) := by decide +kernel
theorem dX2_settleOnMap_1 : decode cX2_settleOnMap 1 = .ok (.istore_n 1, 1) := by decide +kernel
theorem dX2_settleOnMap_2 : decode cX2_settleOnMap 2 = .ok (.iconst 0, 1) := by decide +kernel
theorem dX2_settleOnMap_3 : decode cX2_settleOnMap 3 = .ok (.istore_n 2, 1) := by decide +kernel
theorem dX2_settleOnMap_4 : decode cX2_settleOnMap 4 = .ok (.iload_n 2, 1) := by decide +kernel
theorem dX2_settleOnMap_5 : decode cX2_settleOnMap 5 = .ok (.aload_n 0, 1) := by decide +kernel
theorem dX2_settleOnMap_6 : decode cX2_settleOnMap 6 = .ok (.getfield 15, 3) := by decide +kernel
theorem dX2_settleOnMap_9 : decode cX2_settleOnMap 9 = .ok (.getfield 46, 3) := by decide +kernel
theorem dX2_settleOnMap_12 : decode cX2_settleOnMap 12 = .ok (.if_icmp .ge 57, 3) := by decide +kernel
theorem dX2_settleOnMap_15 : decode cX2_settleOnMap 15 = .ok (.aload_n 0, 1) := by decide +kernel
theorem dX2_settleOnMap_16 : decode cX2_settleOnMap 16 = .ok (.getfield 57, 3) := by decide +kernel
theorem dX2_settleOnMap_19 : decode cX2_settleOnMap 19 = .ok (.i2l, 1) := by decide +kernel
theorem dX2_settleOnMap_20 : decode cX2_settleOnMap 20 = .ok (.iload_n 2, 1) := by decide +kernel
theorem dX2_settleOnMap_21 : decode cX2_settleOnMap 21 = .ok (.invokestatic 49, 3) := by decide +kernel
theorem dX2_settleOnMap_24 : decode cX2_settleOnMap 24 = .ok (.ifCond .eq 39, 3) := by decide +kernel
theorem dX2_settleOnMap_27 : decode cX2_settleOnMap 27 = .ok (.aload_n 0, 1) := by decide +kernel
theorem dX2_settleOnMap_28 : decode cX2_settleOnMap 28 = .ok (.getfield 15, 3) := by decide +kernel
theorem dX2_settleOnMap_31 : decode cX2_settleOnMap 31 = .ok (.getfield 60, 3) := by decide +kernel
theorem dX2_settleOnMap_34 : decode cX2_settleOnMap 34 = .ok (.iload_n 2, 1) := by decide +kernel
theorem dX2_settleOnMap_35 : decode cX2_settleOnMap 35 = .ok (.iaload, 1) := by decide +kernel
theorem dX2_settleOnMap_36 : decode cX2_settleOnMap 36 = .ok (.aload_n 0, 1) := by decide +kernel
theorem dX2_settleOnMap_37 : decode cX2_settleOnMap 37 = .ok (.getfield 9, 3) := by decide +kernel
theorem dX2_settleOnMap_40 : decode cX2_settleOnMap 40 = .ok (.iload_n 2, 1) := by decide +kernel
theorem dX2_settleOnMap_41 : decode cX2_settleOnMap 41 = .ok (.iaload, 1) := by decide +kernel
theorem dX2_settleOnMap_42 : decode cX2_settleOnMap 42 = .ok (.if_icmp .eq 21, 3) := by decide +kernel
theorem dX2_settleOnMap_45 : decode cX2_settleOnMap 45 = .ok (.aload_n 0, 1) := by decide +kernel
theorem dX2_settleOnMap_46 : decode cX2_settleOnMap 46 = .ok (.getfield 15, 3) := by decide +kernel
theorem dX2_settleOnMap_49 : decode cX2_settleOnMap 49 = .ok (.getfield 60, 3) := by decide +kernel
theorem dX2_settleOnMap_52 : decode cX2_settleOnMap 52 = .ok (.iload_n 2, 1) := by decide +kernel
theorem dX2_settleOnMap_53 : decode cX2_settleOnMap 53 = .ok (.aload_n 0, 1) := by decide +kernel
theorem dX2_settleOnMap_54 : decode cX2_settleOnMap 54 = .ok (.getfield 9, 3) := by decide +kernel
theorem dX2_settleOnMap_57 : decode cX2_settleOnMap 57 = .ok (.iload_n 2, 1) := by decide +kernel
theorem dX2_settleOnMap_58 : decode cX2_settleOnMap 58 = .ok (.iaload, 1) := by decide +kernel
theorem dX2_settleOnMap_59 : decode cX2_settleOnMap 59 = .ok (.iastore, 1) := by decide +kernel
theorem dX2_settleOnMap_60 : decode cX2_settleOnMap 60 = .ok (.iinc 1 1, 3) := by decide +kernel
theorem dX2_settleOnMap_63 : decode cX2_settleOnMap 63 = .ok (.iinc 2 1, 3) := by decide +kernel
theorem dX2_settleOnMap_66 : decode cX2_settleOnMap 66 = .ok (.goto (-62), 3) := by decide +kernel
theorem dX2_settleOnMap_69 : decode cX2_settleOnMap 69 = .ok (.iload_n 1, 1) := by decide +kernel
theorem dX2_settleOnMap_70 : decode cX2_settleOnMap 70 = .ok (.ireturn, 1) := by decide +kernel
theorem dX2_turnedCell_0 : decode cX2_turnedCell 0 = .ok (.iload_n 3, 1) := by decide +kernel
theorem dX2_turnedCell_1 : decode cX2_turnedCell 1 = .ok (.bipush 7, 2) := by decide +kernel
theorem dX2_turnedCell_3 : decode cX2_turnedCell 3 = .ok (.iand, 1) := by decide +kernel
theorem dX2_turnedCell_4 : decode cX2_turnedCell 4 = .ok (.iload_n 2, 1) := by decide +kernel
theorem dX2_turnedCell_5 : decode cX2_turnedCell 5 = .ok (.bipush 7, 2) := by decide +kernel
theorem dX2_turnedCell_7 : decode cX2_turnedCell 7 = .ok (.iand, 1) := by decide +kernel
theorem dX2_turnedCell_8 : decode cX2_turnedCell 8 = .ok (.isub, 1) := by decide +kernel
theorem dX2_turnedCell_9 : decode cX2_turnedCell 9 = .ok (.istore 4, 2) := by decide +kernel
theorem dX2_turnedCell_11 : decode cX2_turnedCell 11 = .ok (.iload_n 3, 1) := by decide +kernel
theorem dX2_turnedCell_12 : decode cX2_turnedCell 12 = .ok (.iconst 3, 1) := by decide +kernel
theorem dX2_turnedCell_13 : decode cX2_turnedCell 13 = .ok (.ishr, 1) := by decide +kernel
theorem dX2_turnedCell_14 : decode cX2_turnedCell 14 = .ok (.iload_n 2, 1) := by decide +kernel
theorem dX2_turnedCell_15 : decode cX2_turnedCell 15 = .ok (.iconst 3, 1) := by decide +kernel
theorem dX2_turnedCell_16 : decode cX2_turnedCell 16 = .ok (.ishr, 1) := by decide +kernel
theorem dX2_turnedCell_17 : decode cX2_turnedCell 17 = .ok (.isub, 1) := by decide +kernel
theorem dX2_turnedCell_18 : decode cX2_turnedCell 18 = .ok (.istore 5, 2) := by decide +kernel
theorem dX2_turnedCell_20 : decode cX2_turnedCell 20 = .ok (.iload_n 2, 1) := by decide +kernel
theorem dX2_turnedCell_21 : decode cX2_turnedCell 21 = .ok (.bipush 7, 2) := by decide +kernel
theorem dX2_turnedCell_23 : decode cX2_turnedCell 23 = .ok (.iand, 1) := by decide +kernel
theorem dX2_turnedCell_24 : decode cX2_turnedCell 24 = .ok (.getstatic 113, 3) := by decide +kernel
theorem dX2_turnedCell_27 : decode cX2_turnedCell 27 = .ok (.iload_n 1, 1) := by decide +kernel
theorem dX2_turnedCell_28 : decode cX2_turnedCell 28 = .ok (.iaload, 1) := by decide +kernel
theorem dX2_turnedCell_29 : decode cX2_turnedCell 29 = .ok (.iload 4, 2) := by decide +kernel
theorem dX2_turnedCell_31 : decode cX2_turnedCell 31 = .ok (.imul, 1) := by decide +kernel
theorem dX2_turnedCell_32 : decode cX2_turnedCell 32 = .ok (.iadd, 1) := by decide +kernel
theorem dX2_turnedCell_33 : decode cX2_turnedCell 33 = .ok (.getstatic 116, 3) := by decide +kernel
theorem dX2_turnedCell_36 : decode cX2_turnedCell 36 = .ok (.iload_n 1, 1) := by decide +kernel
theorem dX2_turnedCell_37 : decode cX2_turnedCell 37 = .ok (.iaload, 1) := by decide +kernel
theorem dX2_turnedCell_38 : decode cX2_turnedCell 38 = .ok (.iload 5, 2) := by decide +kernel
theorem dX2_turnedCell_40 : decode cX2_turnedCell 40 = .ok (.imul, 1) := by decide +kernel
theorem dX2_turnedCell_41 : decode cX2_turnedCell 41 = .ok (.iadd, 1) := by decide +kernel
theorem dX2_turnedCell_42 : decode cX2_turnedCell 42 = .ok (.istore 6, 2) := by decide +kernel
theorem dX2_turnedCell_44 : decode cX2_turnedCell 44 = .ok (.iload_n 2, 1) := by decide +kernel
theorem dX2_turnedCell_45 : decode cX2_turnedCell 45 = .ok (.iconst 3, 1) := by decide +kernel
theorem dX2_turnedCell_46 : decode cX2_turnedCell 46 = .ok (.ishr, 1) := by decide +kernel
theorem dX2_turnedCell_47 : decode cX2_turnedCell 47 = .ok (.getstatic 119, 3) := by decide +kernel
theorem dX2_turnedCell_50 : decode cX2_turnedCell 50 = .ok (.iload_n 1, 1) := by decide +kernel
theorem dX2_turnedCell_51 : decode cX2_turnedCell 51 = .ok (.iaload, 1) := by decide +kernel
theorem dX2_turnedCell_52 : decode cX2_turnedCell 52 = .ok (.iload 4, 2) := by decide +kernel
theorem dX2_turnedCell_54 : decode cX2_turnedCell 54 = .ok (.imul, 1) := by decide +kernel
theorem dX2_turnedCell_55 : decode cX2_turnedCell 55 = .ok (.iadd, 1) := by decide +kernel
theorem dX2_turnedCell_56 : decode cX2_turnedCell 56 = .ok (.getstatic 122, 3) := by decide +kernel
theorem dX2_turnedCell_59 : decode cX2_turnedCell 59 = .ok (.iload_n 1, 1) := by decide +kernel
theorem dX2_turnedCell_60 : decode cX2_turnedCell 60 = .ok (.iaload, 1) := by decide +kernel
theorem dX2_turnedCell_61 : decode cX2_turnedCell 61 = .ok (.iload 5, 2) := by decide +kernel
theorem dX2_turnedCell_63 : decode cX2_turnedCell 63 = .ok (.imul, 1) := by decide +kernel
theorem dX2_turnedCell_64 : decode cX2_turnedCell 64 = .ok (.iadd, 1) := by decide +kernel
theorem dX2_turnedCell_65 : decode cX2_turnedCell 65 = .ok (.istore 7, 2) := by decide +kernel
theorem dX2_turnedCell_67 : decode cX2_turnedCell 67 = .ok (.iload 6, 2) := by decide +kernel
theorem dX2_turnedCell_69 : decode cX2_turnedCell 69 = .ok (.iconst 0, 1) := by decide +kernel
theorem dX2_turnedCell_70 : decode cX2_turnedCell 70 = .ok (.bipush 7, 2) := by decide +kernel
theorem dX2_turnedCell_72 : decode cX2_turnedCell 72 = .ok (.invokestatic 125, 3) := by decide +kernel
theorem dX2_turnedCell_75 : decode cX2_turnedCell 75 = .ok (.ifCond .eq 25, 3) := by decide +kernel
theorem dX2_turnedCell_78 : decode cX2_turnedCell 78 = .ok (.iload 7, 2) := by decide +kernel
theorem dX2_turnedCell_80 : decode cX2_turnedCell 80 = .ok (.iconst 0, 1) := by decide +kernel
theorem dX2_turnedCell_81 : decode cX2_turnedCell 81 = .ok (.bipush 7, 2) := by decide +kernel
theorem dX2_turnedCell_83 : decode cX2_turnedCell 83 = .ok (.invokestatic 125, 3) := by decide +kernel
theorem dX2_turnedCell_86 : decode cX2_turnedCell 86 = .ok (.ifCond .eq 14, 3) := by decide +kernel
theorem dX2_turnedCell_89 : decode cX2_turnedCell 89 = .ok (.bipush 8, 2) := by decide +kernel
theorem dX2_turnedCell_91 : decode cX2_turnedCell 91 = .ok (.iload 7, 2) := by decide +kernel
theorem dX2_turnedCell_93 : decode cX2_turnedCell 93 = .ok (.imul, 1) := by decide +kernel
theorem dX2_turnedCell_94 : decode cX2_turnedCell 94 = .ok (.iload 6, 2) := by decide +kernel
theorem dX2_turnedCell_96 : decode cX2_turnedCell 96 = .ok (.iadd, 1) := by decide +kernel
theorem dX2_turnedCell_97 : decode cX2_turnedCell 97 = .ok (.goto 5, 3) := by decide +kernel
theorem dX2_turnedCell_100 : decode cX2_turnedCell 100 = .ok (.bipush (-9), 2) := by decide +kernel
theorem dX2_turnedCell_102 : decode cX2_turnedCell 102 = .ok (.ireturn, 1) := by decide +kernel
theorem dX3_around_0 : decode cX3_around 0 = .ok (.lconst 0, 1) := by decide +kernel
theorem dX3_around_1 : decode cX3_around 1 = .ok (.lstore 4, 2) := by decide +kernel
theorem dX3_around_3 : decode cX3_around 3 = .ok (.lload_n 1, 1) := by decide +kernel
theorem dX3_around_4 : decode cX3_around 4 = .ok (.lstore 6, 2) := by decide +kernel
theorem dX3_around_6 : decode cX3_around 6 = .ok (.lload 6, 2) := by decide +kernel
theorem dX3_around_8 : decode cX3_around 8 = .ok (.lconst 0, 1) := by decide +kernel
theorem dX3_around_9 : decode cX3_around 9 = .ok (.lcmp, 1) := by decide +kernel
theorem dX3_around_10 : decode cX3_around 10 = .ok (.ifCond .eq 32, 3) := by decide +kernel
theorem dX3_around_13 : decode cX3_around 13 = .ok (.lload 4, 2) := by decide +kernel
theorem dX3_around_15 : decode cX3_around 15 = .ok (.aload_n 0, 1) := by decide +kernel
theorem dX3_around_16 : decode cX3_around 16 = .ok (.getfield 11, 3) := by decide +kernel
theorem dX3_around_19 : decode cX3_around 19 = .ok (.iload_n 3, 1) := by decide +kernel
theorem dX3_around_20 : decode cX3_around 20 = .ok (.aaload, 1) := by decide +kernel
theorem dX3_around_21 : decode cX3_around 21 = .ok (.lload 6, 2) := by decide +kernel
theorem dX3_around_23 : decode cX3_around 23 = .ok (.invokestatic 33, 3) := by decide +kernel
theorem dX3_around_26 : decode cX3_around 26 = .ok (.laload, 1) := by decide +kernel
theorem dX3_around_27 : decode cX3_around 27 = .ok (.lor, 1) := by decide +kernel
theorem dX3_around_28 : decode cX3_around 28 = .ok (.lstore 4, 2) := by decide +kernel
theorem dX3_around_30 : decode cX3_around 30 = .ok (.lload 6, 2) := by decide +kernel
theorem dX3_around_32 : decode cX3_around 32 = .ok (.lload 6, 2) := by decide +kernel
theorem dX3_around_34 : decode cX3_around 34 = .ok (.lconst 1, 1) := by decide +kernel
theorem dX3_around_35 : decode cX3_around 35 = .ok (.lsub, 1) := by decide +kernel
theorem dX3_around_36 : decode cX3_around 36 = .ok (.land, 1) := by decide +kernel
theorem dX3_around_37 : decode cX3_around 37 = .ok (.lstore 6, 2) := by decide +kernel
theorem dX3_around_39 : decode cX3_around 39 = .ok (.goto (-33), 3) := by decide +kernel
theorem dX3_around_42 : decode cX3_around 42 = .ok (.lload 4, 2) := by decide +kernel
theorem dX3_around_44 : decode cX3_around 44 = .ok (.lreturn, 1) := by decide +kernel
theorem dX3_init_0 : decode cX3_init 0 = .ok (.aload_n 0, 1) := by decide +kernel
theorem dX3_init_1 : decode cX3_init 1 = .ok (.invokespecial 3, 3) := by decide +kernel
theorem dX3_init_4 : decode cX3_init 4 = .ok (.aload_n 0, 1) := by decide +kernel
theorem dX3_init_5 : decode cX3_init 5 = .ok (.bipush 99, 2) := by decide +kernel
theorem dX3_init_7 : decode cX3_init 7 = .ok (.bipush 64, 2) := by decide +kernel
theorem dX3_init_9 : decode cX3_init 9 = .ok (.multianewarray 9 2, 4) := by decide +kernel
theorem dX3_init_13 : decode cX3_init 13 = .ok (.putfield 11, 3) := by decide +kernel
theorem dX3_init_16 : decode cX3_init 16 = .ok (.aload_n 0, 1) := by decide +kernel
theorem dX3_init_17 : decode cX3_init 17 = .ok (.iconst 4, 1) := by decide +kernel
theorem dX3_init_18 : decode cX3_init 18 = .ok (.bipush 64, 2) := by decide +kernel
theorem dX3_init_20 : decode cX3_init 20 = .ok (.multianewarray 9 2, 4) := by decide +kernel
theorem dX3_init_24 : decode cX3_init 24 = .ok (.putfield 16, 3) := by decide +kernel
theorem dX3_init_27 : decode cX3_init 27 = .ok (.iconst 0, 1) := by decide +kernel
theorem dX3_init_28 : decode cX3_init 28 = .ok (.istore_n 1, 1) := by decide +kernel
theorem dX3_init_29 : decode cX3_init 29 = .ok (.iload_n 1, 1) := by decide +kernel
theorem dX3_init_30 : decode cX3_init 30 = .ok (.bipush 64, 2) := by decide +kernel
theorem dX3_init_32 : decode cX3_init 32 = .ok (.if_icmp .ge 64, 3) := by decide +kernel
theorem dX3_init_35 : decode cX3_init 35 = .ok (.iconst 0, 1) := by decide +kernel
theorem dX3_init_36 : decode cX3_init 36 = .ok (.istore_n 2, 1) := by decide +kernel
theorem dX3_init_37 : decode cX3_init 37 = .ok (.iload_n 2, 1) := by decide +kernel
theorem dX3_init_38 : decode cX3_init 38 = .ok (.bipush 64, 2) := by decide +kernel
theorem dX3_init_40 : decode cX3_init 40 = .ok (.if_icmp .ge 15, 3) := by decide +kernel
theorem dX3_init_43 : decode cX3_init 43 = .ok (.aload_n 0, 1) := by decide +kernel
theorem dX3_init_44 : decode cX3_init 44 = .ok (.iload_n 1, 1) := by decide +kernel
theorem dX3_init_45 : decode cX3_init 45 = .ok (.iload_n 2, 1) := by decide +kernel
theorem dX3_init_46 : decode cX3_init 46 = .ok (.invokevirtual 19, 3) := by decide +kernel
theorem dX3_init_49 : decode cX3_init 49 = .ok (.iinc 2 1, 3) := by decide +kernel
theorem dX3_init_52 : decode cX3_init 52 = .ok (.goto (-15), 3) := by decide +kernel
theorem dX3_init_55 : decode cX3_init 55 = .ok (.iconst 1, 1) := by decide +kernel
theorem dX3_init_56 : decode cX3_init 56 = .ok (.istore_n 2, 1) := by decide +kernel
theorem dX3_init_57 : decode cX3_init 57 = .ok (.iload_n 2, 1) := by decide +kernel
theorem dX3_init_58 : decode cX3_init 58 = .ok (.bipush 98, 2) := by decide +kernel
theorem dX3_init_60 : decode cX3_init 60 = .ok (.if_icmp .gt 30, 3) := by decide +kernel
theorem dX3_init_63 : decode cX3_init 63 = .ok (.aload_n 0, 1) := by decide +kernel
theorem dX3_init_64 : decode cX3_init 64 = .ok (.getfield 11, 3) := by decide +kernel
theorem dX3_init_67 : decode cX3_init 67 = .ok (.iload_n 2, 1) := by decide +kernel
theorem dX3_init_68 : decode cX3_init 68 = .ok (.aaload, 1) := by decide +kernel
theorem dX3_init_69 : decode cX3_init 69 = .ok (.iload_n 1, 1) := by decide +kernel
theorem dX3_init_70 : decode cX3_init 70 = .ok (.dup2, 1) := by decide +kernel
theorem dX3_init_71 : decode cX3_init 71 = .ok (.laload, 1) := by decide +kernel
theorem dX3_init_72 : decode cX3_init 72 = .ok (.aload_n 0, 1) := by decide +kernel
theorem dX3_init_73 : decode cX3_init 73 = .ok (.getfield 11, 3) := by decide +kernel
theorem dX3_init_76 : decode cX3_init 76 = .ok (.iload_n 2, 1) := by decide +kernel
theorem dX3_init_77 : decode cX3_init 77 = .ok (.iconst 1, 1) := by decide +kernel
theorem dX3_init_78 : decode cX3_init 78 = .ok (.isub, 1) := by decide +kernel
theorem dX3_init_79 : decode cX3_init 79 = .ok (.aaload, 1) := by decide +kernel
theorem dX3_init_80 : decode cX3_init 80 = .ok (.iload_n 1, 1) := by decide +kernel
theorem dX3_init_81 : decode cX3_init 81 = .ok (.laload, 1) := by decide +kernel
theorem dX3_init_82 : decode cX3_init 82 = .ok (.lor, 1) := by decide +kernel
theorem dX3_init_83 : decode cX3_init 83 = .ok (.lastore, 1) := by decide +kernel
theorem dX3_init_84 : decode cX3_init 84 = .ok (.iinc 2 1, 3) := by decide +kernel
theorem dX3_init_87 : decode cX3_init 87 = .ok (.goto (-30), 3) := by decide +kernel
theorem dX3_init_90 : decode cX3_init 90 = .ok (.iinc 1 1, 3) := by decide +kernel
theorem dX3_init_93 : decode cX3_init 93 = .ok (.goto (-64), 3) := by decide +kernel
theorem dX3_init_96 : decode cX3_init 96 = .ok (.return_, 1) := by decide +kernel
theorem dX3_mark_0 : decode cX3_mark 0 = .ok (.iload_n 2, 1) := by decide +kernel
theorem dX3_mark_1 : decode cX3_mark 1 = .ok (.bipush 7, 2) := by decide +kernel
theorem dX3_mark_3 : decode cX3_mark 3 = .ok (.iand, 1) := by decide +kernel
theorem dX3_mark_4 : decode cX3_mark 4 = .ok (.iload_n 1, 1) := by decide +kernel
theorem dX3_mark_5 : decode cX3_mark 5 = .ok (.bipush 7, 2) := by decide +kernel
theorem dX3_mark_7 : decode cX3_mark 7 = .ok (.iand, 1) := by decide +kernel
theorem dX3_mark_8 : decode cX3_mark 8 = .ok (.isub, 1) := by decide +kernel
theorem dX3_mark_9 : decode cX3_mark 9 = .ok (.istore_n 3, 1) := by decide +kernel
theorem dX3_mark_10 : decode cX3_mark 10 = .ok (.iload_n 2, 1) := by decide +kernel
theorem dX3_mark_11 : decode cX3_mark 11 = .ok (.iconst 3, 1) := by decide +kernel
theorem dX3_mark_12 : decode cX3_mark 12 = .ok (.ishr, 1) := by decide +kernel
theorem dX3_mark_13 : decode cX3_mark 13 = .ok (.iload_n 1, 1) := by decide +kernel
theorem dX3_mark_14 : decode cX3_mark 14 = .ok (.iconst 3, 1) := by decide +kernel
theorem dX3_mark_15 : decode cX3_mark 15 = .ok (.ishr, 1) := by decide +kernel
theorem dX3_mark_16 : decode cX3_mark 16 = .ok (.isub, 1) := by decide +kernel
theorem dX3_mark_17 : decode cX3_mark 17 = .ok (.istore 4, 2) := by decide +kernel
theorem dX3_mark_19 : decode cX3_mark 19 = .ok (.aload_n 0, 1) := by decide +kernel
theorem dX3_mark_20 : decode cX3_mark 20 = .ok (.getfield 11, 3) := by decide +kernel
theorem dX3_mark_23 : decode cX3_mark 23 = .ok (.iload_n 3, 1) := by decide +kernel
theorem dX3_mark_24 : decode cX3_mark 24 = .ok (.iload_n 3, 1) := by decide +kernel
theorem dX3_mark_25 : decode cX3_mark 25 = .ok (.imul, 1) := by decide +kernel
theorem dX3_mark_26 : decode cX3_mark 26 = .ok (.iload 4, 2) := by decide +kernel
theorem dX3_mark_28 : decode cX3_mark 28 = .ok (.iload 4, 2) := by decide +kernel
theorem dX3_mark_30 : decode cX3_mark 30 = .ok (.imul, 1) := by decide +kernel
theorem dX3_mark_31 : decode cX3_mark 31 = .ok (.iadd, 1) := by decide +kernel
theorem dX3_mark_32 : decode cX3_mark 32 = .ok (.aaload, 1) := by decide +kernel
theorem dX3_mark_33 : decode cX3_mark 33 = .ok (.iload_n 1, 1) := by decide +kernel
theorem dX3_mark_34 : decode cX3_mark 34 = .ok (.dup2, 1) := by decide +kernel
theorem dX3_mark_35 : decode cX3_mark 35 = .ok (.laload, 1) := by decide +kernel
theorem dX3_mark_36 : decode cX3_mark 36 = .ok (.iload_n 2, 1) := by decide +kernel
theorem dX3_mark_37 : decode cX3_mark 37 = .ok (.invokestatic 23, 3) := by decide +kernel
theorem dX3_mark_40 : decode cX3_mark 40 = .ok (.lor, 1) := by decide +kernel
theorem dX3_mark_41 : decode cX3_mark 41 = .ok (.lastore, 1) := by decide +kernel
theorem dX3_mark_42 : decode cX3_mark 42 = .ok (.iload_n 3, 1) := by decide +kernel
theorem dX3_mark_43 : decode cX3_mark 43 = .ok (.ifCond .eq 38, 3) := by decide +kernel
theorem dX3_mark_46 : decode cX3_mark 46 = .ok (.iload 4, 2) := by decide +kernel
theorem dX3_mark_48 : decode cX3_mark 48 = .ok (.invokestatic 27, 3) := by decide +kernel
theorem dX3_mark_51 : decode cX3_mark 51 = .ok (.iload_n 3, 1) := by decide +kernel
theorem dX3_mark_52 : decode cX3_mark 52 = .ok (.invokestatic 27, 3) := by decide +kernel
theorem dX3_mark_55 : decode cX3_mark 55 = .ok (.if_icmp .gt 26, 3) := by decide +kernel
theorem dX3_mark_58 : decode cX3_mark 58 = .ok (.aload_n 0, 1) := by decide +kernel
theorem dX3_mark_59 : decode cX3_mark 59 = .ok (.getfield 16, 3) := by decide +kernel
theorem dX3_mark_62 : decode cX3_mark 62 = .ok (.iload_n 3, 1) := by decide +kernel
theorem dX3_mark_63 : decode cX3_mark 63 = .ok (.ifCond .le 7, 3) := by decide +kernel
theorem dX3_mark_66 : decode cX3_mark 66 = .ok (.iconst 0, 1) := by decide +kernel
theorem dX3_mark_67 : decode cX3_mark 67 = .ok (.goto 4, 3) := by decide +kernel
theorem dX3_mark_70 : decode cX3_mark 70 = .ok (.iconst 2, 1) := by decide +kernel
theorem dX3_mark_71 : decode cX3_mark 71 = .ok (.aaload, 1) := by decide +kernel
theorem dX3_mark_72 : decode cX3_mark 72 = .ok (.iload_n 1, 1) := by decide +kernel
theorem dX3_mark_73 : decode cX3_mark 73 = .ok (.dup2, 1) := by decide +kernel
theorem dX3_mark_74 : decode cX3_mark 74 = .ok (.laload, 1) := by decide +kernel
theorem dX3_mark_75 : decode cX3_mark 75 = .ok (.iload_n 2, 1) := by decide +kernel
theorem dX3_mark_76 : decode cX3_mark 76 = .ok (.invokestatic 23, 3) := by decide +kernel
theorem dX3_mark_79 : decode cX3_mark 79 = .ok (.lor, 1) := by decide +kernel
theorem dX3_mark_80 : decode cX3_mark 80 = .ok (.lastore, 1) := by decide +kernel
theorem dX3_mark_81 : decode cX3_mark 81 = .ok (.iload 4, 2) := by decide +kernel
theorem dX3_mark_83 : decode cX3_mark 83 = .ok (.ifCond .eq 39, 3) := by decide +kernel
theorem dX3_mark_86 : decode cX3_mark 86 = .ok (.iload_n 3, 1) := by decide +kernel
theorem dX3_mark_87 : decode cX3_mark 87 = .ok (.invokestatic 27, 3) := by decide +kernel
theorem dX3_mark_90 : decode cX3_mark 90 = .ok (.iload 4, 2) := by decide +kernel
theorem dX3_mark_92 : decode cX3_mark 92 = .ok (.invokestatic 27, 3) := by decide +kernel
theorem dX3_mark_95 : decode cX3_mark 95 = .ok (.if_icmp .gt 27, 3) := by decide +kernel
theorem dX3_mark_98 : decode cX3_mark 98 = .ok (.aload_n 0, 1) := by decide +kernel
theorem dX3_mark_99 : decode cX3_mark 99 = .ok (.getfield 16, 3) := by decide +kernel
theorem dX3_mark_102 : decode cX3_mark 102 = .ok (.iload 4, 2) := by decide +kernel
theorem dX3_mark_104 : decode cX3_mark 104 = .ok (.ifCond .le 7, 3) := by decide +kernel
theorem dX3_mark_107 : decode cX3_mark 107 = .ok (.iconst 1, 1) := by decide +kernel
theorem dX3_mark_108 : decode cX3_mark 108 = .ok (.goto 4, 3) := by decide +kernel
theorem dX3_mark_111 : decode cX3_mark 111 = .ok (.iconst 3, 1) := by decide +kernel
theorem dX3_mark_112 : decode cX3_mark 112 = .ok (.aaload, 1) := by decide +kernel
theorem dX3_mark_113 : decode cX3_mark 113 = .ok (.iload_n 1, 1) := by decide +kernel
theorem dX3_mark_114 : decode cX3_mark 114 = .ok (.dup2, 1) := by decide +kernel
theorem dX3_mark_115 : decode cX3_mark 115 = .ok (.laload, 1) := by decide +kernel
theorem dX3_mark_116 : decode cX3_mark 116 = .ok (.iload_n 2, 1) := by decide +kernel
theorem dX3_mark_117 : decode cX3_mark 117 = .ok (.invokestatic 23, 3) := by decide +kernel
theorem dX3_mark_120 : decode cX3_mark 120 = .ok (.lor, 1) := by decide +kernel
theorem dX3_mark_121 : decode cX3_mark 121 = .ok (.lastore, 1) := by decide +kernel
theorem dX3_mark_122 : decode cX3_mark 122 = .ok (.return_, 1) := by decide +kernel
theorem dX4_atHops_0 : decode cX4_atHops 0 = .ok (.iload_n 1, 1) := by decide +kernel
theorem dX4_atHops_1 : decode cX4_atHops 1 = .ok (.invokestatic 57, 3) := by decide +kernel
theorem dX4_atHops_4 : decode cX4_atHops 4 = .ok (.aload_n 0, 1) := by decide +kernel
theorem dX4_atHops_5 : decode cX4_atHops 5 = .ok (.getfield 20, 3) := by decide +kernel
theorem dX4_atHops_8 : decode cX4_atHops 8 = .ok (.getfield 99, 3) := by decide +kernel
theorem dX4_atHops_11 : decode cX4_atHops 11 = .ok (.land, 1) := by decide +kernel
theorem dX4_atHops_12 : decode cX4_atHops 12 = .ok (.lstore 4, 2) := by decide +kernel
theorem dX4_atHops_14 : decode cX4_atHops 14 = .ok (.lload 4, 2) := by decide +kernel
theorem dX4_atHops_16 : decode cX4_atHops 16 = .ok (.lstore 6, 2) := by decide +kernel
theorem dX4_atHops_18 : decode cX4_atHops 18 = .ok (.iconst 0, 1) := by decide +kernel
theorem dX4_atHops_19 : decode cX4_atHops 19 = .ok (.istore 8, 2) := by decide +kernel
theorem dX4_atHops_21 : decode cX4_atHops 21 = .ok (.iload 8, 2) := by decide +kernel
theorem dX4_atHops_23 : decode cX4_atHops 23 = .ok (.iload_n 2, 1) := by decide +kernel
theorem dX4_atHops_24 : decode cX4_atHops 24 = .ok (.if_icmp .ge 50, 3) := by decide +kernel
theorem dX4_atHops_27 : decode cX4_atHops 27 = .ok (.lload 6, 2) := by decide +kernel
theorem dX4_atHops_29 : decode cX4_atHops 29 = .ok (.lconst 0, 1) := by decide +kernel
theorem dX4_atHops_30 : decode cX4_atHops 30 = .ok (.lcmp, 1) := by decide +kernel
theorem dX4_atHops_31 : decode cX4_atHops 31 = .ok (.ifCond .eq 43, 3) := by decide +kernel
theorem dX4_atHops_34 : decode cX4_atHops 34 = .ok (.aload_n 0, 1) := by decide +kernel
theorem dX4_atHops_35 : decode cX4_atHops 35 = .ok (.getfield 24, 3) := by decide +kernel
theorem dX4_atHops_38 : decode cX4_atHops 38 = .ok (.lload 6, 2) := by decide +kernel
theorem dX4_atHops_40 : decode cX4_atHops 40 = .ok (.iload_n 3, 1) := by decide +kernel
theorem dX4_atHops_41 : decode cX4_atHops 41 = .ok (.invokevirtual 95, 3) := by decide +kernel
theorem dX4_atHops_44 : decode cX4_atHops 44 = .ok (.aload_n 0, 1) := by decide +kernel
theorem dX4_atHops_45 : decode cX4_atHops 45 = .ok (.getfield 20, 3) := by decide +kernel
theorem dX4_atHops_48 : decode cX4_atHops 48 = .ok (.getfield 99, 3) := by decide +kernel
theorem dX4_atHops_51 : decode cX4_atHops 51 = .ok (.land, 1) := by decide +kernel
theorem dX4_atHops_52 : decode cX4_atHops 52 = .ok (.lload 4, 2) := by decide +kernel
theorem dX4_atHops_54 : decode cX4_atHops 54 = .ok (.ldc2_w 66, 3) := by decide +kernel
theorem dX4_atHops_57 : decode cX4_atHops 57 = .ok (.lxor, 1) := by decide +kernel
theorem dX4_atHops_58 : decode cX4_atHops 58 = .ok (.land, 1) := by decide +kernel
theorem dX4_atHops_59 : decode cX4_atHops 59 = .ok (.lstore 6, 2) := by decide +kernel
theorem dX4_atHops_61 : decode cX4_atHops 61 = .ok (.lload 4, 2) := by decide +kernel
theorem dX4_atHops_63 : decode cX4_atHops 63 = .ok (.lload 6, 2) := by decide +kernel
theorem dX4_atHops_65 : decode cX4_atHops 65 = .ok (.lor, 1) := by decide +kernel
theorem dX4_atHops_66 : decode cX4_atHops 66 = .ok (.lstore 4, 2) := by decide +kernel
theorem dX4_atHops_68 : decode cX4_atHops 68 = .ok (.iinc 8 1, 3) := by decide +kernel
theorem dX4_atHops_71 : decode cX4_atHops 71 = .ok (.goto (-50), 3) := by decide +kernel
theorem dX4_atHops_74 : decode cX4_atHops 74 = .ok (.lload 6, 2) := by decide +kernel
theorem dX4_atHops_76 : decode cX4_atHops 76 = .ok (.lreturn, 1) := by decide +kernel
theorem dX4_findSteps_0 : decode cX4_findSteps 0 = .ok (.iconst 0, 1) := by decide +kernel
theorem dX4_findSteps_1 : decode cX4_findSteps 1 = .ok (.istore_n 1, 1) := by decide +kernel
theorem dX4_findSteps_2 : decode cX4_findSteps 2 = .ok (.iload_n 1, 1) := by decide +kernel
theorem dX4_findSteps_3 : decode cX4_findSteps 3 = .ok (.aload_n 0, 1) := by decide +kernel
theorem dX4_findSteps_4 : decode cX4_findSteps 4 = .ok (.getfield 20, 3) := by decide +kernel
theorem dX4_findSteps_7 : decode cX4_findSteps 7 = .ok (.getfield 28, 3) := by decide +kernel
theorem dX4_findSteps_10 : decode cX4_findSteps 10 = .ok (.if_icmp .ge 86, 3) := by decide +kernel
theorem dX4_findSteps_13 : decode cX4_findSteps 13 = .ok (.aload_n 0, 1) := by decide +kernel
theorem dX4_findSteps_14 : decode cX4_findSteps 14 = .ok (.getfield 20, 3) := by decide +kernel
theorem dX4_findSteps_17 : decode cX4_findSteps 17 = .ok (.getfield 34, 3) := by decide +kernel
theorem dX4_findSteps_20 : decode cX4_findSteps 20 = .ok (.iload_n 1, 1) := by decide +kernel
theorem dX4_findSteps_21 : decode cX4_findSteps 21 = .ok (.aaload, 1) := by decide +kernel
theorem dX4_findSteps_22 : decode cX4_findSteps 22 = .ok (.astore_n 2, 1) := by decide +kernel
theorem dX4_findSteps_23 : decode cX4_findSteps 23 = .ok (.aload_n 2, 1) := by decide +kernel
theorem dX4_findSteps_24 : decode cX4_findSteps 24 = .ok (.getfield 38, 3) := by decide +kernel
theorem dX4_findSteps_27 : decode cX4_findSteps 27 = .ok (.iconst 4, 1) := by decide +kernel
theorem dX4_findSteps_28 : decode cX4_findSteps 28 = .ok (.if_icmp .ne 49, 3) := by decide +kernel
theorem dX4_findSteps_31 : decode cX4_findSteps 31 = .ok (.aload_n 0, 1) := by decide +kernel
theorem dX4_findSteps_32 : decode cX4_findSteps 32 = .ok (.getfield 16, 3) := by decide +kernel
theorem dX4_findSteps_35 : decode cX4_findSteps 35 = .ok (.iload_n 1, 1) := by decide +kernel
theorem dX4_findSteps_36 : decode cX4_findSteps 36 = .ok (.invokestatic 43, 3) := by decide +kernel
theorem dX4_findSteps_39 : decode cX4_findSteps 39 = .ok (.ifCond .ne 38, 3) := by decide +kernel
theorem dX4_findSteps_42 : decode cX4_findSteps 42 = .ok (.iconst 0, 1) := by decide +kernel
theorem dX4_findSteps_43 : decode cX4_findSteps 43 = .ok (.istore_n 3, 1) := by decide +kernel
theorem dX4_findSteps_44 : decode cX4_findSteps 44 = .ok (.iload_n 3, 1) := by decide +kernel
theorem dX4_findSteps_45 : decode cX4_findSteps 45 = .ok (.bipush 64, 2) := by decide +kernel
theorem dX4_findSteps_47 : decode cX4_findSteps 47 = .ok (.if_icmp .ge 30, 3) := by decide +kernel
theorem dX4_findSteps_50 : decode cX4_findSteps 50 = .ok (.aload_n 0, 1) := by decide +kernel
theorem dX4_findSteps_51 : decode cX4_findSteps 51 = .ok (.getfield 11, 3) := by decide +kernel
theorem dX4_findSteps_54 : decode cX4_findSteps 54 = .ok (.iload_n 1, 1) := by decide +kernel
theorem dX4_findSteps_55 : decode cX4_findSteps 55 = .ok (.aaload, 1) := by decide +kernel
theorem dX4_findSteps_56 : decode cX4_findSteps 56 = .ok (.iload_n 3, 1) := by decide +kernel
theorem dX4_findSteps_57 : decode cX4_findSteps 57 = .ok (.aload_n 0, 1) := by decide +kernel
theorem dX4_findSteps_58 : decode cX4_findSteps 58 = .ok (.iload_n 3, 1) := by decide +kernel
theorem dX4_findSteps_59 : decode cX4_findSteps 59 = .ok (.aload_n 2, 1) := by decide +kernel
theorem dX4_findSteps_60 : decode cX4_findSteps 60 = .ok (.getfield 47, 3) := by decide +kernel
theorem dX4_findSteps_63 : decode cX4_findSteps 63 = .ok (.aload_n 2, 1) := by decide +kernel
theorem dX4_findSteps_64 : decode cX4_findSteps 64 = .ok (.getfield 50, 3) := by decide +kernel
theorem dX4_findSteps_67 : decode cX4_findSteps 67 = .ok (.invokevirtual 53, 3) := by decide +kernel
theorem dX4_findSteps_70 : decode cX4_findSteps 70 = .ok (.lastore, 1) := by decide +kernel
theorem dX4_findSteps_71 : decode cX4_findSteps 71 = .ok (.iinc 3 1, 3) := by decide +kernel
theorem dX4_findSteps_74 : decode cX4_findSteps 74 = .ok (.goto (-30), 3) := by decide +kernel
theorem dX4_findSteps_77 : decode cX4_findSteps 77 = .ok (.aload_n 0, 1) := by decide +kernel
theorem dX4_findSteps_78 : decode cX4_findSteps 78 = .ok (.dup, 1) := by decide +kernel
theorem dX4_findSteps_79 : decode cX4_findSteps 79 = .ok (.getfield 16, 3) := by decide +kernel
theorem dX4_findSteps_82 : decode cX4_findSteps 82 = .ok (.iload_n 1, 1) := by decide +kernel
theorem dX4_findSteps_83 : decode cX4_findSteps 83 = .ok (.invokestatic 57, 3) := by decide +kernel
theorem dX4_findSteps_86 : decode cX4_findSteps 86 = .ok (.lor, 1) := by decide +kernel
theorem dX4_findSteps_87 : decode cX4_findSteps 87 = .ok (.putfield 16, 3) := by decide +kernel
theorem dX4_findSteps_90 : decode cX4_findSteps 90 = .ok (.iinc 1 1, 3) := by decide +kernel
theorem dX4_findSteps_93 : decode cX4_findSteps 93 = .ok (.goto (-91), 3) := by decide +kernel
theorem dX4_findSteps_96 : decode cX4_findSteps 96 = .ok (.return_, 1) := by decide +kernel
theorem dX4_firstBroken_0 : decode cX4_firstBroken 0 = .ok (.iconst 0, 1) := by decide +kernel
theorem dX4_firstBroken_1 : decode cX4_firstBroken 1 = .ok (.istore_n 1, 1) := by decide +kernel
theorem dX4_firstBroken_2 : decode cX4_firstBroken 2 = .ok (.iload_n 1, 1) := by decide +kernel
theorem dX4_firstBroken_3 : decode cX4_firstBroken 3 = .ok (.aload_n 0, 1) := by decide +kernel
theorem dX4_firstBroken_4 : decode cX4_firstBroken 4 = .ok (.getfield 20, 3) := by decide +kernel
theorem dX4_firstBroken_7 : decode cX4_firstBroken 7 = .ok (.getfield 28, 3) := by decide +kernel
theorem dX4_firstBroken_10 : decode cX4_firstBroken 10 = .ok (.if_icmp .ge 86, 3) := by decide +kernel
theorem dX4_firstBroken_13 : decode cX4_firstBroken 13 = .ok (.aload_n 0, 1) := by decide +kernel
theorem dX4_firstBroken_14 : decode cX4_firstBroken 14 = .ok (.getfield 20, 3) := by decide +kernel
theorem dX4_firstBroken_17 : decode cX4_firstBroken 17 = .ok (.getfield 34, 3) := by decide +kernel
theorem dX4_firstBroken_20 : decode cX4_firstBroken 20 = .ok (.iload_n 1, 1) := by decide +kernel
theorem dX4_firstBroken_21 : decode cX4_firstBroken 21 = .ok (.aaload, 1) := by decide +kernel
theorem dX4_firstBroken_22 : decode cX4_firstBroken 22 = .ok (.astore_n 2, 1) := by decide +kernel
theorem dX4_firstBroken_23 : decode cX4_firstBroken 23 = .ok (.aload_n 0, 1) := by decide +kernel
theorem dX4_firstBroken_24 : decode cX4_firstBroken 24 = .ok (.getfield 20, 3) := by decide +kernel
theorem dX4_firstBroken_27 : decode cX4_firstBroken 27 = .ok (.getfield 78, 3) := by decide +kernel
theorem dX4_firstBroken_30 : decode cX4_firstBroken 30 = .ok (.aload_n 2, 1) := by decide +kernel
theorem dX4_firstBroken_31 : decode cX4_firstBroken 31 = .ok (.getfield 82, 3) := by decide +kernel
theorem dX4_firstBroken_34 : decode cX4_firstBroken 34 = .ok (.iaload, 1) := by decide +kernel
theorem dX4_firstBroken_35 : decode cX4_firstBroken 35 = .ok (.istore_n 3, 1) := by decide +kernel
theorem dX4_firstBroken_36 : decode cX4_firstBroken 36 = .ok (.aload_n 0, 1) := by decide +kernel
theorem dX4_firstBroken_37 : decode cX4_firstBroken 37 = .ok (.getfield 20, 3) := by decide +kernel
theorem dX4_firstBroken_40 : decode cX4_firstBroken 40 = .ok (.getfield 78, 3) := by decide +kernel
theorem dX4_firstBroken_43 : decode cX4_firstBroken 43 = .ok (.aload_n 2, 1) := by decide +kernel
theorem dX4_firstBroken_44 : decode cX4_firstBroken 44 = .ok (.getfield 85, 3) := by decide +kernel
theorem dX4_firstBroken_47 : decode cX4_firstBroken 47 = .ok (.iaload, 1) := by decide +kernel
theorem dX4_firstBroken_48 : decode cX4_firstBroken 48 = .ok (.istore 4, 2) := by decide +kernel
theorem dX4_firstBroken_50 : decode cX4_firstBroken 50 = .ok (.aload_n 0, 1) := by decide +kernel
theorem dX4_firstBroken_51 : decode cX4_firstBroken 51 = .ok (.getfield 20, 3) := by decide +kernel
theorem dX4_firstBroken_54 : decode cX4_firstBroken 54 = .ok (.getfield 88, 3) := by decide +kernel
theorem dX4_firstBroken_57 : decode cX4_firstBroken 57 = .ok (.iload_n 1, 1) := by decide +kernel
theorem dX4_firstBroken_58 : decode cX4_firstBroken 58 = .ok (.invokestatic 43, 3) := by decide +kernel
theorem dX4_firstBroken_61 : decode cX4_firstBroken 61 = .ok (.ifCond .eq 29, 3) := by decide +kernel
theorem dX4_firstBroken_64 : decode cX4_firstBroken 64 = .ok (.iload_n 3, 1) := by decide +kernel
theorem dX4_firstBroken_65 : decode cX4_firstBroken 65 = .ok (.bipush (-9), 2) := by decide +kernel
theorem dX4_firstBroken_67 : decode cX4_firstBroken 67 = .ok (.if_icmp .eq 23, 3) := by decide +kernel
theorem dX4_firstBroken_70 : decode cX4_firstBroken 70 = .ok (.iload 4, 2) := by decide +kernel
theorem dX4_firstBroken_72 : decode cX4_firstBroken 72 = .ok (.bipush (-9), 2) := by decide +kernel
theorem dX4_firstBroken_74 : decode cX4_firstBroken 74 = .ok (.if_icmp .eq 16, 3) := by decide +kernel
theorem dX4_firstBroken_77 : decode cX4_firstBroken 77 = .ok (.aload_n 0, 1) := by decide +kernel
theorem dX4_firstBroken_78 : decode cX4_firstBroken 78 = .ok (.aload_n 2, 1) := by decide +kernel
theorem dX4_firstBroken_79 : decode cX4_firstBroken 79 = .ok (.iload_n 3, 1) := by decide +kernel
theorem dX4_firstBroken_80 : decode cX4_firstBroken 80 = .ok (.iload 4, 2) := by decide +kernel
theorem dX4_firstBroken_82 : decode cX4_firstBroken 82 = .ok (.invokevirtual 91, 3) := by decide +kernel
theorem dX4_firstBroken_85 : decode cX4_firstBroken 85 = .ok (.ifCond .ne 5, 3) := by decide +kernel
theorem dX4_firstBroken_88 : decode cX4_firstBroken 88 = .ok (.iload_n 1, 1) := by decide +kernel
theorem dX4_firstBroken_89 : decode cX4_firstBroken 89 = .ok (.ireturn, 1) := by decide +kernel
theorem dX4_firstBroken_90 : decode cX4_firstBroken 90 = .ok (.iinc 1 1, 3) := by decide +kernel
theorem dX4_firstBroken_93 : decode cX4_firstBroken 93 = .ok (.goto (-91), 3) := by decide +kernel
theorem dX4_firstBroken_96 : decode cX4_firstBroken 96 = .ok (.bipush (-9), 2) := by decide +kernel
theorem dX4_firstBroken_98 : decode cX4_firstBroken 98 = .ok (.ireturn, 1) := by decide +kernel
theorem dX4_forget_0 : decode cX4_forget 0 = .ok (.aload_n 0, 1) := by decide +kernel
theorem dX4_forget_1 : decode cX4_forget 1 = .ok (.lconst 0, 1) := by decide +kernel
theorem dX4_forget_2 : decode cX4_forget 2 = .ok (.putfield 16, 3) := by decide +kernel
theorem dX4_forget_5 : decode cX4_forget 5 = .ok (.return_, 1) := by decide +kernel
theorem dX4_hopsBetween_0 : decode cX4_hopsBetween 0 = .ok (.iload_n 1, 1) := by decide +kernel
theorem dX4_hopsBetween_1 : decode cX4_hopsBetween 1 = .ok (.invokestatic 57, 3) := by decide +kernel
theorem dX4_hopsBetween_4 : decode cX4_hopsBetween 4 = .ok (.lstore 4, 2) := by decide +kernel
theorem dX4_hopsBetween_6 : decode cX4_hopsBetween 6 = .ok (.lload 4, 2) := by decide +kernel
theorem dX4_hopsBetween_8 : decode cX4_hopsBetween 8 = .ok (.lstore 6, 2) := by decide +kernel
theorem dX4_hopsBetween_10 : decode cX4_hopsBetween 10 = .ok (.iconst 0, 1) := by decide +kernel
theorem dX4_hopsBetween_11 : decode cX4_hopsBetween 11 = .ok (.istore 8, 2) := by decide +kernel
theorem dX4_hopsBetween_13 : decode cX4_hopsBetween 13 = .ok (.iload 8, 2) := by decide +kernel
theorem dX4_hopsBetween_15 : decode cX4_hopsBetween 15 = .ok (.bipush 64, 2) := by decide +kernel
theorem dX4_hopsBetween_17 : decode cX4_hopsBetween 17 = .ok (.if_icmp .ge 62, 3) := by decide +kernel
theorem dX4_hopsBetween_20 : decode cX4_hopsBetween 20 = .ok (.lload 6, 2) := by decide +kernel
theorem dX4_hopsBetween_22 : decode cX4_hopsBetween 22 = .ok (.lconst 0, 1) := by decide +kernel
theorem dX4_hopsBetween_23 : decode cX4_hopsBetween 23 = .ok (.lcmp, 1) := by decide +kernel
theorem dX4_hopsBetween_24 : decode cX4_hopsBetween 24 = .ok (.ifCond .eq 55, 3) := by decide +kernel
theorem dX4_hopsBetween_27 : decode cX4_hopsBetween 27 = .ok (.lload 6, 2) := by decide +kernel
theorem dX4_hopsBetween_29 : decode cX4_hopsBetween 29 = .ok (.iload_n 2, 1) := by decide +kernel
theorem dX4_hopsBetween_30 : decode cX4_hopsBetween 30 = .ok (.invokestatic 43, 3) := by decide +kernel
theorem dX4_hopsBetween_33 : decode cX4_hopsBetween 33 = .ok (.ifCond .eq 6, 3) := by decide +kernel
theorem dX4_hopsBetween_36 : decode cX4_hopsBetween 36 = .ok (.iload 8, 2) := by decide +kernel
theorem dX4_hopsBetween_38 : decode cX4_hopsBetween 38 = .ok (.ireturn, 1) := by decide +kernel
theorem dX4_hopsBetween_39 : decode cX4_hopsBetween 39 = .ok (.aload_n 0, 1) := by decide +kernel
theorem dX4_hopsBetween_40 : decode cX4_hopsBetween 40 = .ok (.getfield 24, 3) := by decide +kernel
theorem dX4_hopsBetween_43 : decode cX4_hopsBetween 43 = .ok (.lload 6, 2) := by decide +kernel
theorem dX4_hopsBetween_45 : decode cX4_hopsBetween 45 = .ok (.iload_n 3, 1) := by decide +kernel
theorem dX4_hopsBetween_46 : decode cX4_hopsBetween 46 = .ok (.invokevirtual 95, 3) := by decide +kernel
theorem dX4_hopsBetween_49 : decode cX4_hopsBetween 49 = .ok (.aload_n 0, 1) := by decide +kernel
theorem dX4_hopsBetween_50 : decode cX4_hopsBetween 50 = .ok (.getfield 20, 3) := by decide +kernel
theorem dX4_hopsBetween_53 : decode cX4_hopsBetween 53 = .ok (.getfield 99, 3) := by decide +kernel
theorem dX4_hopsBetween_56 : decode cX4_hopsBetween 56 = .ok (.land, 1) := by decide +kernel
theorem dX4_hopsBetween_57 : decode cX4_hopsBetween 57 = .ok (.lload 4, 2) := by decide +kernel
theorem dX4_hopsBetween_59 : decode cX4_hopsBetween 59 = .ok (.ldc2_w 66, 3) := by decide +kernel
theorem dX4_hopsBetween_62 : decode cX4_hopsBetween 62 = .ok (.lxor, 1) := by decide +kernel
theorem dX4_hopsBetween_63 : decode cX4_hopsBetween 63 = .ok (.land, 1) := by decide +kernel
theorem dX4_hopsBetween_64 : decode cX4_hopsBetween 64 = .ok (.lstore 6, 2) := by decide +kernel
theorem dX4_hopsBetween_66 : decode cX4_hopsBetween 66 = .ok (.lload 4, 2) := by decide +kernel
theorem dX4_hopsBetween_68 : decode cX4_hopsBetween 68 = .ok (.lload 6, 2) := by decide +kernel
theorem dX4_hopsBetween_70 : decode cX4_hopsBetween 70 = .ok (.lor, 1) := by decide +kernel
theorem dX4_hopsBetween_71 : decode cX4_hopsBetween 71 = .ok (.lstore 4, 2) := by decide +kernel
theorem dX4_hopsBetween_73 : decode cX4_hopsBetween 73 = .ok (.iinc 8 1, 3) := by decide +kernel
theorem dX4_hopsBetween_76 : decode cX4_hopsBetween 76 = .ok (.goto (-63), 3) := by decide +kernel
theorem dX4_hopsBetween_79 : decode cX4_hopsBetween 79 = .ok (.iconst (-1), 1) := by decide +kernel
theorem dX4_hopsBetween_80 : decode cX4_hopsBetween 80 = .ok (.ireturn, 1) := by decide +kernel
theorem dX4_init_0 : decode cX4_init 0 = .ok (.aload_n 0, 1) := by decide +kernel
theorem dX4_init_1 : decode cX4_init 1 = .ok (.invokespecial 3, 3) := by decide +kernel
theorem dX4_init_4 : decode cX4_init 4 = .ok (.aload_n 0, 1) := by decide +kernel
theorem dX4_init_5 : decode cX4_init 5 = .ok (.bipush 60, 2) := by decide +kernel
theorem dX4_init_7 : decode cX4_init 7 = .ok (.bipush 64, 2) := by decide +kernel
theorem dX4_init_9 : decode cX4_init 9 = .ok (.multianewarray 9 2, 4) := by decide +kernel
theorem dX4_init_13 : decode cX4_init 13 = .ok (.putfield 11, 3) := by decide +kernel
theorem dX4_init_16 : decode cX4_init 16 = .ok (.aload_n 0, 1) := by decide +kernel
theorem dX4_init_17 : decode cX4_init 17 = .ok (.lconst 0, 1) := by decide +kernel
theorem dX4_init_18 : decode cX4_init 18 = .ok (.putfield 16, 3) := by decide +kernel
theorem dX4_init_21 : decode cX4_init 21 = .ok (.aload_n 0, 1) := by decide +kernel
theorem dX4_init_22 : decode cX4_init 22 = .ok (.aload_n 1, 1) := by decide +kernel
theorem dX4_init_23 : decode cX4_init 23 = .ok (.putfield 20, 3) := by decide +kernel
theorem dX4_init_26 : decode cX4_init 26 = .ok (.aload_n 0, 1) := by decide +kernel
theorem dX4_init_27 : decode cX4_init 27 = .ok (.aload_n 2, 1) := by decide +kernel
theorem dX4_init_28 : decode cX4_init 28 = .ok (.putfield 24, 3) := by decide +kernel
theorem dX4_init_31 : decode cX4_init 31 = .ok (.return_, 1) := by decide +kernel
theorem dX4_isKept_0 : decode cX4_isKept 0 = .ok (.aload_n 0, 1) := by decide +kernel
theorem dX4_isKept_1 : decode cX4_isKept 1 = .ok (.aload_n 1, 1) := by decide +kernel
theorem dX4_isKept_2 : decode cX4_isKept 2 = .ok (.iconst 1, 1) := by decide +kernel
theorem dX4_isKept_3 : decode cX4_isKept 3 = .ok (.iload_n 2, 1) := by decide +kernel
theorem dX4_isKept_4 : decode cX4_isKept 4 = .ok (.invokevirtual 74, 3) := by decide +kernel
theorem dX4_isKept_7 : decode cX4_isKept 7 = .ok (.iload_n 3, 1) := by decide +kernel
theorem dX4_isKept_8 : decode cX4_isKept 8 = .ok (.invokestatic 43, 3) := by decide +kernel
theorem dX4_isKept_11 : decode cX4_isKept 11 = .ok (.ireturn, 1) := by decide +kernel
theorem dX4_keeping_0 : decode cX4_keeping 0 = .ok (.aload_n 1, 1) := by decide +kernel
theorem dX4_keeping_1 : decode cX4_keeping 1 = .ok (.getfield 38, 3) := by decide +kernel
theorem dX4_keeping_4 : decode cX4_keeping 4 = .ok (.tableswitch 143 0 3 #[32, 79, 94, 113], 32) := by decide +kernel
theorem dX4_keeping_36 : decode cX4_keeping 36 = .ok (.aload_n 0, 1) := by decide +kernel
theorem dX4_keeping_37 : decode cX4_keeping 37 = .ok (.getfield 24, 3) := by decide +kernel
theorem dX4_keeping_40 : decode cX4_keeping 40 = .ok (.getfield 61, 3) := by decide +kernel
theorem dX4_keeping_43 : decode cX4_keeping 43 = .ok (.aload_n 1, 1) := by decide +kernel
theorem dX4_keeping_44 : decode cX4_keeping 44 = .ok (.getfield 50, 3) := by decide +kernel
theorem dX4_keeping_47 : decode cX4_keeping 47 = .ok (.aaload, 1) := by decide +kernel
theorem dX4_keeping_48 : decode cX4_keeping 48 = .ok (.iload_n 3, 1) := by decide +kernel
theorem dX4_keeping_49 : decode cX4_keeping 49 = .ok (.laload, 1) := by decide +kernel
theorem dX4_keeping_50 : decode cX4_keeping 50 = .ok (.aload_n 1, 1) := by decide +kernel
theorem dX4_keeping_51 : decode cX4_keeping 51 = .ok (.getfield 47, 3) := by decide +kernel
theorem dX4_keeping_54 : decode cX4_keeping 54 = .ok (.ifCond .le 22, 3) := by decide +kernel
theorem dX4_keeping_57 : decode cX4_keeping 57 = .ok (.aload_n 0, 1) := by decide +kernel
theorem dX4_keeping_58 : decode cX4_keeping 58 = .ok (.getfield 24, 3) := by decide +kernel
theorem dX4_keeping_61 : decode cX4_keeping 61 = .ok (.getfield 61, 3) := by decide +kernel
theorem dX4_keeping_64 : decode cX4_keeping 64 = .ok (.aload_n 1, 1) := by decide +kernel
theorem dX4_keeping_65 : decode cX4_keeping 65 = .ok (.getfield 47, 3) := by decide +kernel
theorem dX4_keeping_68 : decode cX4_keeping 68 = .ok (.iconst 1, 1) := by decide +kernel
theorem dX4_keeping_69 : decode cX4_keeping 69 = .ok (.isub, 1) := by decide +kernel
theorem dX4_keeping_70 : decode cX4_keeping 70 = .ok (.aaload, 1) := by decide +kernel
theorem dX4_keeping_71 : decode cX4_keeping 71 = .ok (.iload_n 3, 1) := by decide +kernel
theorem dX4_keeping_72 : decode cX4_keeping 72 = .ok (.laload, 1) := by decide +kernel
theorem dX4_keeping_73 : decode cX4_keeping 73 = .ok (.goto 4, 3) := by decide +kernel
theorem dX4_keeping_76 : decode cX4_keeping 76 = .ok (.lconst 0, 1) := by decide +kernel
theorem dX4_keeping_77 : decode cX4_keeping 77 = .ok (.ldc2_w 66, 3) := by decide +kernel
theorem dX4_keeping_80 : decode cX4_keeping 80 = .ok (.lxor, 1) := by decide +kernel
theorem dX4_keeping_81 : decode cX4_keeping 81 = .ok (.land, 1) := by decide +kernel
theorem dX4_keeping_82 : decode cX4_keeping 82 = .ok (.lreturn, 1) := by decide +kernel
theorem dX4_keeping_83 : decode cX4_keeping 83 = .ok (.aload_n 0, 1) := by decide +kernel
theorem dX4_keeping_84 : decode cX4_keeping 84 = .ok (.getfield 24, 3) := by decide +kernel
theorem dX4_keeping_87 : decode cX4_keeping 87 = .ok (.getfield 61, 3) := by decide +kernel
theorem dX4_keeping_90 : decode cX4_keeping 90 = .ok (.aload_n 1, 1) := by decide +kernel
theorem dX4_keeping_91 : decode cX4_keeping 91 = .ok (.getfield 50, 3) := by decide +kernel
theorem dX4_keeping_94 : decode cX4_keeping 94 = .ok (.aaload, 1) := by decide +kernel
theorem dX4_keeping_95 : decode cX4_keeping 95 = .ok (.iload_n 3, 1) := by decide +kernel
theorem dX4_keeping_96 : decode cX4_keeping 96 = .ok (.laload, 1) := by decide +kernel
theorem dX4_keeping_97 : decode cX4_keeping 97 = .ok (.lreturn, 1) := by decide +kernel
theorem dX4_keeping_98 : decode cX4_keeping 98 = .ok (.aload_n 0, 1) := by decide +kernel
theorem dX4_keeping_99 : decode cX4_keeping 99 = .ok (.getfield 24, 3) := by decide +kernel
theorem dX4_keeping_102 : decode cX4_keeping 102 = .ok (.getfield 61, 3) := by decide +kernel
theorem dX4_keeping_105 : decode cX4_keeping 105 = .ok (.aload_n 1, 1) := by decide +kernel
theorem dX4_keeping_106 : decode cX4_keeping 106 = .ok (.getfield 50, 3) := by decide +kernel
theorem dX4_keeping_109 : decode cX4_keeping 109 = .ok (.aaload, 1) := by decide +kernel
theorem dX4_keeping_110 : decode cX4_keeping 110 = .ok (.iload_n 3, 1) := by decide +kernel
theorem dX4_keeping_111 : decode cX4_keeping 111 = .ok (.laload, 1) := by decide +kernel
theorem dX4_keeping_112 : decode cX4_keeping 112 = .ok (.ldc2_w 66, 3) := by decide +kernel
theorem dX4_keeping_115 : decode cX4_keeping 115 = .ok (.lxor, 1) := by decide +kernel
theorem dX4_keeping_116 : decode cX4_keeping 116 = .ok (.lreturn, 1) := by decide +kernel
theorem dX4_keeping_117 : decode cX4_keeping 117 = .ok (.aload_n 0, 1) := by decide +kernel
theorem dX4_keeping_118 : decode cX4_keeping 118 = .ok (.getfield 24, 3) := by decide +kernel
theorem dX4_keeping_121 : decode cX4_keeping 121 = .ok (.getfield 68, 3) := by decide +kernel
theorem dX4_keeping_124 : decode cX4_keeping 124 = .ok (.iload_n 2, 1) := by decide +kernel
theorem dX4_keeping_125 : decode cX4_keeping 125 = .ok (.ifCond .eq 10, 3) := by decide +kernel
theorem dX4_keeping_128 : decode cX4_keeping 128 = .ok (.aload_n 1, 1) := by decide +kernel
theorem dX4_keeping_129 : decode cX4_keeping 129 = .ok (.getfield 47, 3) := by decide +kernel
theorem dX4_keeping_132 : decode cX4_keeping 132 = .ok (.goto 11, 3) := by decide +kernel
theorem dX4_keeping_135 : decode cX4_keeping 135 = .ok (.aload_n 1, 1) := by decide +kernel
theorem dX4_keeping_136 : decode cX4_keeping 136 = .ok (.getfield 47, 3) := by decide +kernel
theorem dX4_keeping_139 : decode cX4_keeping 139 = .ok (.iconst 2, 1) := by decide +kernel
theorem dX4_keeping_140 : decode cX4_keeping 140 = .ok (.iadd, 1) := by decide +kernel
theorem dX4_keeping_141 : decode cX4_keeping 141 = .ok (.iconst 3, 1) := by decide +kernel
theorem dX4_keeping_142 : decode cX4_keeping 142 = .ok (.iand, 1) := by decide +kernel
theorem dX4_keeping_143 : decode cX4_keeping 143 = .ok (.aaload, 1) := by decide +kernel
theorem dX4_keeping_144 : decode cX4_keeping 144 = .ok (.iload_n 3, 1) := by decide +kernel
theorem dX4_keeping_145 : decode cX4_keeping 145 = .ok (.laload, 1) := by decide +kernel
theorem dX4_keeping_146 : decode cX4_keeping 146 = .ok (.lreturn, 1) := by decide +kernel
theorem dX4_keeping_147 : decode cX4_keeping 147 = .ok (.aload_n 0, 1) := by decide +kernel
theorem dX4_keeping_148 : decode cX4_keeping 148 = .ok (.getfield 11, 3) := by decide +kernel
theorem dX4_keeping_151 : decode cX4_keeping 151 = .ok (.aload_n 1, 1) := by decide +kernel
theorem dX4_keeping_152 : decode cX4_keeping 152 = .ok (.getfield 71, 3) := by decide +kernel
theorem dX4_keeping_155 : decode cX4_keeping 155 = .ok (.aaload, 1) := by decide +kernel
theorem dX4_keeping_156 : decode cX4_keeping 156 = .ok (.iload_n 3, 1) := by decide +kernel
theorem dX4_keeping_157 : decode cX4_keeping 157 = .ok (.laload, 1) := by decide +kernel
theorem dX4_keeping_158 : decode cX4_keeping 158 = .ok (.lreturn, 1) := by decide +kernel
theorem dX5_init_0 : decode cX5_init 0 = .ok (.aload_n 0, 1) := by decide +kernel
theorem dX5_init_1 : decode cX5_init 1 = .ok (.invokespecial 3, 3) := by decide +kernel
theorem dX5_init_4 : decode cX5_init 4 = .ok (.aload_n 0, 1) := by decide +kernel
theorem dX5_init_5 : decode cX5_init 5 = .ok (.iload_n 1, 1) := by decide +kernel
theorem dX5_init_6 : decode cX5_init 6 = .ok (.putfield 9, 3) := by decide +kernel
theorem dX5_init_9 : decode cX5_init 9 = .ok (.aload_n 0, 1) := by decide +kernel
theorem dX5_init_10 : decode cX5_init 10 = .ok (.iload_n 2, 1) := by decide +kernel
theorem dX5_init_11 : decode cX5_init 11 = .ok (.putfield 15, 3) := by decide +kernel
theorem dX5_init_14 : decode cX5_init 14 = .ok (.aload_n 0, 1) := by decide +kernel
theorem dX5_init_15 : decode cX5_init 15 = .ok (.iload_n 3, 1) := by decide +kernel
theorem dX5_init_16 : decode cX5_init 16 = .ok (.putfield 18, 3) := by decide +kernel
theorem dX5_init_19 : decode cX5_init 19 = .ok (.aload_n 0, 1) := by decide +kernel
theorem dX5_init_20 : decode cX5_init 20 = .ok (.iload 4, 2) := by decide +kernel
theorem dX5_init_22 : decode cX5_init 22 = .ok (.putfield 21, 3) := by decide +kernel
theorem dX5_init_25 : decode cX5_init 25 = .ok (.aload_n 0, 1) := by decide +kernel
theorem dX5_init_26 : decode cX5_init 26 = .ok (.iload 5, 2) := by decide +kernel
theorem dX5_init_28 : decode cX5_init 28 = .ok (.putfield 24, 3) := by decide +kernel
theorem dX5_init_31 : decode cX5_init 31 = .ok (.aload_n 0, 1) := by decide +kernel
theorem dX5_init_32 : decode cX5_init 32 = .ok (.iload 6, 2) := by decide +kernel
theorem dX5_init_34 : decode cX5_init 34 = .ok (.putfield 27, 3) := by decide +kernel
theorem dX5_init_37 : decode cX5_init 37 = .ok (.return_, 1) := by decide +kernel
theorem dX5_isTakenAs_0 : decode cX5_isTakenAs 0 = .ok (.iload_n 1, 1) := by decide +kernel
theorem dX5_isTakenAs_1 : decode cX5_isTakenAs 1 = .ok (.tableswitch 127 3 8 #[39, 41, 55, 85, 99, 113], 39) := by decide +kernel
theorem dX5_isTakenAs_40 : decode cX5_isTakenAs 40 = .ok (.iconst 1, 1) := by decide +kernel
theorem dX5_isTakenAs_41 : decode cX5_isTakenAs 41 = .ok (.ireturn, 1) := by decide +kernel
theorem dX5_isTakenAs_42 : decode cX5_isTakenAs 42 = .ok (.aload_n 0, 1) := by decide +kernel
theorem dX5_isTakenAs_43 : decode cX5_isTakenAs 43 = .ok (.getfield 15, 3) := by decide +kernel
theorem dX5_isTakenAs_46 : decode cX5_isTakenAs 46 = .ok (.iconst 3, 1) := by decide +kernel
theorem dX5_isTakenAs_47 : decode cX5_isTakenAs 47 = .ok (.if_icmp .eq 7, 3) := by decide +kernel
theorem dX5_isTakenAs_50 : decode cX5_isTakenAs 50 = .ok (.iconst 1, 1) := by decide +kernel
theorem dX5_isTakenAs_51 : decode cX5_isTakenAs 51 = .ok (.goto 4, 3) := by decide +kernel
theorem dX5_isTakenAs_54 : decode cX5_isTakenAs 54 = .ok (.iconst 0, 1) := by decide +kernel
theorem dX5_isTakenAs_55 : decode cX5_isTakenAs 55 = .ok (.ireturn, 1) := by decide +kernel
theorem dX5_isTakenAs_56 : decode cX5_isTakenAs 56 = .ok (.aload_n 0, 1) := by decide +kernel
theorem dX5_isTakenAs_57 : decode cX5_isTakenAs 57 = .ok (.getfield 15, 3) := by decide +kernel
theorem dX5_isTakenAs_60 : decode cX5_isTakenAs 60 = .ok (.iconst 1, 1) := by decide +kernel
theorem dX5_isTakenAs_61 : decode cX5_isTakenAs 61 = .ok (.if_icmp .eq 19, 3) := by decide +kernel
theorem dX5_isTakenAs_64 : decode cX5_isTakenAs 64 = .ok (.aload_n 0, 1) := by decide +kernel
theorem dX5_isTakenAs_65 : decode cX5_isTakenAs 65 = .ok (.getfield 15, 3) := by decide +kernel
theorem dX5_isTakenAs_68 : decode cX5_isTakenAs 68 = .ok (.iconst 2, 1) := by decide +kernel
theorem dX5_isTakenAs_69 : decode cX5_isTakenAs 69 = .ok (.if_icmp .eq 11, 3) := by decide +kernel
theorem dX5_isTakenAs_72 : decode cX5_isTakenAs 72 = .ok (.aload_n 0, 1) := by decide +kernel
theorem dX5_isTakenAs_73 : decode cX5_isTakenAs 73 = .ok (.getfield 15, 3) := by decide +kernel
theorem dX5_isTakenAs_76 : decode cX5_isTakenAs 76 = .ok (.iconst 4, 1) := by decide +kernel
theorem dX5_isTakenAs_77 : decode cX5_isTakenAs 77 = .ok (.if_icmp .ne 7, 3) := by decide +kernel
theorem dX5_isTakenAs_80 : decode cX5_isTakenAs 80 = .ok (.iconst 1, 1) := by decide +kernel
theorem dX5_isTakenAs_81 : decode cX5_isTakenAs 81 = .ok (.goto 4, 3) := by decide +kernel
theorem dX5_isTakenAs_84 : decode cX5_isTakenAs 84 = .ok (.iconst 0, 1) := by decide +kernel
theorem dX5_isTakenAs_85 : decode cX5_isTakenAs 85 = .ok (.ireturn, 1) := by decide +kernel
theorem dX5_isTakenAs_86 : decode cX5_isTakenAs 86 = .ok (.aload_n 0, 1) := by decide +kernel
theorem dX5_isTakenAs_87 : decode cX5_isTakenAs 87 = .ok (.getfield 15, 3) := by decide +kernel
theorem dX5_isTakenAs_90 : decode cX5_isTakenAs 90 = .ok (.iconst 2, 1) := by decide +kernel
theorem dX5_isTakenAs_91 : decode cX5_isTakenAs 91 = .ok (.if_icmp .ne 7, 3) := by decide +kernel
theorem dX5_isTakenAs_94 : decode cX5_isTakenAs 94 = .ok (.iconst 1, 1) := by decide +kernel
theorem dX5_isTakenAs_95 : decode cX5_isTakenAs 95 = .ok (.goto 4, 3) := by decide +kernel
theorem dX5_isTakenAs_98 : decode cX5_isTakenAs 98 = .ok (.iconst 0, 1) := by decide +kernel
theorem dX5_isTakenAs_99 : decode cX5_isTakenAs 99 = .ok (.ireturn, 1) := by decide +kernel
theorem dX5_isTakenAs_100 : decode cX5_isTakenAs 100 = .ok (.aload_n 0, 1) := by decide +kernel
theorem dX5_isTakenAs_101 : decode cX5_isTakenAs 101 = .ok (.getfield 15, 3) := by decide +kernel
theorem dX5_isTakenAs_104 : decode cX5_isTakenAs 104 = .ok (.iconst 3, 1) := by decide +kernel
theorem dX5_isTakenAs_105 : decode cX5_isTakenAs 105 = .ok (.if_icmp .ne 7, 3) := by decide +kernel
theorem dX5_isTakenAs_108 : decode cX5_isTakenAs 108 = .ok (.iconst 1, 1) := by decide +kernel
theorem dX5_isTakenAs_109 : decode cX5_isTakenAs 109 = .ok (.goto 4, 3) := by decide +kernel
theorem dX5_isTakenAs_112 : decode cX5_isTakenAs 112 = .ok (.iconst 0, 1) := by decide +kernel
theorem dX5_isTakenAs_113 : decode cX5_isTakenAs 113 = .ok (.ireturn, 1) := by decide +kernel
theorem dX5_isTakenAs_114 : decode cX5_isTakenAs 114 = .ok (.aload_n 0, 1) := by decide +kernel
theorem dX5_isTakenAs_115 : decode cX5_isTakenAs 115 = .ok (.getfield 15, 3) := by decide +kernel
theorem dX5_isTakenAs_118 : decode cX5_isTakenAs 118 = .ok (.iconst 4, 1) := by decide +kernel
theorem dX5_isTakenAs_119 : decode cX5_isTakenAs 119 = .ok (.if_icmp .ne 7, 3) := by decide +kernel
theorem dX5_isTakenAs_122 : decode cX5_isTakenAs 122 = .ok (.iconst 1, 1) := by decide +kernel
theorem dX5_isTakenAs_123 : decode cX5_isTakenAs 123 = .ok (.goto 4, 3) := by decide +kernel
theorem dX5_isTakenAs_126 : decode cX5_isTakenAs 126 = .ok (.iconst 0, 1) := by decide +kernel
theorem dX5_isTakenAs_127 : decode cX5_isTakenAs 127 = .ok (.ireturn, 1) := by decide +kernel
theorem dX5_isTakenAs_128 : decode cX5_isTakenAs 128 = .ok (.iconst 0, 1) := by decide +kernel
theorem dX5_isTakenAs_129 : decode cX5_isTakenAs 129 = .ok (.ireturn, 1) := by decide +kernel
theorem dX6_cellsOf_0 : decode cX6_cellsOf 0 = .ok (.aload_n 0, 1) := by decide +kernel
theorem dX6_cellsOf_1 : decode cX6_cellsOf 1 = .ok (.getfield 9, 3) := by decide +kernel
theorem dX6_cellsOf_4 : decode cX6_cellsOf 4 = .ok (.iload_n 1, 1) := by decide +kernel
theorem dX6_cellsOf_5 : decode cX6_cellsOf 5 = .ok (.laload, 1) := by decide +kernel
theorem dX6_cellsOf_6 : decode cX6_cellsOf 6 = .ok (.lreturn, 1) := by decide +kernel
theorem dX6_findCells_0 : decode cX6_findCells 0 = .ok (.aload_n 0, 1) := by decide +kernel
theorem dX6_findCells_1 : decode cX6_findCells 1 = .ok (.aload_n 0, 1) := by decide +kernel
theorem dX6_findCells_2 : decode cX6_findCells 2 = .ok (.aload_n 0, 1) := by decide +kernel
theorem dX6_findCells_3 : decode cX6_findCells 3 = .ok (.getfield 9, 3) := by decide +kernel
theorem dX6_findCells_6 : decode cX6_findCells 6 = .ok (.aload_n 0, 1) := by decide +kernel
theorem dX6_findCells_7 : decode cX6_findCells 7 = .ok (.getfield 29, 3) := by decide +kernel
theorem dX6_findCells_10 : decode cX6_findCells 10 = .ok (.getfield 37, 3) := by decide +kernel
theorem dX6_findCells_13 : decode cX6_findCells 13 = .ok (.iconst 1, 1) := by decide +kernel
theorem dX6_findCells_14 : decode cX6_findCells 14 = .ok (.invokevirtual 43, 3) := by decide +kernel
theorem dX6_findCells_17 : decode cX6_findCells 17 = .ok (.putfield 47, 3) := by decide +kernel
theorem dX6_findCells_20 : decode cX6_findCells 20 = .ok (.return_, 1) := by decide +kernel
theorem dX6_findLiars_0 : decode cX6_findLiars 0 = .ok (.aload_n 0, 1) := by decide +kernel
theorem dX6_findLiars_1 : decode cX6_findLiars 1 = .ok (.getfield 22, 3) := by decide +kernel
theorem dX6_findLiars_4 : decode cX6_findLiars 4 = .ok (.ifCond .eq 4, 3) := by decide +kernel
theorem dX6_findLiars_7 : decode cX6_findLiars 7 = .ok (.return_, 1) := by decide +kernel
theorem dX6_findLiars_8 : decode cX6_findLiars 8 = .ok (.aload_n 0, 1) := by decide +kernel
theorem dX6_findLiars_9 : decode cX6_findLiars 9 = .ok (.iconst 1, 1) := by decide +kernel
theorem dX6_findLiars_10 : decode cX6_findLiars 10 = .ok (.putfield 22, 3) := by decide +kernel
theorem dX6_findLiars_13 : decode cX6_findLiars 13 = .ok (.aload_n 0, 1) := by decide +kernel
theorem dX6_findLiars_14 : decode cX6_findLiars 14 = .ok (.iconst 0, 1) := by decide +kernel
theorem dX6_findLiars_15 : decode cX6_findLiars 15 = .ok (.putfield 76, 3) := by decide +kernel
theorem dX6_findLiars_18 : decode cX6_findLiars 18 = .ok (.aload_n 0, 1) := by decide +kernel
theorem dX6_findLiars_19 : decode cX6_findLiars 19 = .ok (.iconst 1, 1) := by decide +kernel
theorem dX6_findLiars_20 : decode cX6_findLiars 20 = .ok (.putfield 79, 3) := by decide +kernel
theorem dX6_findLiars_23 : decode cX6_findLiars 23 = .ok (.aload_n 0, 1) := by decide +kernel
theorem dX6_findLiars_24 : decode cX6_findLiars 24 = .ok (.getfield 25, 3) := by decide +kernel
theorem dX6_findLiars_27 : decode cX6_findLiars 27 = .ok (.iconst 0, 1) := by decide +kernel
theorem dX6_findLiars_28 : decode cX6_findLiars 28 = .ok (.invokestatic 82, 3) := by decide +kernel
theorem dX6_findLiars_31 : decode cX6_findLiars 31 = .ok (.iconst 1, 1) := by decide +kernel
theorem dX6_findLiars_32 : decode cX6_findLiars 32 = .ok (.istore_n 1, 1) := by decide +kernel
theorem dX6_findLiars_33 : decode cX6_findLiars 33 = .ok (.iload_n 1, 1) := by decide +kernel
theorem dX6_findLiars_34 : decode cX6_findLiars 34 = .ok (.iconst 2, 1) := by decide +kernel
theorem dX6_findLiars_35 : decode cX6_findLiars 35 = .ok (.if_icmp .gt 37, 3) := by decide +kernel
theorem dX6_findLiars_38 : decode cX6_findLiars 38 = .ok (.aload_n 0, 1) := by decide +kernel
theorem dX6_findLiars_39 : decode cX6_findLiars 39 = .ok (.getfield 47, 3) := by decide +kernel
theorem dX6_findLiars_42 : decode cX6_findLiars 42 = .ok (.ifCond .eq 30, 3) := by decide +kernel
theorem dX6_findLiars_45 : decode cX6_findLiars 45 = .ok (.iload_n 1, 1) := by decide +kernel
theorem dX6_findLiars_46 : decode cX6_findLiars 46 = .ok (.iconst 1, 1) := by decide +kernel
theorem dX6_findLiars_47 : decode cX6_findLiars 47 = .ok (.if_icmp .eq 10, 3) := by decide +kernel
theorem dX6_findLiars_50 : decode cX6_findLiars 50 = .ok (.aload_n 0, 1) := by decide +kernel
theorem dX6_findLiars_51 : decode cX6_findLiars 51 = .ok (.getfield 79, 3) := by decide +kernel
theorem dX6_findLiars_54 : decode cX6_findLiars 54 = .ok (.ifCond .ne 18, 3) := by decide +kernel
theorem dX6_findLiars_57 : decode cX6_findLiars 57 = .ok (.aload_n 0, 1) := by decide +kernel
theorem dX6_findLiars_58 : decode cX6_findLiars 58 = .ok (.iload_n 1, 1) := by decide +kernel
theorem dX6_findLiars_59 : decode cX6_findLiars 59 = .ok (.aload_n 0, 1) := by decide +kernel
theorem dX6_findLiars_60 : decode cX6_findLiars 60 = .ok (.invokevirtual 88, 3) := by decide +kernel
theorem dX6_findLiars_63 : decode cX6_findLiars 63 = .ok (.invokevirtual 92, 3) := by decide +kernel
theorem dX6_findLiars_66 : decode cX6_findLiars 66 = .ok (.iinc 1 1, 3) := by decide +kernel
theorem dX6_findLiars_69 : decode cX6_findLiars 69 = .ok (.goto (-36), 3) := by decide +kernel
theorem dX6_findLiars_72 : decode cX6_findLiars 72 = .ok (.aload_n 0, 1) := by decide +kernel
theorem dX6_findLiars_73 : decode cX6_findLiars 73 = .ok (.getfield 79, 3) := by decide +kernel
theorem dX6_findLiars_76 : decode cX6_findLiars 76 = .ok (.ifCond .ne 9, 3) := by decide +kernel
theorem dX6_findLiars_79 : decode cX6_findLiars 79 = .ok (.aload_n 0, 1) := by decide +kernel
theorem dX6_findLiars_80 : decode cX6_findLiars 80 = .ok (.bipush (-9), 2) := by decide +kernel
theorem dX6_findLiars_82 : decode cX6_findLiars 82 = .ok (.putfield 76, 3) := by decide +kernel
theorem dX6_findLiars_85 : decode cX6_findLiars 85 = .ok (.return_, 1) := by decide +kernel
theorem dX6_findSets_0 : decode cX6_findSets 0 = .ok (.aload_n 0, 1) := by decide +kernel
theorem dX6_findSets_1 : decode cX6_findSets 1 = .ok (.iload_n 1, 1) := by decide +kernel
theorem dX6_findSets_2 : decode cX6_findSets 2 = .ok (.putfield 76, 3) := by decide +kernel
theorem dX6_findSets_5 : decode cX6_findSets 5 = .ok (.aload_n 0, 1) := by decide +kernel
theorem dX6_findSets_6 : decode cX6_findSets 6 = .ok (.iconst 0, 1) := by decide +kernel
theorem dX6_findSets_7 : decode cX6_findSets 7 = .ok (.putfield 79, 3) := by decide +kernel
theorem dX6_findSets_10 : decode cX6_findSets 10 = .ok (.aload_n 0, 1) := by decide +kernel
theorem dX6_findSets_11 : decode cX6_findSets 11 = .ok (.invokevirtual 96, 3) := by decide +kernel
theorem dX6_findSets_14 : decode cX6_findSets 14 = .ok (.istore 4, 2) := by decide +kernel
theorem dX6_findSets_16 : decode cX6_findSets 16 = .ok (.iconst 0, 1) := by decide +kernel
theorem dX6_findSets_17 : decode cX6_findSets 17 = .ok (.istore 5, 2) := by decide +kernel
theorem dX6_findSets_19 : decode cX6_findSets 19 = .ok (.iload 5, 2) := by decide +kernel
theorem dX6_findSets_21 : decode cX6_findSets 21 = .ok (.aload_n 0, 1) := by decide +kernel
theorem dX6_findSets_22 : decode cX6_findSets 22 = .ok (.getfield 29, 3) := by decide +kernel
theorem dX6_findSets_25 : decode cX6_findSets 25 = .ok (.getfield 50, 3) := by decide +kernel
theorem dX6_findSets_28 : decode cX6_findSets 28 = .ok (.if_icmp .ge 188, 3) := by decide +kernel
theorem dX6_findSets_31 : decode cX6_findSets 31 = .ok (.aload_n 0, 1) := by decide +kernel
theorem dX6_findSets_32 : decode cX6_findSets 32 = .ok (.getfield 29, 3) := by decide +kernel
theorem dX6_findSets_35 : decode cX6_findSets 35 = .ok (.iload 5, 2) := by decide +kernel
theorem dX6_findSets_37 : decode cX6_findSets 37 = .ok (.invokevirtual 100, 3) := by decide +kernel
theorem dX6_findSets_40 : decode cX6_findSets 40 = .ok (.lstore 6, 2) := by decide +kernel
theorem dX6_findSets_42 : decode cX6_findSets 42 = .ok (.iload_n 1, 1) := by decide +kernel
theorem dX6_findSets_43 : decode cX6_findSets 43 = .ok (.iconst 1, 1) := by decide +kernel
theorem dX6_findSets_44 : decode cX6_findSets 44 = .ok (.if_icmp .ne 8, 3) := by decide +kernel
theorem dX6_findSets_47 : decode cX6_findSets 47 = .ok (.iload 5, 2) := by decide +kernel
theorem dX6_findSets_49 : decode cX6_findSets 49 = .ok (.goto 7, 3) := by decide +kernel
theorem dX6_findSets_52 : decode cX6_findSets 52 = .ok (.iload 5, 2) := by decide +kernel
theorem dX6_findSets_54 : decode cX6_findSets 54 = .ok (.iconst 1, 1) := by decide +kernel
theorem dX6_findSets_55 : decode cX6_findSets 55 = .ok (.iadd, 1) := by decide +kernel
theorem dX6_findSets_56 : decode cX6_findSets 56 = .ok (.istore 8, 2) := by decide +kernel
theorem dX6_findSets_58 : decode cX6_findSets 58 = .ok (.iload_n 1, 1) := by decide +kernel
theorem dX6_findSets_59 : decode cX6_findSets 59 = .ok (.iconst 1, 1) := by decide +kernel
theorem dX6_findSets_60 : decode cX6_findSets 60 = .ok (.if_icmp .ne 10, 3) := by decide +kernel
theorem dX6_findSets_63 : decode cX6_findSets 63 = .ok (.iload 5, 2) := by decide +kernel
theorem dX6_findSets_65 : decode cX6_findSets 65 = .ok (.iconst 1, 1) := by decide +kernel
theorem dX6_findSets_66 : decode cX6_findSets 66 = .ok (.iadd, 1) := by decide +kernel
theorem dX6_findSets_67 : decode cX6_findSets 67 = .ok (.goto 10, 3) := by decide +kernel
theorem dX6_findSets_70 : decode cX6_findSets 70 = .ok (.aload_n 0, 1) := by decide +kernel
theorem dX6_findSets_71 : decode cX6_findSets 71 = .ok (.getfield 29, 3) := by decide +kernel
theorem dX6_findSets_74 : decode cX6_findSets 74 = .ok (.getfield 50, 3) := by decide +kernel
theorem dX6_findSets_77 : decode cX6_findSets 77 = .ok (.istore 9, 2) := by decide +kernel
theorem dX6_findSets_79 : decode cX6_findSets 79 = .ok (.iload 8, 2) := by decide +kernel
theorem dX6_findSets_81 : decode cX6_findSets 81 = .ok (.istore 10, 2) := by decide +kernel
theorem dX6_findSets_83 : decode cX6_findSets 83 = .ok (.iload 10, 2) := by decide +kernel
theorem dX6_findSets_85 : decode cX6_findSets 85 = .ok (.iload 9, 2) := by decide +kernel
theorem dX6_findSets_87 : decode cX6_findSets 87 = .ok (.if_icmp .ge 123, 3) := by decide +kernel
theorem dX6_findSets_90 : decode cX6_findSets 90 = .ok (.lload 6, 2) := by decide +kernel
theorem dX6_findSets_92 : decode cX6_findSets 92 = .ok (.aload_n 0, 1) := by decide +kernel
theorem dX6_findSets_93 : decode cX6_findSets 93 = .ok (.getfield 29, 3) := by decide +kernel
theorem dX6_findSets_96 : decode cX6_findSets 96 = .ok (.iload 10, 2) := by decide +kernel
theorem dX6_findSets_98 : decode cX6_findSets 98 = .ok (.invokevirtual 100, 3) := by decide +kernel
theorem dX6_findSets_101 : decode cX6_findSets 101 = .ok (.lor, 1) := by decide +kernel
theorem dX6_findSets_102 : decode cX6_findSets 102 = .ok (.lstore 11, 2) := by decide +kernel
theorem dX6_findSets_104 : decode cX6_findSets 104 = .ok (.iload 4, 2) := by decide +kernel
theorem dX6_findSets_106 : decode cX6_findSets 106 = .ok (.i2l, 1) := by decide +kernel
theorem dX6_findSets_107 : decode cX6_findSets 107 = .ok (.iload 5, 2) := by decide +kernel
theorem dX6_findSets_109 : decode cX6_findSets 109 = .ok (.invokestatic 66, 3) := by decide +kernel
theorem dX6_findSets_112 : decode cX6_findSets 112 = .ok (.ifCond .eq 92, 3) := by decide +kernel
theorem dX6_findSets_115 : decode cX6_findSets 115 = .ok (.iload 4, 2) := by decide +kernel
theorem dX6_findSets_117 : decode cX6_findSets 117 = .ok (.i2l, 1) := by decide +kernel
theorem dX6_findSets_118 : decode cX6_findSets 118 = .ok (.iload 10, 2) := by decide +kernel
theorem dX6_findSets_120 : decode cX6_findSets 120 = .ok (.invokestatic 66, 3) := by decide +kernel
theorem dX6_findSets_123 : decode cX6_findSets 123 = .ok (.ifCond .eq 81, 3) := by decide +kernel
theorem dX6_findSets_126 : decode cX6_findSets 126 = .ok (.lload_n 2, 1) := by decide +kernel
theorem dX6_findSets_127 : decode cX6_findSets 127 = .ok (.lload 11, 2) := by decide +kernel
theorem dX6_findSets_129 : decode cX6_findSets 129 = .ok (.land, 1) := by decide +kernel
theorem dX6_findSets_130 : decode cX6_findSets 130 = .ok (.lconst 0, 1) := by decide +kernel
theorem dX6_findSets_131 : decode cX6_findSets 131 = .ok (.lcmp, 1) := by decide +kernel
theorem dX6_findSets_132 : decode cX6_findSets 132 = .ok (.ifCond .eq 72, 3) := by decide +kernel
theorem dX6_findSets_135 : decode cX6_findSets 135 = .ok (.aload_n 0, 1) := by decide +kernel
theorem dX6_findSets_136 : decode cX6_findSets 136 = .ok (.aload_n 0, 1) := by decide +kernel
theorem dX6_findSets_137 : decode cX6_findSets 137 = .ok (.getfield 15, 3) := by decide +kernel
theorem dX6_findSets_140 : decode cX6_findSets 140 = .ok (.aload_n 0, 1) := by decide +kernel
theorem dX6_findSets_141 : decode cX6_findSets 141 = .ok (.getfield 29, 3) := by decide +kernel
theorem dX6_findSets_144 : decode cX6_findSets 144 = .ok (.getfield 37, 3) := by decide +kernel
theorem dX6_findSets_147 : decode cX6_findSets 147 = .ok (.lload 11, 2) := by decide +kernel
theorem dX6_findSets_149 : decode cX6_findSets 149 = .ok (.ldc2_w 74, 3) := by decide +kernel
theorem dX6_findSets_152 : decode cX6_findSets 152 = .ok (.lxor, 1) := by decide +kernel
theorem dX6_findSets_153 : decode cX6_findSets 153 = .ok (.land, 1) := by decide +kernel
theorem dX6_findSets_154 : decode cX6_findSets 154 = .ok (.iconst 0, 1) := by decide +kernel
theorem dX6_findSets_155 : decode cX6_findSets 155 = .ok (.invokevirtual 43, 3) := by decide +kernel
theorem dX6_findSets_158 : decode cX6_findSets 158 = .ok (.ifCond .ne 46, 3) := by decide +kernel
theorem dX6_findSets_161 : decode cX6_findSets 161 = .ok (.aload_n 0, 1) := by decide +kernel
theorem dX6_findSets_162 : decode cX6_findSets 162 = .ok (.dup, 1) := by decide +kernel
theorem dX6_findSets_163 : decode cX6_findSets 163 = .ok (.getfield 79, 3) := by decide +kernel
theorem dX6_findSets_166 : decode cX6_findSets 166 = .ok (.iconst 1, 1) := by decide +kernel
theorem dX6_findSets_167 : decode cX6_findSets 167 = .ok (.iadd, 1) := by decide +kernel
theorem dX6_findSets_168 : decode cX6_findSets 168 = .ok (.putfield 79, 3) := by decide +kernel
theorem dX6_findSets_171 : decode cX6_findSets 171 = .ok (.aload_n 0, 1) := by decide +kernel
theorem dX6_findSets_172 : decode cX6_findSets 172 = .ok (.getfield 25, 3) := by decide +kernel
theorem dX6_findSets_175 : decode cX6_findSets 175 = .ok (.iload 5, 2) := by decide +kernel
theorem dX6_findSets_177 : decode cX6_findSets 177 = .ok (.dup2, 1) := by decide +kernel
theorem dX6_findSets_178 : decode cX6_findSets 178 = .ok (.iaload, 1) := by decide +kernel
theorem dX6_findSets_179 : decode cX6_findSets 179 = .ok (.iconst 1, 1) := by decide +kernel
theorem dX6_findSets_180 : decode cX6_findSets 180 = .ok (.iadd, 1) := by decide +kernel
theorem dX6_findSets_181 : decode cX6_findSets 181 = .ok (.iastore, 1) := by decide +kernel
theorem dX6_findSets_182 : decode cX6_findSets 182 = .ok (.aload_n 0, 1) := by decide +kernel
theorem dX6_findSets_183 : decode cX6_findSets 183 = .ok (.getfield 25, 3) := by decide +kernel
theorem dX6_findSets_186 : decode cX6_findSets 186 = .ok (.iload 10, 2) := by decide +kernel
theorem dX6_findSets_188 : decode cX6_findSets 188 = .ok (.dup2, 1) := by decide +kernel
theorem dX6_findSets_189 : decode cX6_findSets 189 = .ok (.iaload, 1) := by decide +kernel
theorem dX6_findSets_190 : decode cX6_findSets 190 = .ok (.iload 10, 2) := by decide +kernel
theorem dX6_findSets_192 : decode cX6_findSets 192 = .ok (.iload 5, 2) := by decide +kernel
theorem dX6_findSets_194 : decode cX6_findSets 194 = .ok (.if_icmp .ne 7, 3) := by decide +kernel
theorem dX6_findSets_197 : decode cX6_findSets 197 = .ok (.iconst 0, 1) := by decide +kernel
theorem dX6_findSets_198 : decode cX6_findSets 198 = .ok (.goto 4, 3) := by decide +kernel
theorem dX6_findSets_201 : decode cX6_findSets 201 = .ok (.iconst 1, 1) := by decide +kernel
theorem dX6_findSets_202 : decode cX6_findSets 202 = .ok (.iadd, 1) := by decide +kernel
theorem dX6_findSets_203 : decode cX6_findSets 203 = .ok (.iastore, 1) := by decide +kernel
theorem dX6_findSets_204 : decode cX6_findSets 204 = .ok (.iinc 10 1, 3) := by decide +kernel
theorem dX6_findSets_207 : decode cX6_findSets 207 = .ok (.goto (-124), 3) := by decide +kernel
theorem dX6_findSets_210 : decode cX6_findSets 210 = .ok (.iinc 5 1, 3) := by decide +kernel
theorem dX6_findSets_213 : decode cX6_findSets 213 = .ok (.goto (-194), 3) := by decide +kernel
theorem dX6_findSets_216 : decode cX6_findSets 216 = .ok (.return_, 1) := by decide +kernel
theorem dX6_forget_0 : decode cX6_forget 0 = .ok (.aload_n 0, 1) := by decide +kernel
theorem dX6_forget_1 : decode cX6_forget 1 = .ok (.iconst 0, 1) := by decide +kernel
theorem dX6_forget_2 : decode cX6_forget 2 = .ok (.putfield 18, 3) := by decide +kernel
theorem dX6_forget_5 : decode cX6_forget 5 = .ok (.aload_n 0, 1) := by decide +kernel
theorem dX6_forget_6 : decode cX6_forget 6 = .ok (.iconst 0, 1) := by decide +kernel
theorem dX6_forget_7 : decode cX6_forget 7 = .ok (.putfield 22, 3) := by decide +kernel
theorem dX6_forget_10 : decode cX6_forget 10 = .ok (.return_, 1) := by decide +kernel
theorem dX6_forgetLiars_0 : decode cX6_forgetLiars 0 = .ok (.aload_n 0, 1) := by decide +kernel
theorem dX6_forgetLiars_1 : decode cX6_forgetLiars 1 = .ok (.iconst 0, 1) := by decide +kernel
theorem dX6_forgetLiars_2 : decode cX6_forgetLiars 2 = .ok (.putfield 22, 3) := by decide +kernel
theorem dX6_forgetLiars_5 : decode cX6_forgetLiars 5 = .ok (.return_, 1) := by decide +kernel
theorem dX6_init_0 : decode cX6_init 0 = .ok (.aload_n 0, 1) := by decide +kernel
theorem dX6_init_1 : decode cX6_init 1 = .ok (.invokespecial 3, 3) := by decide +kernel
theorem dX6_init_4 : decode cX6_init 4 = .ok (.aload_n 0, 1) := by decide +kernel
theorem dX6_init_5 : decode cX6_init 5 = .ok (.bipush 24, 2) := by decide +kernel
theorem dX6_init_7 : decode cX6_init 7 = .ok (.newarray .long, 2) := by decide +kernel
theorem dX6_init_9 : decode cX6_init 9 = .ok (.putfield 9, 3) := by decide +kernel
theorem dX6_init_12 : decode cX6_init 12 = .ok (.aload_n 0, 1) := by decide +kernel
theorem dX6_init_13 : decode cX6_init 13 = .ok (.bipush 24, 2) := by decide +kernel
theorem dX6_init_15 : decode cX6_init 15 = .ok (.newarray .long, 2) := by decide +kernel
theorem dX6_init_17 : decode cX6_init 17 = .ok (.putfield 15, 3) := by decide +kernel
theorem dX6_init_20 : decode cX6_init 20 = .ok (.aload_n 0, 1) := by decide +kernel
theorem dX6_init_21 : decode cX6_init 21 = .ok (.iconst 0, 1) := by decide +kernel
theorem dX6_init_22 : decode cX6_init 22 = .ok (.putfield 18, 3) := by decide +kernel
theorem dX6_init_25 : decode cX6_init 25 = .ok (.aload_n 0, 1) := by decide +kernel
theorem dX6_init_26 : decode cX6_init 26 = .ok (.iconst 0, 1) := by decide +kernel
theorem dX6_init_27 : decode cX6_init 27 = .ok (.putfield 22, 3) := by decide +kernel
theorem dX6_init_30 : decode cX6_init 30 = .ok (.aload_n 0, 1) := by decide +kernel
theorem dX6_init_31 : decode cX6_init 31 = .ok (.bipush 24, 2) := by decide +kernel
theorem dX6_init_33 : decode cX6_init 33 = .ok (.newarray .int, 2) := by decide +kernel
theorem dX6_init_35 : decode cX6_init 35 = .ok (.putfield 25, 3) := by decide +kernel
theorem dX6_init_38 : decode cX6_init 38 = .ok (.aload_n 0, 1) := by decide +kernel
theorem dX6_init_39 : decode cX6_init 39 = .ok (.aload_n 1, 1) := by decide +kernel
theorem dX6_init_40 : decode cX6_init 40 = .ok (.putfield 29, 3) := by decide +kernel
theorem dX6_init_43 : decode cX6_init 43 = .ok (.aload_n 0, 1) := by decide +kernel
theorem dX6_init_44 : decode cX6_init 44 = .ok (.aload_n 2, 1) := by decide +kernel
theorem dX6_init_45 : decode cX6_init 45 = .ok (.putfield 33, 3) := by decide +kernel
theorem dX6_init_48 : decode cX6_init 48 = .ok (.return_, 1) := by decide +kernel
theorem dX6_isQuarrel_0 : decode cX6_isQuarrel 0 = .ok (.aload_n 0, 1) := by decide +kernel
theorem dX6_isQuarrel_1 : decode cX6_isQuarrel 1 = .ok (.getfield 47, 3) := by decide +kernel
theorem dX6_isQuarrel_4 : decode cX6_isQuarrel 4 = .ok (.ireturn, 1) := by decide +kernel
theorem dX6_leastQuarrel_0 : decode cX6_leastQuarrel 0 = .ok (.aload_n 0, 1) := by decide +kernel
theorem dX6_leastQuarrel_1 : decode cX6_leastQuarrel 1 = .ok (.getfield 18, 3) := by decide +kernel
theorem dX6_leastQuarrel_4 : decode cX6_leastQuarrel 4 = .ok (.ifCond .ne 91, 3) := by decide +kernel
theorem dX6_leastQuarrel_7 : decode cX6_leastQuarrel 7 = .ok (.aload_n 0, 1) := by decide +kernel
theorem dX6_leastQuarrel_8 : decode cX6_leastQuarrel 8 = .ok (.aload_n 0, 1) := by decide +kernel
theorem dX6_leastQuarrel_9 : decode cX6_leastQuarrel 9 = .ok (.getfield 29, 3) := by decide +kernel
theorem dX6_leastQuarrel_12 : decode cX6_leastQuarrel 12 = .ok (.getfield 37, 3) := by decide +kernel
theorem dX6_leastQuarrel_15 : decode cX6_leastQuarrel 15 = .ok (.putfield 60, 3) := by decide +kernel
theorem dX6_leastQuarrel_18 : decode cX6_leastQuarrel 18 = .ok (.iconst 0, 1) := by decide +kernel
theorem dX6_leastQuarrel_19 : decode cX6_leastQuarrel 19 = .ok (.istore_n 1, 1) := by decide +kernel
theorem dX6_leastQuarrel_20 : decode cX6_leastQuarrel 20 = .ok (.iload_n 1, 1) := by decide +kernel
theorem dX6_leastQuarrel_21 : decode cX6_leastQuarrel 21 = .ok (.aload_n 0, 1) := by decide +kernel
theorem dX6_leastQuarrel_22 : decode cX6_leastQuarrel 22 = .ok (.getfield 29, 3) := by decide +kernel
theorem dX6_leastQuarrel_25 : decode cX6_leastQuarrel 25 = .ok (.getfield 63, 3) := by decide +kernel
theorem dX6_leastQuarrel_28 : decode cX6_leastQuarrel 28 = .ok (.if_icmp .ge 62, 3) := by decide +kernel
theorem dX6_leastQuarrel_31 : decode cX6_leastQuarrel 31 = .ok (.aload_n 0, 1) := by decide +kernel
theorem dX6_leastQuarrel_32 : decode cX6_leastQuarrel 32 = .ok (.getfield 60, 3) := by decide +kernel
theorem dX6_leastQuarrel_35 : decode cX6_leastQuarrel 35 = .ok (.iload_n 1, 1) := by decide +kernel
theorem dX6_leastQuarrel_36 : decode cX6_leastQuarrel 36 = .ok (.invokestatic 66, 3) := by decide +kernel
theorem dX6_leastQuarrel_39 : decode cX6_leastQuarrel 39 = .ok (.ifCond .eq 45, 3) := by decide +kernel
theorem dX6_leastQuarrel_42 : decode cX6_leastQuarrel 42 = .ok (.aload_n 0, 1) := by decide +kernel
theorem dX6_leastQuarrel_43 : decode cX6_leastQuarrel 43 = .ok (.aload_n 0, 1) := by decide +kernel
theorem dX6_leastQuarrel_44 : decode cX6_leastQuarrel 44 = .ok (.getfield 15, 3) := by decide +kernel
theorem dX6_leastQuarrel_47 : decode cX6_leastQuarrel 47 = .ok (.aload_n 0, 1) := by decide +kernel
theorem dX6_leastQuarrel_48 : decode cX6_leastQuarrel 48 = .ok (.getfield 60, 3) := by decide +kernel
theorem dX6_leastQuarrel_51 : decode cX6_leastQuarrel 51 = .ok (.iload_n 1, 1) := by decide +kernel
theorem dX6_leastQuarrel_52 : decode cX6_leastQuarrel 52 = .ok (.invokestatic 70, 3) := by decide +kernel
theorem dX6_leastQuarrel_55 : decode cX6_leastQuarrel 55 = .ok (.ldc2_w 74, 3) := by decide +kernel
theorem dX6_leastQuarrel_58 : decode cX6_leastQuarrel 58 = .ok (.lxor, 1) := by decide +kernel
theorem dX6_leastQuarrel_59 : decode cX6_leastQuarrel 59 = .ok (.land, 1) := by decide +kernel
theorem dX6_leastQuarrel_60 : decode cX6_leastQuarrel 60 = .ok (.iconst 0, 1) := by decide +kernel
theorem dX6_leastQuarrel_61 : decode cX6_leastQuarrel 61 = .ok (.invokevirtual 43, 3) := by decide +kernel
theorem dX6_leastQuarrel_64 : decode cX6_leastQuarrel 64 = .ok (.ifCond .eq 20, 3) := by decide +kernel
theorem dX6_leastQuarrel_67 : decode cX6_leastQuarrel 67 = .ok (.aload_n 0, 1) := by decide +kernel
theorem dX6_leastQuarrel_68 : decode cX6_leastQuarrel 68 = .ok (.dup, 1) := by decide +kernel
theorem dX6_leastQuarrel_69 : decode cX6_leastQuarrel 69 = .ok (.getfield 60, 3) := by decide +kernel
theorem dX6_leastQuarrel_72 : decode cX6_leastQuarrel 72 = .ok (.iload_n 1, 1) := by decide +kernel
theorem dX6_leastQuarrel_73 : decode cX6_leastQuarrel 73 = .ok (.invokestatic 70, 3) := by decide +kernel
theorem dX6_leastQuarrel_76 : decode cX6_leastQuarrel 76 = .ok (.ldc2_w 74, 3) := by decide +kernel
theorem dX6_leastQuarrel_79 : decode cX6_leastQuarrel 79 = .ok (.lxor, 1) := by decide +kernel
theorem dX6_leastQuarrel_80 : decode cX6_leastQuarrel 80 = .ok (.land, 1) := by decide +kernel
theorem dX6_leastQuarrel_81 : decode cX6_leastQuarrel 81 = .ok (.putfield 60, 3) := by decide +kernel
theorem dX6_leastQuarrel_84 : decode cX6_leastQuarrel 84 = .ok (.iinc 1 1, 3) := by decide +kernel
theorem dX6_leastQuarrel_87 : decode cX6_leastQuarrel 87 = .ok (.goto (-67), 3) := by decide +kernel
theorem dX6_leastQuarrel_90 : decode cX6_leastQuarrel 90 = .ok (.aload_n 0, 1) := by decide +kernel
theorem dX6_leastQuarrel_91 : decode cX6_leastQuarrel 91 = .ok (.iconst 1, 1) := by decide +kernel
theorem dX6_leastQuarrel_92 : decode cX6_leastQuarrel 92 = .ok (.putfield 18, 3) := by decide +kernel
theorem dX6_leastQuarrel_95 : decode cX6_leastQuarrel 95 = .ok (.aload_n 0, 1) := by decide +kernel
theorem dX6_leastQuarrel_96 : decode cX6_leastQuarrel 96 = .ok (.getfield 60, 3) := by decide +kernel
theorem dX6_leastQuarrel_99 : decode cX6_leastQuarrel 99 = .ok (.lreturn, 1) := by decide +kernel
theorem dX6_narrowBy_0 : decode cX6_narrowBy 0 = .ok (.aload_n 0, 1) := by decide +kernel
theorem dX6_narrowBy_1 : decode cX6_narrowBy 1 = .ok (.aload_n 1, 1) := by decide +kernel
theorem dX6_narrowBy_2 : decode cX6_narrowBy 2 = .ok (.iconst 0, 1) := by decide +kernel
theorem dX6_narrowBy_3 : decode cX6_narrowBy 3 = .ok (.aload_n 2, 1) := by decide +kernel
theorem dX6_narrowBy_4 : decode cX6_narrowBy 4 = .ok (.aload_n 1, 1) := by decide +kernel
theorem dX6_narrowBy_5 : decode cX6_narrowBy 5 = .ok (.getfield 127, 3) := by decide +kernel
theorem dX6_narrowBy_8 : decode cX6_narrowBy 8 = .ok (.laload, 1) := by decide +kernel
theorem dX6_narrowBy_9 : decode cX6_narrowBy 9 = .ok (.aload_n 2, 1) := by decide +kernel
theorem dX6_narrowBy_10 : decode cX6_narrowBy 10 = .ok (.aload_n 1, 1) := by decide +kernel
theorem dX6_narrowBy_11 : decode cX6_narrowBy 11 = .ok (.getfield 122, 3) := by decide +kernel
theorem dX6_narrowBy_14 : decode cX6_narrowBy 14 = .ok (.laload, 1) := by decide +kernel
theorem dX6_narrowBy_15 : decode cX6_narrowBy 15 = .ok (.invokevirtual 134, 3) := by decide +kernel
theorem dX6_narrowBy_18 : decode cX6_narrowBy 18 = .ok (.lstore_n 3, 1) := by decide +kernel
theorem dX6_narrowBy_19 : decode cX6_narrowBy 19 = .ok (.aload_n 0, 1) := by decide +kernel
theorem dX6_narrowBy_20 : decode cX6_narrowBy 20 = .ok (.aload_n 1, 1) := by decide +kernel
theorem dX6_narrowBy_21 : decode cX6_narrowBy 21 = .ok (.iconst 1, 1) := by decide +kernel
theorem dX6_narrowBy_22 : decode cX6_narrowBy 22 = .ok (.lload_n 3, 1) := by decide +kernel
theorem dX6_narrowBy_23 : decode cX6_narrowBy 23 = .ok (.aload_n 2, 1) := by decide +kernel
theorem dX6_narrowBy_24 : decode cX6_narrowBy 24 = .ok (.aload_n 1, 1) := by decide +kernel
theorem dX6_narrowBy_25 : decode cX6_narrowBy 25 = .ok (.getfield 127, 3) := by decide +kernel
theorem dX6_narrowBy_28 : decode cX6_narrowBy 28 = .ok (.laload, 1) := by decide +kernel
theorem dX6_narrowBy_29 : decode cX6_narrowBy 29 = .ok (.invokevirtual 134, 3) := by decide +kernel
theorem dX6_narrowBy_32 : decode cX6_narrowBy 32 = .ok (.lstore 5, 2) := by decide +kernel
theorem dX6_narrowBy_34 : decode cX6_narrowBy 34 = .ok (.lload_n 3, 1) := by decide +kernel
theorem dX6_narrowBy_35 : decode cX6_narrowBy 35 = .ok (.aload_n 2, 1) := by decide +kernel
theorem dX6_narrowBy_36 : decode cX6_narrowBy 36 = .ok (.aload_n 1, 1) := by decide +kernel
theorem dX6_narrowBy_37 : decode cX6_narrowBy 37 = .ok (.getfield 122, 3) := by decide +kernel
theorem dX6_narrowBy_40 : decode cX6_narrowBy 40 = .ok (.laload, 1) := by decide +kernel
theorem dX6_narrowBy_41 : decode cX6_narrowBy 41 = .ok (.lcmp, 1) := by decide +kernel
theorem dX6_narrowBy_42 : decode cX6_narrowBy 42 = .ok (.ifCond .eq 12, 3) := by decide +kernel
theorem dX6_narrowBy_45 : decode cX6_narrowBy 45 = .ok (.iconst 1, 1) := by decide +kernel
theorem dX6_narrowBy_46 : decode cX6_narrowBy 46 = .ok (.aload_n 1, 1) := by decide +kernel
theorem dX6_narrowBy_47 : decode cX6_narrowBy 47 = .ok (.getfield 122, 3) := by decide +kernel
theorem dX6_narrowBy_50 : decode cX6_narrowBy 50 = .ok (.ishl, 1) := by decide +kernel
theorem dX6_narrowBy_51 : decode cX6_narrowBy 51 = .ok (.goto 4, 3) := by decide +kernel
theorem dX6_narrowBy_54 : decode cX6_narrowBy 54 = .ok (.iconst 0, 1) := by decide +kernel
theorem dX6_narrowBy_55 : decode cX6_narrowBy 55 = .ok (.lload 5, 2) := by decide +kernel
theorem dX6_narrowBy_57 : decode cX6_narrowBy 57 = .ok (.aload_n 2, 1) := by decide +kernel
theorem dX6_narrowBy_58 : decode cX6_narrowBy 58 = .ok (.aload_n 1, 1) := by decide +kernel
theorem dX6_narrowBy_59 : decode cX6_narrowBy 59 = .ok (.getfield 127, 3) := by decide +kernel
theorem dX6_narrowBy_62 : decode cX6_narrowBy 62 = .ok (.laload, 1) := by decide +kernel
theorem dX6_narrowBy_63 : decode cX6_narrowBy 63 = .ok (.lcmp, 1) := by decide +kernel
theorem dX6_narrowBy_64 : decode cX6_narrowBy 64 = .ok (.ifCond .eq 12, 3) := by decide +kernel
theorem dX6_narrowBy_67 : decode cX6_narrowBy 67 = .ok (.iconst 1, 1) := by decide +kernel
theorem dX6_narrowBy_68 : decode cX6_narrowBy 68 = .ok (.aload_n 1, 1) := by decide +kernel
theorem dX6_narrowBy_69 : decode cX6_narrowBy 69 = .ok (.getfield 127, 3) := by decide +kernel
theorem dX6_narrowBy_72 : decode cX6_narrowBy 72 = .ok (.ishl, 1) := by decide +kernel
theorem dX6_narrowBy_73 : decode cX6_narrowBy 73 = .ok (.goto 4, 3) := by decide +kernel
theorem dX6_narrowBy_76 : decode cX6_narrowBy 76 = .ok (.iconst 0, 1) := by decide +kernel
theorem dX6_narrowBy_77 : decode cX6_narrowBy 77 = .ok (.ior, 1) := by decide +kernel
theorem dX6_narrowBy_78 : decode cX6_narrowBy 78 = .ok (.istore 7, 2) := by decide +kernel
theorem dX6_narrowBy_80 : decode cX6_narrowBy 80 = .ok (.aload_n 2, 1) := by decide +kernel
theorem dX6_narrowBy_81 : decode cX6_narrowBy 81 = .ok (.aload_n 1, 1) := by decide +kernel
theorem dX6_narrowBy_82 : decode cX6_narrowBy 82 = .ok (.getfield 122, 3) := by decide +kernel
theorem dX6_narrowBy_85 : decode cX6_narrowBy 85 = .ok (.lload_n 3, 1) := by decide +kernel
theorem dX6_narrowBy_86 : decode cX6_narrowBy 86 = .ok (.lastore, 1) := by decide +kernel
theorem dX6_narrowBy_87 : decode cX6_narrowBy 87 = .ok (.aload_n 2, 1) := by decide +kernel
theorem dX6_narrowBy_88 : decode cX6_narrowBy 88 = .ok (.aload_n 1, 1) := by decide +kernel
theorem dX6_narrowBy_89 : decode cX6_narrowBy 89 = .ok (.getfield 127, 3) := by decide +kernel
theorem dX6_narrowBy_92 : decode cX6_narrowBy 92 = .ok (.lload 5, 2) := by decide +kernel
theorem dX6_narrowBy_94 : decode cX6_narrowBy 94 = .ok (.lastore, 1) := by decide +kernel
theorem dX6_narrowBy_95 : decode cX6_narrowBy 95 = .ok (.iload 7, 2) := by decide +kernel
theorem dX6_narrowBy_97 : decode cX6_narrowBy 97 = .ok (.ireturn, 1) := by decide +kernel
theorem dX6_settle_0 : decode cX6_settle 0 = .ok (.iconst 0, 1) := by decide +kernel
theorem dX6_settle_1 : decode cX6_settle 1 = .ok (.istore 5, 2) := by decide +kernel
theorem dX6_settle_3 : decode cX6_settle 3 = .ok (.iconst 0, 1) := by decide +kernel
theorem dX6_settle_4 : decode cX6_settle 4 = .ok (.istore 6, 2) := by decide +kernel
theorem dX6_settle_6 : decode cX6_settle 6 = .ok (.iload 6, 2) := by decide +kernel
theorem dX6_settle_8 : decode cX6_settle 8 = .ok (.aload_n 0, 1) := by decide +kernel
theorem dX6_settle_9 : decode cX6_settle 9 = .ok (.getfield 29, 3) := by decide +kernel
theorem dX6_settle_12 : decode cX6_settle 12 = .ok (.getfield 50, 3) := by decide +kernel
theorem dX6_settle_15 : decode cX6_settle 15 = .ok (.if_icmp .ge 41, 3) := by decide +kernel
theorem dX6_settle_18 : decode cX6_settle 18 = .ok (.aload_n 1, 1) := by decide +kernel
theorem dX6_settle_19 : decode cX6_settle 19 = .ok (.iload 6, 2) := by decide +kernel
theorem dX6_settle_21 : decode cX6_settle 21 = .ok (.aload_n 0, 1) := by decide +kernel
theorem dX6_settle_22 : decode cX6_settle 22 = .ok (.getfield 29, 3) := by decide +kernel
theorem dX6_settle_25 : decode cX6_settle 25 = .ok (.iload 6, 2) := by decide +kernel
theorem dX6_settle_27 : decode cX6_settle 27 = .ok (.invokevirtual 115, 3) := by decide +kernel
theorem dX6_settle_30 : decode cX6_settle 30 = .ok (.lastore, 1) := by decide +kernel
theorem dX6_settle_31 : decode cX6_settle 31 = .ok (.iload 5, 2) := by decide +kernel
theorem dX6_settle_33 : decode cX6_settle 33 = .ok (.aload_n 1, 1) := by decide +kernel
theorem dX6_settle_34 : decode cX6_settle 34 = .ok (.iload 6, 2) := by decide +kernel
theorem dX6_settle_36 : decode cX6_settle 36 = .ok (.laload, 1) := by decide +kernel
theorem dX6_settle_37 : decode cX6_settle 37 = .ok (.lconst 0, 1) := by decide +kernel
theorem dX6_settle_38 : decode cX6_settle 38 = .ok (.lcmp, 1) := by decide +kernel
theorem dX6_settle_39 : decode cX6_settle 39 = .ok (.ifCond .ne 7, 3) := by decide +kernel
theorem dX6_settle_42 : decode cX6_settle 42 = .ok (.iconst 1, 1) := by decide +kernel
theorem dX6_settle_43 : decode cX6_settle 43 = .ok (.goto 4, 3) := by decide +kernel
theorem dX6_settle_46 : decode cX6_settle 46 = .ok (.iconst 0, 1) := by decide +kernel
theorem dX6_settle_47 : decode cX6_settle 47 = .ok (.ior, 1) := by decide +kernel
theorem dX6_settle_48 : decode cX6_settle 48 = .ok (.istore 5, 2) := by decide +kernel
theorem dX6_settle_50 : decode cX6_settle 50 = .ok (.iinc 6 1, 3) := by decide +kernel
theorem dX6_settle_53 : decode cX6_settle 53 = .ok (.goto (-47), 3) := by decide +kernel
theorem dX6_settle_56 : decode cX6_settle 56 = .ok (.iconst (-1), 1) := by decide +kernel
theorem dX6_settle_57 : decode cX6_settle 57 = .ok (.istore 6, 2) := by decide +kernel
theorem dX6_settle_59 : decode cX6_settle 59 = .ok (.iconst 0, 1) := by decide +kernel
theorem dX6_settle_60 : decode cX6_settle 60 = .ok (.istore 7, 2) := by decide +kernel
theorem dX6_settle_62 : decode cX6_settle 62 = .ok (.iload 7, 2) := by decide +kernel
theorem dX6_settle_64 : decode cX6_settle 64 = .ok (.sipush 1536, 3) := by decide +kernel
theorem dX6_settle_67 : decode cX6_settle 67 = .ok (.if_icmp .gt 163, 3) := by decide +kernel
theorem dX6_settle_70 : decode cX6_settle 70 = .ok (.iload 6, 2) := by decide +kernel
theorem dX6_settle_72 : decode cX6_settle 72 = .ok (.ifCond .eq 158, 3) := by decide +kernel
theorem dX6_settle_75 : decode cX6_settle 75 = .ok (.iload 4, 2) := by decide +kernel
theorem dX6_settle_77 : decode cX6_settle 77 = .ok (.ifCond .ne 8, 3) := by decide +kernel
theorem dX6_settle_80 : decode cX6_settle 80 = .ok (.iload 5, 2) := by decide +kernel
theorem dX6_settle_82 : decode cX6_settle 82 = .ok (.ifCond .ne 148, 3) := by decide +kernel
theorem dX6_settle_85 : decode cX6_settle 85 = .ok (.iconst 0, 1) := by decide +kernel
theorem dX6_settle_86 : decode cX6_settle 86 = .ok (.istore 8, 2) := by decide +kernel
theorem dX6_settle_88 : decode cX6_settle 88 = .ok (.iconst 0, 1) := by decide +kernel
theorem dX6_settle_89 : decode cX6_settle 89 = .ok (.istore 9, 2) := by decide +kernel
theorem dX6_settle_91 : decode cX6_settle 91 = .ok (.iload 9, 2) := by decide +kernel
theorem dX6_settle_93 : decode cX6_settle 93 = .ok (.aload_n 0, 1) := by decide +kernel
theorem dX6_settle_94 : decode cX6_settle 94 = .ok (.getfield 29, 3) := by decide +kernel
theorem dX6_settle_97 : decode cX6_settle 97 = .ok (.getfield 63, 3) := by decide +kernel
theorem dX6_settle_100 : decode cX6_settle 100 = .ok (.if_icmp .ge 120, 3) := by decide +kernel
theorem dX6_settle_103 : decode cX6_settle 103 = .ok (.iload 4, 2) := by decide +kernel
theorem dX6_settle_105 : decode cX6_settle 105 = .ok (.ifCond .ne 8, 3) := by decide +kernel
theorem dX6_settle_108 : decode cX6_settle 108 = .ok (.iload 5, 2) := by decide +kernel
theorem dX6_settle_110 : decode cX6_settle 110 = .ok (.ifCond .ne 110, 3) := by decide +kernel
theorem dX6_settle_113 : decode cX6_settle 113 = .ok (.aload_n 0, 1) := by decide +kernel
theorem dX6_settle_114 : decode cX6_settle 114 = .ok (.getfield 29, 3) := by decide +kernel
theorem dX6_settle_117 : decode cX6_settle 117 = .ok (.getfield 118, 3) := by decide +kernel
theorem dX6_settle_120 : decode cX6_settle 120 = .ok (.iload 9, 2) := by decide +kernel
theorem dX6_settle_122 : decode cX6_settle 122 = .ok (.aaload, 1) := by decide +kernel
theorem dX6_settle_123 : decode cX6_settle 123 = .ok (.astore 10, 2) := by decide +kernel
theorem dX6_settle_125 : decode cX6_settle 125 = .ok (.lload_n 2, 1) := by decide +kernel
theorem dX6_settle_126 : decode cX6_settle 126 = .ok (.iload 9, 2) := by decide +kernel
theorem dX6_settle_128 : decode cX6_settle 128 = .ok (.invokestatic 66, 3) := by decide +kernel
theorem dX6_settle_131 : decode cX6_settle 131 = .ok (.ifCond .eq 83, 3) := by decide +kernel
theorem dX6_settle_134 : decode cX6_settle 134 = .ok (.iload 6, 2) := by decide +kernel
theorem dX6_settle_136 : decode cX6_settle 136 = .ok (.iload 8, 2) := by decide +kernel
theorem dX6_settle_138 : decode cX6_settle 138 = .ok (.ior, 1) := by decide +kernel
theorem dX6_settle_139 : decode cX6_settle 139 = .ok (.i2l, 1) := by decide +kernel
theorem dX6_settle_140 : decode cX6_settle 140 = .ok (.aload 10, 2) := by decide +kernel
theorem dX6_settle_142 : decode cX6_settle 142 = .ok (.getfield 122, 3) := by decide +kernel
theorem dX6_settle_145 : decode cX6_settle 145 = .ok (.invokestatic 66, 3) := by decide +kernel
theorem dX6_settle_148 : decode cX6_settle 148 = .ok (.ifCond .ne 20, 3) := by decide +kernel
theorem dX6_settle_151 : decode cX6_settle 151 = .ok (.iload 6, 2) := by decide +kernel
theorem dX6_settle_153 : decode cX6_settle 153 = .ok (.iload 8, 2) := by decide +kernel
theorem dX6_settle_155 : decode cX6_settle 155 = .ok (.ior, 1) := by decide +kernel
theorem dX6_settle_156 : decode cX6_settle 156 = .ok (.i2l, 1) := by decide +kernel
theorem dX6_settle_157 : decode cX6_settle 157 = .ok (.aload 10, 2) := by decide +kernel
theorem dX6_settle_159 : decode cX6_settle 159 = .ok (.getfield 127, 3) := by decide +kernel
theorem dX6_settle_162 : decode cX6_settle 162 = .ok (.invokestatic 66, 3) := by decide +kernel
theorem dX6_settle_165 : decode cX6_settle 165 = .ok (.ifCond .eq 49, 3) := by decide +kernel
theorem dX6_settle_168 : decode cX6_settle 168 = .ok (.iload 8, 2) := by decide +kernel
theorem dX6_settle_170 : decode cX6_settle 170 = .ok (.aload_n 0, 1) := by decide +kernel
theorem dX6_settle_171 : decode cX6_settle 171 = .ok (.aload 10, 2) := by decide +kernel
theorem dX6_settle_173 : decode cX6_settle 173 = .ok (.aload_n 1, 1) := by decide +kernel
theorem dX6_settle_174 : decode cX6_settle 174 = .ok (.invokevirtual 130, 3) := by decide +kernel
theorem dX6_settle_177 : decode cX6_settle 177 = .ok (.ior, 1) := by decide +kernel
theorem dX6_settle_178 : decode cX6_settle 178 = .ok (.istore 8, 2) := by decide +kernel
theorem dX6_settle_180 : decode cX6_settle 180 = .ok (.iload 5, 2) := by decide +kernel
theorem dX6_settle_182 : decode cX6_settle 182 = .ok (.aload_n 1, 1) := by decide +kernel
theorem dX6_settle_183 : decode cX6_settle 183 = .ok (.aload 10, 2) := by decide +kernel
theorem dX6_settle_185 : decode cX6_settle 185 = .ok (.getfield 122, 3) := by decide +kernel
theorem dX6_settle_188 : decode cX6_settle 188 = .ok (.laload, 1) := by decide +kernel
theorem dX6_settle_189 : decode cX6_settle 189 = .ok (.lconst 0, 1) := by decide +kernel
theorem dX6_settle_190 : decode cX6_settle 190 = .ok (.lcmp, 1) := by decide +kernel
theorem dX6_settle_191 : decode cX6_settle 191 = .ok (.ifCond .eq 15, 3) := by decide +kernel
theorem dX6_settle_194 : decode cX6_settle 194 = .ok (.aload_n 1, 1) := by decide +kernel
theorem dX6_settle_195 : decode cX6_settle 195 = .ok (.aload 10, 2) := by decide +kernel
theorem dX6_settle_197 : decode cX6_settle 197 = .ok (.getfield 127, 3) := by decide +kernel
theorem dX6_settle_200 : decode cX6_settle 200 = .ok (.laload, 1) := by decide +kernel
theorem dX6_settle_201 : decode cX6_settle 201 = .ok (.lconst 0, 1) := by decide +kernel
theorem dX6_settle_202 : decode cX6_settle 202 = .ok (.lcmp, 1) := by decide +kernel
theorem dX6_settle_203 : decode cX6_settle 203 = .ok (.ifCond .ne 7, 3) := by decide +kernel
theorem dX6_settle_206 : decode cX6_settle 206 = .ok (.iconst 1, 1) := by decide +kernel
theorem dX6_settle_207 : decode cX6_settle 207 = .ok (.goto 4, 3) := by decide +kernel
theorem dX6_settle_210 : decode cX6_settle 210 = .ok (.iconst 0, 1) := by decide +kernel
theorem dX6_settle_211 : decode cX6_settle 211 = .ok (.ior, 1) := by decide +kernel
theorem dX6_settle_212 : decode cX6_settle 212 = .ok (.istore 5, 2) := by decide +kernel
theorem dX6_settle_214 : decode cX6_settle 214 = .ok (.iinc 9 1, 3) := by decide +kernel
theorem dX6_settle_217 : decode cX6_settle 217 = .ok (.goto (-126), 3) := by decide +kernel
theorem dX6_settle_220 : decode cX6_settle 220 = .ok (.iload 8, 2) := by decide +kernel
theorem dX6_settle_222 : decode cX6_settle 222 = .ok (.istore 6, 2) := by decide +kernel
theorem dX6_settle_224 : decode cX6_settle 224 = .ok (.iinc 7 1, 3) := by decide +kernel
theorem dX6_settle_227 : decode cX6_settle 227 = .ok (.goto (-165), 3) := by decide +kernel
theorem dX6_settle_230 : decode cX6_settle 230 = .ok (.iload 5, 2) := by decide +kernel
theorem dX6_settle_232 : decode cX6_settle 232 = .ok (.ireturn, 1) := by decide +kernel
theorem dX6_sumOfCells_0 : decode cX6_sumOfCells 0 = .ok (.iconst 0, 1) := by decide +kernel
theorem dX6_sumOfCells_1 : decode cX6_sumOfCells 1 = .ok (.istore_n 1, 1) := by decide +kernel
theorem dX6_sumOfCells_2 : decode cX6_sumOfCells 2 = .ok (.iconst 0, 1) := by decide +kernel
theorem dX6_sumOfCells_3 : decode cX6_sumOfCells 3 = .ok (.istore_n 2, 1) := by decide +kernel
theorem dX6_sumOfCells_4 : decode cX6_sumOfCells 4 = .ok (.iload_n 2, 1) := by decide +kernel
theorem dX6_sumOfCells_5 : decode cX6_sumOfCells 5 = .ok (.aload_n 0, 1) := by decide +kernel
theorem dX6_sumOfCells_6 : decode cX6_sumOfCells 6 = .ok (.getfield 29, 3) := by decide +kernel
theorem dX6_sumOfCells_9 : decode cX6_sumOfCells 9 = .ok (.getfield 50, 3) := by decide +kernel
theorem dX6_sumOfCells_12 : decode cX6_sumOfCells 12 = .ok (.if_icmp .ge 21, 3) := by decide +kernel
theorem dX6_sumOfCells_15 : decode cX6_sumOfCells 15 = .ok (.iload_n 1, 1) := by decide +kernel
theorem dX6_sumOfCells_16 : decode cX6_sumOfCells 16 = .ok (.aload_n 0, 1) := by decide +kernel
theorem dX6_sumOfCells_17 : decode cX6_sumOfCells 17 = .ok (.getfield 9, 3) := by decide +kernel
theorem dX6_sumOfCells_20 : decode cX6_sumOfCells 20 = .ok (.iload_n 2, 1) := by decide +kernel
theorem dX6_sumOfCells_21 : decode cX6_sumOfCells 21 = .ok (.laload, 1) := by decide +kernel
theorem dX6_sumOfCells_22 : decode cX6_sumOfCells 22 = .ok (.invokestatic 54, 3) := by decide +kernel
theorem dX6_sumOfCells_25 : decode cX6_sumOfCells 25 = .ok (.iadd, 1) := by decide +kernel
theorem dX6_sumOfCells_26 : decode cX6_sumOfCells 26 = .ok (.istore_n 1, 1) := by decide +kernel
theorem dX6_sumOfCells_27 : decode cX6_sumOfCells 27 = .ok (.iinc 2 1, 3) := by decide +kernel
theorem dX6_sumOfCells_30 : decode cX6_sumOfCells 30 = .ok (.goto (-26), 3) := by decide +kernel
theorem dX6_sumOfCells_33 : decode cX6_sumOfCells 33 = .ok (.iload_n 1, 1) := by decide +kernel
theorem dX6_sumOfCells_34 : decode cX6_sumOfCells 34 = .ok (.ireturn, 1) := by decide +kernel
theorem dX6_supported_0 : decode cX6_supported 0 = .ok (.lconst 0, 1) := by decide +kernel
theorem dX6_supported_1 : decode cX6_supported 1 = .ok (.lstore 7, 2) := by decide +kernel
theorem dX6_supported_3 : decode cX6_supported 3 = .ok (.lload_n 3, 1) := by decide +kernel
theorem dX6_supported_4 : decode cX6_supported 4 = .ok (.lstore 9, 2) := by decide +kernel
theorem dX6_supported_6 : decode cX6_supported 6 = .ok (.lload 9, 2) := by decide +kernel
theorem dX6_supported_8 : decode cX6_supported 8 = .ok (.lconst 0, 1) := by decide +kernel
theorem dX6_supported_9 : decode cX6_supported 9 = .ok (.lcmp, 1) := by decide +kernel
theorem dX6_supported_10 : decode cX6_supported 10 = .ok (.ifCond .eq 55, 3) := by decide +kernel
theorem dX6_supported_13 : decode cX6_supported 13 = .ok (.lload 7, 2) := by decide +kernel
theorem dX6_supported_15 : decode cX6_supported 15 = .ok (.lload 5, 2) := by decide +kernel
theorem dX6_supported_17 : decode cX6_supported 17 = .ok (.lcmp, 1) := by decide +kernel
theorem dX6_supported_18 : decode cX6_supported 18 = .ok (.ifCond .eq 47, 3) := by decide +kernel
theorem dX6_supported_21 : decode cX6_supported 21 = .ok (.lload 9, 2) := by decide +kernel
theorem dX6_supported_23 : decode cX6_supported 23 = .ok (.lload 9, 2) := by decide +kernel
theorem dX6_supported_25 : decode cX6_supported 25 = .ok (.lneg, 1) := by decide +kernel
theorem dX6_supported_26 : decode cX6_supported 26 = .ok (.land, 1) := by decide +kernel
theorem dX6_supported_27 : decode cX6_supported 27 = .ok (.lconst 1, 1) := by decide +kernel
theorem dX6_supported_28 : decode cX6_supported 28 = .ok (.lsub, 1) := by decide +kernel
theorem dX6_supported_29 : decode cX6_supported 29 = .ok (.invokestatic 54, 3) := by decide +kernel
theorem dX6_supported_32 : decode cX6_supported 32 = .ok (.istore 11, 2) := by decide +kernel
theorem dX6_supported_34 : decode cX6_supported 34 = .ok (.lload 7, 2) := by decide +kernel
theorem dX6_supported_36 : decode cX6_supported 36 = .ok (.aload_n 0, 1) := by decide +kernel
theorem dX6_supported_37 : decode cX6_supported 37 = .ok (.getfield 33, 3) := by decide +kernel
theorem dX6_supported_40 : decode cX6_supported 40 = .ok (.aload_n 1, 1) := by decide +kernel
theorem dX6_supported_41 : decode cX6_supported 41 = .ok (.iload_n 2, 1) := by decide +kernel
theorem dX6_supported_42 : decode cX6_supported 42 = .ok (.iload 11, 2) := by decide +kernel
theorem dX6_supported_44 : decode cX6_supported 44 = .ok (.invokevirtual 138, 3) := by decide +kernel
theorem dX6_supported_47 : decode cX6_supported 47 = .ok (.lload 5, 2) := by decide +kernel
theorem dX6_supported_49 : decode cX6_supported 49 = .ok (.land, 1) := by decide +kernel
theorem dX6_supported_50 : decode cX6_supported 50 = .ok (.lor, 1) := by decide +kernel
theorem dX6_supported_51 : decode cX6_supported 51 = .ok (.lstore 7, 2) := by decide +kernel
theorem dX6_supported_53 : decode cX6_supported 53 = .ok (.lload 9, 2) := by decide +kernel
theorem dX6_supported_55 : decode cX6_supported 55 = .ok (.lload 9, 2) := by decide +kernel
theorem dX6_supported_57 : decode cX6_supported 57 = .ok (.lconst 1, 1) := by decide +kernel
theorem dX6_supported_58 : decode cX6_supported 58 = .ok (.lsub, 1) := by decide +kernel
theorem dX6_supported_59 : decode cX6_supported 59 = .ok (.land, 1) := by decide +kernel
theorem dX6_supported_60 : decode cX6_supported 60 = .ok (.lstore 9, 2) := by decide +kernel
theorem dX6_supported_62 : decode cX6_supported 62 = .ok (.goto (-56), 3) := by decide +kernel
theorem dX6_supported_65 : decode cX6_supported 65 = .ok (.lload 7, 2) := by decide +kernel
theorem dX6_supported_67 : decode cX6_supported 67 = .ok (.lreturn, 1) := by decide +kernel
theorem dX6_suspects_0 : decode cX6_suspects 0 = .ok (.iconst 0, 1) := by decide +kernel
theorem dX6_suspects_1 : decode cX6_suspects 1 = .ok (.istore_n 1, 1) := by decide +kernel
theorem dX6_suspects_2 : decode cX6_suspects 2 = .ok (.iconst 0, 1) := by decide +kernel
theorem dX6_suspects_3 : decode cX6_suspects 3 = .ok (.istore_n 2, 1) := by decide +kernel
theorem dX6_suspects_4 : decode cX6_suspects 4 = .ok (.iload_n 2, 1) := by decide +kernel
theorem dX6_suspects_5 : decode cX6_suspects 5 = .ok (.aload_n 0, 1) := by decide +kernel
theorem dX6_suspects_6 : decode cX6_suspects 6 = .ok (.getfield 29, 3) := by decide +kernel
theorem dX6_suspects_9 : decode cX6_suspects 9 = .ok (.getfield 50, 3) := by decide +kernel
theorem dX6_suspects_12 : decode cX6_suspects 12 = .ok (.if_icmp .ge 46, 3) := by decide +kernel
theorem dX6_suspects_15 : decode cX6_suspects 15 = .ok (.aload_n 0, 1) := by decide +kernel
theorem dX6_suspects_16 : decode cX6_suspects 16 = .ok (.getfield 29, 3) := by decide +kernel
theorem dX6_suspects_19 : decode cX6_suspects 19 = .ok (.getfield 103, 3) := by decide +kernel
theorem dX6_suspects_22 : decode cX6_suspects 22 = .ok (.iload_n 2, 1) := by decide +kernel
theorem dX6_suspects_23 : decode cX6_suspects 23 = .ok (.aaload, 1) := by decide +kernel
theorem dX6_suspects_24 : decode cX6_suspects 24 = .ok (.getfield 107, 3) := by decide +kernel
theorem dX6_suspects_27 : decode cX6_suspects 27 = .ok (.iconst 2, 1) := by decide +kernel
theorem dX6_suspects_28 : decode cX6_suspects 28 = .ok (.if_icmp .eq 24, 3) := by decide +kernel
theorem dX6_suspects_31 : decode cX6_suspects 31 = .ok (.aload_n 0, 1) := by decide +kernel
theorem dX6_suspects_32 : decode cX6_suspects 32 = .ok (.getfield 29, 3) := by decide +kernel
theorem dX6_suspects_35 : decode cX6_suspects 35 = .ok (.getfield 112, 3) := by decide +kernel
theorem dX6_suspects_38 : decode cX6_suspects 38 = .ok (.i2l, 1) := by decide +kernel
theorem dX6_suspects_39 : decode cX6_suspects 39 = .ok (.iload_n 2, 1) := by decide +kernel
theorem dX6_suspects_40 : decode cX6_suspects 40 = .ok (.invokestatic 66, 3) := by decide +kernel
theorem dX6_suspects_43 : decode cX6_suspects 43 = .ok (.ifCond .ne 9, 3) := by decide +kernel
theorem dX6_suspects_46 : decode cX6_suspects 46 = .ok (.iload_n 1, 1) := by decide +kernel
theorem dX6_suspects_47 : decode cX6_suspects 47 = .ok (.iconst 1, 1) := by decide +kernel
theorem dX6_suspects_48 : decode cX6_suspects 48 = .ok (.iload_n 2, 1) := by decide +kernel
theorem dX6_suspects_49 : decode cX6_suspects 49 = .ok (.ishl, 1) := by decide +kernel
theorem dX6_suspects_50 : decode cX6_suspects 50 = .ok (.ior, 1) := by decide +kernel
theorem dX6_suspects_51 : decode cX6_suspects 51 = .ok (.istore_n 1, 1) := by decide +kernel
theorem dX6_suspects_52 : decode cX6_suspects 52 = .ok (.iinc 2 1, 3) := by decide +kernel
theorem dX6_suspects_55 : decode cX6_suspects 55 = .ok (.goto (-51), 3) := by decide +kernel
theorem dX6_suspects_58 : decode cX6_suspects 58 = .ok (.iload_n 1, 1) := by decide +kernel
theorem dX6_suspects_59 : decode cX6_suspects 59 = .ok (.ireturn, 1) := by decide +kernel
theorem dX6_thingsOnOneCell_0 : decode cX6_thingsOnOneCell 0 = .ok (.iconst 0, 1) := by decide +kernel
theorem dX6_thingsOnOneCell_1 : decode cX6_thingsOnOneCell 1 = .ok (.istore_n 1, 1) := by decide +kernel
theorem dX6_thingsOnOneCell_2 : decode cX6_thingsOnOneCell 2 = .ok (.iconst 0, 1) := by decide +kernel
theorem dX6_thingsOnOneCell_3 : decode cX6_thingsOnOneCell 3 = .ok (.istore_n 2, 1) := by decide +kernel
theorem dX6_thingsOnOneCell_4 : decode cX6_thingsOnOneCell 4 = .ok (.iload_n 2, 1) := by decide +kernel
theorem dX6_thingsOnOneCell_5 : decode cX6_thingsOnOneCell 5 = .ok (.aload_n 0, 1) := by decide +kernel
theorem dX6_thingsOnOneCell_6 : decode cX6_thingsOnOneCell 6 = .ok (.getfield 29, 3) := by decide +kernel
theorem dX6_thingsOnOneCell_9 : decode cX6_thingsOnOneCell 9 = .ok (.getfield 50, 3) := by decide +kernel
theorem dX6_thingsOnOneCell_12 : decode cX6_thingsOnOneCell 12 = .ok (.if_icmp .ge 30, 3) := by decide +kernel
theorem dX6_thingsOnOneCell_15 : decode cX6_thingsOnOneCell 15 = .ok (.iload_n 1, 1) := by decide +kernel
theorem dX6_thingsOnOneCell_16 : decode cX6_thingsOnOneCell 16 = .ok (.aload_n 0, 1) := by decide +kernel
theorem dX6_thingsOnOneCell_17 : decode cX6_thingsOnOneCell 17 = .ok (.getfield 9, 3) := by decide +kernel
theorem dX6_thingsOnOneCell_20 : decode cX6_thingsOnOneCell 20 = .ok (.iload_n 2, 1) := by decide +kernel
theorem dX6_thingsOnOneCell_21 : decode cX6_thingsOnOneCell 21 = .ok (.laload, 1) := by decide +kernel
theorem dX6_thingsOnOneCell_22 : decode cX6_thingsOnOneCell 22 = .ok (.invokestatic 54, 3) := by decide +kernel
theorem dX6_thingsOnOneCell_25 : decode cX6_thingsOnOneCell 25 = .ok (.iconst 1, 1) := by decide +kernel
theorem dX6_thingsOnOneCell_26 : decode cX6_thingsOnOneCell 26 = .ok (.if_icmp .ne 7, 3) := by decide +kernel
theorem dX6_thingsOnOneCell_29 : decode cX6_thingsOnOneCell 29 = .ok (.iconst 1, 1) := by decide +kernel
theorem dX6_thingsOnOneCell_30 : decode cX6_thingsOnOneCell 30 = .ok (.goto 4, 3) := by decide +kernel
theorem dX6_thingsOnOneCell_33 : decode cX6_thingsOnOneCell 33 = .ok (.iconst 0, 1) := by decide +kernel
theorem dX6_thingsOnOneCell_34 : decode cX6_thingsOnOneCell 34 = .ok (.iadd, 1) := by decide +kernel
theorem dX6_thingsOnOneCell_35 : decode cX6_thingsOnOneCell 35 = .ok (.istore_n 1, 1) := by decide +kernel
theorem dX6_thingsOnOneCell_36 : decode cX6_thingsOnOneCell 36 = .ok (.iinc 2 1, 3) := by decide +kernel
theorem dX6_thingsOnOneCell_39 : decode cX6_thingsOnOneCell 39 = .ok (.goto (-35), 3) := by decide +kernel
theorem dX6_thingsOnOneCell_42 : decode cX6_thingsOnOneCell 42 = .ok (.iload_n 1, 1) := by decide +kernel
theorem dX6_thingsOnOneCell_43 : decode cX6_thingsOnOneCell 43 = .ok (.ireturn, 1) := by decide +kernel
theorem dX7_bestAsked_0 : decode cX7_bestAsked 0 = .ok (.iconst 0, 1) := by decide +kernel
theorem dX7_bestAsked_1 : decode cX7_bestAsked 1 = .ok (.istore_n 1, 1) := by decide +kernel
theorem dX7_bestAsked_2 : decode cX7_bestAsked 2 = .ok (.aload_n 0, 1) := by decide +kernel
theorem dX7_bestAsked_3 : decode cX7_bestAsked 3 = .ok (.iconst 0, 1) := by decide +kernel
theorem dX7_bestAsked_4 : decode cX7_bestAsked 4 = .ok (.invokevirtual 108, 3) := by decide +kernel
theorem dX7_bestAsked_7 : decode cX7_bestAsked 7 = .ok (.istore_n 2, 1) := by decide +kernel
theorem dX7_bestAsked_8 : decode cX7_bestAsked 8 = .ok (.iconst 1, 1) := by decide +kernel
theorem dX7_bestAsked_9 : decode cX7_bestAsked 9 = .ok (.istore_n 3, 1) := by decide +kernel
theorem dX7_bestAsked_10 : decode cX7_bestAsked 10 = .ok (.iload_n 3, 1) := by decide +kernel
theorem dX7_bestAsked_11 : decode cX7_bestAsked 11 = .ok (.aload_n 0, 1) := by decide +kernel
theorem dX7_bestAsked_12 : decode cX7_bestAsked 12 = .ok (.getfield 73, 3) := by decide +kernel
theorem dX7_bestAsked_15 : decode cX7_bestAsked 15 = .ok (.if_icmp .ge 27, 3) := by decide +kernel
theorem dX7_bestAsked_18 : decode cX7_bestAsked 18 = .ok (.aload_n 0, 1) := by decide +kernel
theorem dX7_bestAsked_19 : decode cX7_bestAsked 19 = .ok (.iload_n 3, 1) := by decide +kernel
theorem dX7_bestAsked_20 : decode cX7_bestAsked 20 = .ok (.invokevirtual 108, 3) := by decide +kernel
theorem dX7_bestAsked_23 : decode cX7_bestAsked 23 = .ok (.istore 4, 2) := by decide +kernel
theorem dX7_bestAsked_25 : decode cX7_bestAsked 25 = .ok (.iload 4, 2) := by decide +kernel
theorem dX7_bestAsked_27 : decode cX7_bestAsked 27 = .ok (.iload_n 2, 1) := by decide +kernel
theorem dX7_bestAsked_28 : decode cX7_bestAsked 28 = .ok (.if_icmp .ge 8, 3) := by decide +kernel
theorem dX7_bestAsked_31 : decode cX7_bestAsked 31 = .ok (.iload_n 3, 1) := by decide +kernel
theorem dX7_bestAsked_32 : decode cX7_bestAsked 32 = .ok (.istore_n 1, 1) := by decide +kernel
theorem dX7_bestAsked_33 : decode cX7_bestAsked 33 = .ok (.iload 4, 2) := by decide +kernel
theorem dX7_bestAsked_35 : decode cX7_bestAsked 35 = .ok (.istore_n 2, 1) := by decide +kernel
theorem dX7_bestAsked_36 : decode cX7_bestAsked 36 = .ok (.iinc 3 1, 3) := by decide +kernel
theorem dX7_bestAsked_39 : decode cX7_bestAsked 39 = .ok (.goto (-29), 3) := by decide +kernel
theorem dX7_bestAsked_42 : decode cX7_bestAsked 42 = .ok (.iload_n 1, 1) := by decide +kernel
theorem dX7_bestAsked_43 : decode cX7_bestAsked 43 = .ok (.ireturn, 1) := by decide +kernel
theorem dX7_bestBetween_0 : decode cX7_bestBetween 0 = .ok (.aload_n 0, 1) := by decide +kernel
theorem dX7_bestBetween_1 : decode cX7_bestBetween 1 = .ok (.getfield 89, 3) := by decide +kernel
theorem dX7_bestBetween_4 : decode cX7_bestBetween 4 = .ok (.ifCond .ne 12, 3) := by decide +kernel
theorem dX7_bestBetween_7 : decode cX7_bestBetween 7 = .ok (.aload_n 0, 1) := by decide +kernel
theorem dX7_bestBetween_8 : decode cX7_bestBetween 8 = .ok (.invokevirtual 111, 3) := by decide +kernel
theorem dX7_bestBetween_11 : decode cX7_bestBetween 11 = .ok (.aload_n 0, 1) := by decide +kernel
theorem dX7_bestBetween_12 : decode cX7_bestBetween 12 = .ok (.iconst 1, 1) := by decide +kernel
theorem dX7_bestBetween_13 : decode cX7_bestBetween 13 = .ok (.putfield 89, 3) := by decide +kernel
theorem dX7_bestBetween_16 : decode cX7_bestBetween 16 = .ok (.aload_n 0, 1) := by decide +kernel
theorem dX7_bestBetween_17 : decode cX7_bestBetween 17 = .ok (.getfield 40, 3) := by decide +kernel
theorem dX7_bestBetween_20 : decode cX7_bestBetween 20 = .ok (.iload_n 1, 1) := by decide +kernel
theorem dX7_bestBetween_21 : decode cX7_bestBetween 21 = .ok (.iaload, 1) := by decide +kernel
theorem dX7_bestBetween_22 : decode cX7_bestBetween 22 = .ok (.ireturn, 1) := by decide +kernel
theorem dX7_cellIn_0 : decode cX7_cellIn 0 = .ok (.aload_n 0, 1) := by decide +kernel
theorem dX7_cellIn_1 : decode cX7_cellIn 1 = .ok (.getfield 20, 3) := by decide +kernel
theorem dX7_cellIn_4 : decode cX7_cellIn 4 = .ok (.iload_n 1, 1) := by decide +kernel
theorem dX7_cellIn_5 : decode cX7_cellIn 5 = .ok (.laload, 1) := by decide +kernel
theorem dX7_cellIn_6 : decode cX7_cellIn 6 = .ok (.bipush 6, 2) := by decide +kernel
theorem dX7_cellIn_8 : decode cX7_cellIn 8 = .ok (.iload_n 2, 1) := by decide +kernel
theorem dX7_cellIn_9 : decode cX7_cellIn 9 = .ok (.imul, 1) := by decide +kernel
theorem dX7_cellIn_10 : decode cX7_cellIn 10 = .ok (.lushr, 1) := by decide +kernel
theorem dX7_cellIn_11 : decode cX7_cellIn 11 = .ok (.l2i, 1) := by decide +kernel
theorem dX7_cellIn_12 : decode cX7_cellIn 12 = .ok (.bipush 63, 2) := by decide +kernel
theorem dX7_cellIn_14 : decode cX7_cellIn 14 = .ok (.iand, 1) := by decide +kernel
theorem dX7_cellIn_15 : decode cX7_cellIn 15 = .ok (.ireturn, 1) := by decide +kernel
theorem dX7_cellsOfStrangers_0 : decode cX7_cellsOfStrangers 0 = .ok (.lconst 0, 1) := by decide +kernel
theorem dX7_cellsOfStrangers_1 : decode cX7_cellsOfStrangers 1 = .ok (.lstore_n 1, 1) := by decide +kernel
theorem dX7_cellsOfStrangers_2 : decode cX7_cellsOfStrangers 2 = .ok (.iconst 0, 1) := by decide +kernel
theorem dX7_cellsOfStrangers_3 : decode cX7_cellsOfStrangers 3 = .ok (.istore_n 3, 1) := by decide +kernel
theorem dX7_cellsOfStrangers_4 : decode cX7_cellsOfStrangers 4 = .ok (.iload_n 3, 1) := by decide +kernel
theorem dX7_cellsOfStrangers_5 : decode cX7_cellsOfStrangers 5 = .ok (.aload_n 0, 1) := by decide +kernel
theorem dX7_cellsOfStrangers_6 : decode cX7_cellsOfStrangers 6 = .ok (.getfield 46, 3) := by decide +kernel
theorem dX7_cellsOfStrangers_9 : decode cX7_cellsOfStrangers 9 = .ok (.getfield 128, 3) := by decide +kernel
theorem dX7_cellsOfStrangers_12 : decode cX7_cellsOfStrangers 12 = .ok (.if_icmp .ge 54, 3) := by decide +kernel
theorem dX7_cellsOfStrangers_15 : decode cX7_cellsOfStrangers 15 = .ok (.aload_n 0, 1) := by decide +kernel
theorem dX7_cellsOfStrangers_16 : decode cX7_cellsOfStrangers 16 = .ok (.getfield 46, 3) := by decide +kernel
theorem dX7_cellsOfStrangers_19 : decode cX7_cellsOfStrangers 19 = .ok (.getfield 163, 3) := by decide +kernel
theorem dX7_cellsOfStrangers_22 : decode cX7_cellsOfStrangers 22 = .ok (.iload_n 3, 1) := by decide +kernel
theorem dX7_cellsOfStrangers_23 : decode cX7_cellsOfStrangers 23 = .ok (.aaload, 1) := by decide +kernel
theorem dX7_cellsOfStrangers_24 : decode cX7_cellsOfStrangers 24 = .ok (.invokevirtual 167, 3) := by decide +kernel
theorem dX7_cellsOfStrangers_27 : decode cX7_cellsOfStrangers 27 = .ok (.ifCond .eq 33, 3) := by decide +kernel
theorem dX7_cellsOfStrangers_30 : decode cX7_cellsOfStrangers 30 = .ok (.aload_n 0, 1) := by decide +kernel
theorem dX7_cellsOfStrangers_31 : decode cX7_cellsOfStrangers 31 = .ok (.getfield 9, 3) := by decide +kernel
theorem dX7_cellsOfStrangers_34 : decode cX7_cellsOfStrangers 34 = .ok (.i2l, 1) := by decide +kernel
theorem dX7_cellsOfStrangers_35 : decode cX7_cellsOfStrangers 35 = .ok (.iload_n 3, 1) := by decide +kernel
theorem dX7_cellsOfStrangers_36 : decode cX7_cellsOfStrangers 36 = .ok (.invokestatic 58, 3) := by decide +kernel
theorem dX7_cellsOfStrangers_39 : decode cX7_cellsOfStrangers 39 = .ok (.ifCond .ne 21, 3) := by decide +kernel
theorem dX7_cellsOfStrangers_42 : decode cX7_cellsOfStrangers 42 = .ok (.lload_n 1, 1) := by decide +kernel
theorem dX7_cellsOfStrangers_43 : decode cX7_cellsOfStrangers 43 = .ok (.aload_n 0, 1) := by decide +kernel
theorem dX7_cellsOfStrangers_44 : decode cX7_cellsOfStrangers 44 = .ok (.getfield 46, 3) := by decide +kernel
theorem dX7_cellsOfStrangers_47 : decode cX7_cellsOfStrangers 47 = .ok (.getfield 163, 3) := by decide +kernel
theorem dX7_cellsOfStrangers_50 : decode cX7_cellsOfStrangers 50 = .ok (.iload_n 3, 1) := by decide +kernel
theorem dX7_cellsOfStrangers_51 : decode cX7_cellsOfStrangers 51 = .ok (.aaload, 1) := by decide +kernel
theorem dX7_cellsOfStrangers_52 : decode cX7_cellsOfStrangers 52 = .ok (.getfield 173, 3) := by decide +kernel
theorem dX7_cellsOfStrangers_55 : decode cX7_cellsOfStrangers 55 = .ok (.invokestatic 176, 3) := by decide +kernel
theorem dX7_cellsOfStrangers_58 : decode cX7_cellsOfStrangers 58 = .ok (.lor, 1) := by decide +kernel
theorem dX7_cellsOfStrangers_59 : decode cX7_cellsOfStrangers 59 = .ok (.lstore_n 1, 1) := by decide +kernel
theorem dX7_cellsOfStrangers_60 : decode cX7_cellsOfStrangers 60 = .ok (.iinc 3 1, 3) := by decide +kernel
theorem dX7_cellsOfStrangers_63 : decode cX7_cellsOfStrangers 63 = .ok (.goto (-59), 3) := by decide +kernel
theorem dX7_cellsOfStrangers_66 : decode cX7_cellsOfStrangers 66 = .ok (.lload_n 1, 1) := by decide +kernel
theorem dX7_cellsOfStrangers_67 : decode cX7_cellsOfStrangers 67 = .ok (.lreturn, 1) := by decide +kernel
theorem dX7_compare_0 : decode cX7_compare 0 = .ok (.aload_n 0, 1) := by decide +kernel
theorem dX7_compare_1 : decode cX7_compare 1 = .ok (.getfield 40, 3) := by decide +kernel
theorem dX7_compare_4 : decode cX7_compare 4 = .ok (.iconst 2, 1) := by decide +kernel
theorem dX7_compare_5 : decode cX7_compare 5 = .ok (.ldc 210, 2) := by decide +kernel
theorem dX7_compare_7 : decode cX7_compare 7 = .ok (.iastore, 1) := by decide +kernel
theorem dX7_compare_8 : decode cX7_compare 8 = .ok (.iconst 0, 1) := by decide +kernel
theorem dX7_compare_9 : decode cX7_compare 9 = .ok (.istore_n 1, 1) := by decide +kernel
theorem dX7_compare_10 : decode cX7_compare 10 = .ok (.iload_n 1, 1) := by decide +kernel
theorem dX7_compare_11 : decode cX7_compare 11 = .ok (.aload_n 0, 1) := by decide +kernel
theorem dX7_compare_12 : decode cX7_compare 12 = .ok (.getfield 73, 3) := by decide +kernel
theorem dX7_compare_15 : decode cX7_compare 15 = .ok (.if_icmp .ge 75, 3) := by decide +kernel
theorem dX7_compare_18 : decode cX7_compare 18 = .ok (.iload_n 1, 1) := by decide +kernel
theorem dX7_compare_19 : decode cX7_compare 19 = .ok (.iconst 1, 1) := by decide +kernel
theorem dX7_compare_20 : decode cX7_compare 20 = .ok (.iadd, 1) := by decide +kernel
theorem dX7_compare_21 : decode cX7_compare 21 = .ok (.istore_n 2, 1) := by decide +kernel
theorem dX7_compare_22 : decode cX7_compare 22 = .ok (.iload_n 2, 1) := by decide +kernel
theorem dX7_compare_23 : decode cX7_compare 23 = .ok (.aload_n 0, 1) := by decide +kernel
theorem dX7_compare_24 : decode cX7_compare 24 = .ok (.getfield 73, 3) := by decide +kernel
theorem dX7_compare_27 : decode cX7_compare 27 = .ok (.if_icmp .ge 57, 3) := by decide +kernel
theorem dX7_compare_30 : decode cX7_compare 30 = .ok (.aload_n 0, 1) := by decide +kernel
theorem dX7_compare_31 : decode cX7_compare 31 = .ok (.iload_n 1, 1) := by decide +kernel
theorem dX7_compare_32 : decode cX7_compare 32 = .ok (.iload_n 2, 1) := by decide +kernel
theorem dX7_compare_33 : decode cX7_compare 33 = .ok (.invokevirtual 211, 3) := by decide +kernel
theorem dX7_compare_36 : decode cX7_compare 36 = .ok (.istore_n 3, 1) := by decide +kernel
theorem dX7_compare_37 : decode cX7_compare 37 = .ok (.iload_n 3, 1) := by decide +kernel
theorem dX7_compare_38 : decode cX7_compare 38 = .ok (.aload_n 0, 1) := by decide +kernel
theorem dX7_compare_39 : decode cX7_compare 39 = .ok (.getfield 40, 3) := by decide +kernel
theorem dX7_compare_42 : decode cX7_compare 42 = .ok (.iconst 2, 1) := by decide +kernel
theorem dX7_compare_43 : decode cX7_compare 43 = .ok (.iaload, 1) := by decide +kernel
theorem dX7_compare_44 : decode cX7_compare 44 = .ok (.if_icmp .ge 34, 3) := by decide +kernel
theorem dX7_compare_47 : decode cX7_compare 47 = .ok (.aload_n 0, 1) := by decide +kernel
theorem dX7_compare_48 : decode cX7_compare 48 = .ok (.getfield 40, 3) := by decide +kernel
theorem dX7_compare_51 : decode cX7_compare 51 = .ok (.iconst 0, 1) := by decide +kernel
theorem dX7_compare_52 : decode cX7_compare 52 = .ok (.aload_n 0, 1) := by decide +kernel
theorem dX7_compare_53 : decode cX7_compare 53 = .ok (.getfield 15, 3) := by decide +kernel
theorem dX7_compare_56 : decode cX7_compare 56 = .ok (.iload_n 1, 1) := by decide +kernel
theorem dX7_compare_57 : decode cX7_compare 57 = .ok (.iaload, 1) := by decide +kernel
theorem dX7_compare_58 : decode cX7_compare 58 = .ok (.iastore, 1) := by decide +kernel
theorem dX7_compare_59 : decode cX7_compare 59 = .ok (.aload_n 0, 1) := by decide +kernel
theorem dX7_compare_60 : decode cX7_compare 60 = .ok (.getfield 40, 3) := by decide +kernel
theorem dX7_compare_63 : decode cX7_compare 63 = .ok (.iconst 1, 1) := by decide +kernel
theorem dX7_compare_64 : decode cX7_compare 64 = .ok (.aload_n 0, 1) := by decide +kernel
theorem dX7_compare_65 : decode cX7_compare 65 = .ok (.getfield 15, 3) := by decide +kernel
theorem dX7_compare_68 : decode cX7_compare 68 = .ok (.iload_n 2, 1) := by decide +kernel
theorem dX7_compare_69 : decode cX7_compare 69 = .ok (.iaload, 1) := by decide +kernel
theorem dX7_compare_70 : decode cX7_compare 70 = .ok (.iastore, 1) := by decide +kernel
theorem dX7_compare_71 : decode cX7_compare 71 = .ok (.aload_n 0, 1) := by decide +kernel
theorem dX7_compare_72 : decode cX7_compare 72 = .ok (.getfield 40, 3) := by decide +kernel
theorem dX7_compare_75 : decode cX7_compare 75 = .ok (.iconst 2, 1) := by decide +kernel
theorem dX7_compare_76 : decode cX7_compare 76 = .ok (.iload_n 3, 1) := by decide +kernel
theorem dX7_compare_77 : decode cX7_compare 77 = .ok (.iastore, 1) := by decide +kernel
theorem dX7_compare_78 : decode cX7_compare 78 = .ok (.iinc 2 1, 3) := by decide +kernel
theorem dX7_compare_81 : decode cX7_compare 81 = .ok (.goto (-59), 3) := by decide +kernel
theorem dX7_compare_84 : decode cX7_compare 84 = .ok (.iinc 1 1, 3) := by decide +kernel
theorem dX7_compare_87 : decode cX7_compare 87 = .ok (.goto (-77), 3) := by decide +kernel
theorem dX7_compare_90 : decode cX7_compare 90 = .ok (.return_, 1) := by decide +kernel
theorem dX7_count_0 : decode cX7_count 0 = .ok (.aload_n 0, 1) := by decide +kernel
theorem dX7_count_1 : decode cX7_count 1 = .ok (.getfield 86, 3) := by decide +kernel
theorem dX7_count_4 : decode cX7_count 4 = .ok (.ifCond .eq 4, 3) := by decide +kernel
theorem dX7_count_7 : decode cX7_count 7 = .ok (.return_, 1) := by decide +kernel
theorem dX7_count_8 : decode cX7_count 8 = .ok (.aload_n 0, 1) := by decide +kernel
theorem dX7_count_9 : decode cX7_count 9 = .ok (.iconst 1, 1) := by decide +kernel
theorem dX7_count_10 : decode cX7_count 10 = .ok (.putfield 86, 3) := by decide +kernel
theorem dX7_count_13 : decode cX7_count 13 = .ok (.iconst 0, 1) := by decide +kernel
theorem dX7_count_14 : decode cX7_count 14 = .ok (.istore_n 1, 1) := by decide +kernel
theorem dX7_count_15 : decode cX7_count 15 = .ok (.iload_n 1, 1) := by decide +kernel
theorem dX7_count_16 : decode cX7_count 16 = .ok (.aload_n 0, 1) := by decide +kernel
theorem dX7_count_17 : decode cX7_count 17 = .ok (.getfield 73, 3) := by decide +kernel
theorem dX7_count_20 : decode cX7_count 20 = .ok (.if_icmp .ge 52, 3) := by decide +kernel
theorem dX7_count_23 : decode cX7_count 23 = .ok (.aload_n 0, 1) := by decide +kernel
theorem dX7_count_24 : decode cX7_count 24 = .ok (.getfield 37, 3) := by decide +kernel
theorem dX7_count_27 : decode cX7_count 27 = .ok (.iload_n 1, 1) := by decide +kernel
theorem dX7_count_28 : decode cX7_count 28 = .ok (.aaload, 1) := by decide +kernel
theorem dX7_count_29 : decode cX7_count 29 = .ok (.iconst 0, 1) := by decide +kernel
theorem dX7_count_30 : decode cX7_count 30 = .ok (.invokestatic 204, 3) := by decide +kernel
theorem dX7_count_33 : decode cX7_count 33 = .ok (.iconst 0, 1) := by decide +kernel
theorem dX7_count_34 : decode cX7_count 34 = .ok (.istore_n 2, 1) := by decide +kernel
theorem dX7_count_35 : decode cX7_count 35 = .ok (.iload_n 2, 1) := by decide +kernel
theorem dX7_count_36 : decode cX7_count 36 = .ok (.aload_n 0, 1) := by decide +kernel
theorem dX7_count_37 : decode cX7_count 37 = .ok (.getfield 83, 3) := by decide +kernel
theorem dX7_count_40 : decode cX7_count 40 = .ok (.if_icmp .ge 26, 3) := by decide +kernel
theorem dX7_count_43 : decode cX7_count 43 = .ok (.aload_n 0, 1) := by decide +kernel
theorem dX7_count_44 : decode cX7_count 44 = .ok (.getfield 37, 3) := by decide +kernel
theorem dX7_count_47 : decode cX7_count 47 = .ok (.iload_n 1, 1) := by decide +kernel
theorem dX7_count_48 : decode cX7_count 48 = .ok (.aaload, 1) := by decide +kernel
theorem dX7_count_49 : decode cX7_count 49 = .ok (.aload_n 0, 1) := by decide +kernel
theorem dX7_count_50 : decode cX7_count 50 = .ok (.iload_n 2, 1) := by decide +kernel
theorem dX7_count_51 : decode cX7_count 51 = .ok (.iload_n 1, 1) := by decide +kernel
theorem dX7_count_52 : decode cX7_count 52 = .ok (.invokevirtual 114, 3) := by decide +kernel
theorem dX7_count_55 : decode cX7_count 55 = .ok (.dup2, 1) := by decide +kernel
theorem dX7_count_56 : decode cX7_count 56 = .ok (.iaload, 1) := by decide +kernel
theorem dX7_count_57 : decode cX7_count 57 = .ok (.iconst 1, 1) := by decide +kernel
theorem dX7_count_58 : decode cX7_count 58 = .ok (.iadd, 1) := by decide +kernel
theorem dX7_count_59 : decode cX7_count 59 = .ok (.iastore, 1) := by decide +kernel
theorem dX7_count_60 : decode cX7_count 60 = .ok (.iinc 2 1, 3) := by decide +kernel
theorem dX7_count_63 : decode cX7_count 63 = .ok (.goto (-28), 3) := by decide +kernel
theorem dX7_count_66 : decode cX7_count 66 = .ok (.iinc 1 1, 3) := by decide +kernel
theorem dX7_count_69 : decode cX7_count 69 = .ok (.goto (-54), 3) := by decide +kernel
theorem dX7_count_72 : decode cX7_count 72 = .ok (.return_, 1) := by decide +kernel
theorem dX7_forget_0 : decode cX7_forget 0 = .ok (.aload_n 0, 1) := by decide +kernel
theorem dX7_forget_1 : decode cX7_forget 1 = .ok (.iconst 0, 1) := by decide +kernel
theorem dX7_forget_2 : decode cX7_forget 2 = .ok (.putfield 9, 3) := by decide +kernel
theorem dX7_forget_5 : decode cX7_forget 5 = .ok (.return_, 1) := by decide +kernel
theorem dX7_goTogether_0 : decode cX7_goTogether 0 = .ok (.iconst 0, 1) := by decide +kernel
theorem dX7_goTogether_1 : decode cX7_goTogether 1 = .ok (.istore 5, 2) := by decide +kernel
theorem dX7_goTogether_3 : decode cX7_goTogether 3 = .ok (.iload 5, 2) := by decide +kernel
theorem dX7_goTogether_5 : decode cX7_goTogether 5 = .ok (.aload_n 0, 1) := by decide +kernel
theorem dX7_goTogether_6 : decode cX7_goTogether 6 = .ok (.getfield 83, 3) := by decide +kernel
theorem dX7_goTogether_9 : decode cX7_goTogether 9 = .ok (.if_icmp .ge 34, 3) := by decide +kernel
theorem dX7_goTogether_12 : decode cX7_goTogether 12 = .ok (.aload_n 0, 1) := by decide +kernel
theorem dX7_goTogether_13 : decode cX7_goTogether 13 = .ok (.iload 5, 2) := by decide +kernel
theorem dX7_goTogether_15 : decode cX7_goTogether 15 = .ok (.iload_n 1, 1) := by decide +kernel
theorem dX7_goTogether_16 : decode cX7_goTogether 16 = .ok (.invokevirtual 114, 3) := by decide +kernel
theorem dX7_goTogether_19 : decode cX7_goTogether 19 = .ok (.iload_n 2, 1) := by decide +kernel
theorem dX7_goTogether_20 : decode cX7_goTogether 20 = .ok (.if_icmp .ne 17, 3) := by decide +kernel
theorem dX7_goTogether_23 : decode cX7_goTogether 23 = .ok (.aload_n 0, 1) := by decide +kernel
theorem dX7_goTogether_24 : decode cX7_goTogether 24 = .ok (.iload 5, 2) := by decide +kernel
theorem dX7_goTogether_26 : decode cX7_goTogether 26 = .ok (.iload_n 3, 1) := by decide +kernel
theorem dX7_goTogether_27 : decode cX7_goTogether 27 = .ok (.invokevirtual 114, 3) := by decide +kernel
theorem dX7_goTogether_30 : decode cX7_goTogether 30 = .ok (.iload 4, 2) := by decide +kernel
theorem dX7_goTogether_32 : decode cX7_goTogether 32 = .ok (.if_icmp .ne 5, 3) := by decide +kernel
theorem dX7_goTogether_35 : decode cX7_goTogether 35 = .ok (.iconst 1, 1) := by decide +kernel
theorem dX7_goTogether_36 : decode cX7_goTogether 36 = .ok (.ireturn, 1) := by decide +kernel
theorem dX7_goTogether_37 : decode cX7_goTogether 37 = .ok (.iinc 5 1, 3) := by decide +kernel
theorem dX7_goTogether_40 : decode cX7_goTogether 40 = .ok (.goto (-37), 3) := by decide +kernel
theorem dX7_goTogether_43 : decode cX7_goTogether 43 = .ok (.iconst 0, 1) := by decide +kernel
theorem dX7_goTogether_44 : decode cX7_goTogether 44 = .ok (.ireturn, 1) := by decide +kernel
theorem dX7_init_0 : decode cX7_init 0 = .ok (.aload_n 0, 1) := by decide +kernel
theorem dX7_init_1 : decode cX7_init 1 = .ok (.invokespecial 3, 3) := by decide +kernel
theorem dX7_init_4 : decode cX7_init 4 = .ok (.aload_n 0, 1) := by decide +kernel
theorem dX7_init_5 : decode cX7_init 5 = .ok (.iconst 0, 1) := by decide +kernel
theorem dX7_init_6 : decode cX7_init 6 = .ok (.putfield 9, 3) := by decide +kernel
theorem dX7_init_9 : decode cX7_init 9 = .ok (.aload_n 0, 1) := by decide +kernel
theorem dX7_init_10 : decode cX7_init 10 = .ok (.bipush 9, 2) := by decide +kernel
theorem dX7_init_12 : decode cX7_init 12 = .ok (.newarray .int, 2) := by decide +kernel
theorem dX7_init_14 : decode cX7_init 14 = .ok (.putfield 15, 3) := by decide +kernel
theorem dX7_init_17 : decode cX7_init 17 = .ok (.aload_n 0, 1) := by decide +kernel
theorem dX7_init_18 : decode cX7_init 18 = .ok (.ldc 19, 2) := by decide +kernel
theorem dX7_init_20 : decode cX7_init 20 = .ok (.newarray .long, 2) := by decide +kernel
theorem dX7_init_22 : decode cX7_init 22 = .ok (.putfield 20, 3) := by decide +kernel
theorem dX7_init_25 : decode cX7_init 25 = .ok (.aload_n 0, 1) := by decide +kernel
theorem dX7_init_26 : decode cX7_init 26 = .ok (.bipush 9, 2) := by decide +kernel
theorem dX7_init_28 : decode cX7_init 28 = .ok (.newarray .long, 2) := by decide +kernel
theorem dX7_init_30 : decode cX7_init 30 = .ok (.putfield 24, 3) := by decide +kernel
theorem dX7_init_33 : decode cX7_init 33 = .ok (.aload_n 0, 1) := by decide +kernel
theorem dX7_init_34 : decode cX7_init 34 = .ok (.bipush 81, 2) := by decide +kernel
theorem dX7_init_36 : decode cX7_init 36 = .ok (.bipush 64, 2) := by decide +kernel
theorem dX7_init_38 : decode cX7_init 38 = .ok (.multianewarray 27 2, 4) := by decide +kernel
theorem dX7_init_42 : decode cX7_init 42 = .ok (.putfield 29, 3) := by decide +kernel
theorem dX7_init_45 : decode cX7_init 45 = .ok (.aload_n 0, 1) := by decide +kernel
theorem dX7_init_46 : decode cX7_init 46 = .ok (.bipush 9, 2) := by decide +kernel
theorem dX7_init_48 : decode cX7_init 48 = .ok (.newarray .int, 2) := by decide +kernel
theorem dX7_init_50 : decode cX7_init 50 = .ok (.putfield 32, 3) := by decide +kernel
theorem dX7_init_53 : decode cX7_init 53 = .ok (.aload_n 0, 1) := by decide +kernel
theorem dX7_init_54 : decode cX7_init 54 = .ok (.bipush 9, 2) := by decide +kernel
theorem dX7_init_56 : decode cX7_init 56 = .ok (.bipush 64, 2) := by decide +kernel
theorem dX7_init_58 : decode cX7_init 58 = .ok (.multianewarray 35 2, 4) := by decide +kernel
theorem dX7_init_62 : decode cX7_init 62 = .ok (.putfield 37, 3) := by decide +kernel
theorem dX7_init_65 : decode cX7_init 65 = .ok (.aload_n 0, 1) := by decide +kernel
theorem dX7_init_66 : decode cX7_init 66 = .ok (.iconst 3, 1) := by decide +kernel
theorem dX7_init_67 : decode cX7_init 67 = .ok (.newarray .int, 2) := by decide +kernel
theorem dX7_init_69 : decode cX7_init 69 = .ok (.putfield 40, 3) := by decide +kernel
theorem dX7_init_72 : decode cX7_init 72 = .ok (.aload_n 0, 1) := by decide +kernel
theorem dX7_init_73 : decode cX7_init 73 = .ok (.bipush 99, 2) := by decide +kernel
theorem dX7_init_75 : decode cX7_init 75 = .ok (.newarray .int, 2) := by decide +kernel
theorem dX7_init_77 : decode cX7_init 77 = .ok (.putfield 43, 3) := by decide +kernel
theorem dX7_init_80 : decode cX7_init 80 = .ok (.aload_n 0, 1) := by decide +kernel
theorem dX7_init_81 : decode cX7_init 81 = .ok (.aload_n 1, 1) := by decide +kernel
theorem dX7_init_82 : decode cX7_init 82 = .ok (.putfield 46, 3) := by decide +kernel
theorem dX7_init_85 : decode cX7_init 85 = .ok (.aload_n 0, 1) := by decide +kernel
theorem dX7_init_86 : decode cX7_init 86 = .ok (.aload_n 2, 1) := by decide +kernel
theorem dX7_init_87 : decode cX7_init 87 = .ok (.putfield 50, 3) := by decide +kernel
theorem dX7_init_90 : decode cX7_init 90 = .ok (.aload_n 0, 1) := by decide +kernel
theorem dX7_init_91 : decode cX7_init 91 = .ok (.aload_n 3, 1) := by decide +kernel
theorem dX7_init_92 : decode cX7_init 92 = .ok (.putfield 54, 3) := by decide +kernel
theorem dX7_init_95 : decode cX7_init 95 = .ok (.return_, 1) := by decide +kernel
theorem dX7_isPossible_0 : decode cX7_isPossible 0 = .ok (.aload_n 0, 1) := by decide +kernel
theorem dX7_isPossible_1 : decode cX7_isPossible 1 = .ok (.invokevirtual 99, 3) := by decide +kernel
theorem dX7_isPossible_4 : decode cX7_isPossible 4 = .ok (.aload_n 0, 1) := by decide +kernel
theorem dX7_isPossible_5 : decode cX7_isPossible 5 = .ok (.getfield 37, 3) := by decide +kernel
theorem dX7_isPossible_8 : decode cX7_isPossible 8 = .ok (.iload_n 1, 1) := by decide +kernel
theorem dX7_isPossible_9 : decode cX7_isPossible 9 = .ok (.aaload, 1) := by decide +kernel
theorem dX7_isPossible_10 : decode cX7_isPossible 10 = .ok (.iload_n 2, 1) := by decide +kernel
theorem dX7_isPossible_11 : decode cX7_isPossible 11 = .ok (.iaload, 1) := by decide +kernel
theorem dX7_isPossible_12 : decode cX7_isPossible 12 = .ok (.ifCond .le 7, 3) := by decide +kernel
theorem dX7_isPossible_15 : decode cX7_isPossible 15 = .ok (.iconst 1, 1) := by decide +kernel
theorem dX7_isPossible_16 : decode cX7_isPossible 16 = .ok (.goto 4, 3) := by decide +kernel
theorem dX7_isPossible_19 : decode cX7_isPossible 19 = .ok (.iconst 0, 1) := by decide +kernel
theorem dX7_isPossible_20 : decode cX7_isPossible 20 = .ok (.ireturn, 1) := by decide +kernel
theorem dX7_look_0 : decode cX7_look 0 = .ok (.aload_n 0, 1) := by decide +kernel
theorem dX7_look_1 : decode cX7_look 1 = .ok (.getfield 9, 3) := by decide +kernel
theorem dX7_look_4 : decode cX7_look 4 = .ok (.i2l, 1) := by decide +kernel
theorem dX7_look_5 : decode cX7_look 5 = .ok (.iload_n 1, 1) := by decide +kernel
theorem dX7_look_6 : decode cX7_look 6 = .ok (.invokestatic 58, 3) := by decide +kernel
theorem dX7_look_9 : decode cX7_look 9 = .ok (.ifCond .eq 4, 3) := by decide +kernel
theorem dX7_look_12 : decode cX7_look 12 = .ok (.return_, 1) := by decide +kernel
theorem dX7_look_13 : decode cX7_look 13 = .ok (.aload_n 0, 1) := by decide +kernel
theorem dX7_look_14 : decode cX7_look 14 = .ok (.aload_n 0, 1) := by decide +kernel
theorem dX7_look_15 : decode cX7_look 15 = .ok (.getfield 46, 3) := by decide +kernel
theorem dX7_look_18 : decode cX7_look 18 = .ok (.iload_n 1, 1) := by decide +kernel
theorem dX7_look_19 : decode cX7_look 19 = .ok (.invokevirtual 62, 3) := by decide +kernel
theorem dX7_look_22 : decode cX7_look 22 = .ok (.putfield 9, 3) := by decide +kernel
theorem dX7_look_25 : decode cX7_look 25 = .ok (.aload_n 0, 1) := by decide +kernel
theorem dX7_look_26 : decode cX7_look 26 = .ok (.aload_n 0, 1) := by decide +kernel
theorem dX7_look_27 : decode cX7_look 27 = .ok (.getfield 9, 3) := by decide +kernel
theorem dX7_look_30 : decode cX7_look 30 = .ok (.invokestatic 68, 3) := by decide +kernel
theorem dX7_look_33 : decode cX7_look 33 = .ok (.putfield 73, 3) := by decide +kernel
theorem dX7_look_36 : decode cX7_look 36 = .ok (.aload_n 0, 1) := by decide +kernel
theorem dX7_look_37 : decode cX7_look 37 = .ok (.aload_n 0, 1) := by decide +kernel
theorem dX7_look_38 : decode cX7_look 38 = .ok (.getfield 73, 3) := by decide +kernel
theorem dX7_look_41 : decode cX7_look 41 = .ok (.bipush 9, 2) := by decide +kernel
theorem dX7_look_43 : decode cX7_look 43 = .ok (.if_icmp .le 7, 3) := by decide +kernel
theorem dX7_look_46 : decode cX7_look 46 = .ok (.iconst 1, 1) := by decide +kernel
theorem dX7_look_47 : decode cX7_look 47 = .ok (.goto 4, 3) := by decide +kernel
theorem dX7_look_50 : decode cX7_look 50 = .ok (.iconst 0, 1) := by decide +kernel
theorem dX7_look_51 : decode cX7_look 51 = .ok (.putfield 76, 3) := by decide +kernel
theorem dX7_look_54 : decode cX7_look 54 = .ok (.aload_n 0, 1) := by decide +kernel
theorem dX7_look_55 : decode cX7_look 55 = .ok (.iconst 0, 1) := by decide +kernel
theorem dX7_look_56 : decode cX7_look 56 = .ok (.putfield 80, 3) := by decide +kernel
theorem dX7_look_59 : decode cX7_look 59 = .ok (.aload_n 0, 1) := by decide +kernel
theorem dX7_look_60 : decode cX7_look 60 = .ok (.iconst 0, 1) := by decide +kernel
theorem dX7_look_61 : decode cX7_look 61 = .ok (.putfield 83, 3) := by decide +kernel
theorem dX7_look_64 : decode cX7_look 64 = .ok (.aload_n 0, 1) := by decide +kernel
theorem dX7_look_65 : decode cX7_look 65 = .ok (.iconst 0, 1) := by decide +kernel
theorem dX7_look_66 : decode cX7_look 66 = .ok (.putfield 86, 3) := by decide +kernel
theorem dX7_look_69 : decode cX7_look 69 = .ok (.aload_n 0, 1) := by decide +kernel
theorem dX7_look_70 : decode cX7_look 70 = .ok (.iconst 0, 1) := by decide +kernel
theorem dX7_look_71 : decode cX7_look 71 = .ok (.putfield 89, 3) := by decide +kernel
theorem dX7_look_74 : decode cX7_look 74 = .ok (.aload_n 0, 1) := by decide +kernel
theorem dX7_look_75 : decode cX7_look 75 = .ok (.getfield 76, 3) := by decide +kernel
theorem dX7_look_78 : decode cX7_look 78 = .ok (.ifCond .ne 12, 3) := by decide +kernel
theorem dX7_look_81 : decode cX7_look 81 = .ok (.aload_n 0, 1) := by decide +kernel
theorem dX7_look_82 : decode cX7_look 82 = .ok (.invokevirtual 92, 3) := by decide +kernel
theorem dX7_look_85 : decode cX7_look 85 = .ok (.aload_n 0, 1) := by decide +kernel
theorem dX7_look_86 : decode cX7_look 86 = .ok (.iconst 0, 1) := by decide +kernel
theorem dX7_look_87 : decode cX7_look 87 = .ok (.invokevirtual 95, 3) := by decide +kernel
theorem dX7_look_90 : decode cX7_look 90 = .ok (.return_, 1) := by decide +kernel
theorem dX7_mostAtOneDistance_0 : decode cX7_mostAtOneDistance 0 = .ok (.aload_n 0, 1) := by decide +kernel
theorem dX7_mostAtOneDistance_1 : decode cX7_mostAtOneDistance 1 = .ok (.getfield 43, 3) := by decide +kernel
theorem dX7_mostAtOneDistance_4 : decode cX7_mostAtOneDistance 4 = .ok (.iconst 0, 1) := by decide +kernel
theorem dX7_mostAtOneDistance_5 : decode cX7_mostAtOneDistance 5 = .ok (.invokestatic 204, 3) := by decide +kernel
theorem dX7_mostAtOneDistance_8 : decode cX7_mostAtOneDistance 8 = .ok (.iconst 0, 1) := by decide +kernel
theorem dX7_mostAtOneDistance_9 : decode cX7_mostAtOneDistance 9 = .ok (.istore_n 3, 1) := by decide +kernel
theorem dX7_mostAtOneDistance_10 : decode cX7_mostAtOneDistance 10 = .ok (.iconst 0, 1) := by decide +kernel
theorem dX7_mostAtOneDistance_11 : decode cX7_mostAtOneDistance 11 = .ok (.istore 4, 2) := by decide +kernel
theorem dX7_mostAtOneDistance_13 : decode cX7_mostAtOneDistance 13 = .ok (.iload 4, 2) := by decide +kernel
theorem dX7_mostAtOneDistance_15 : decode cX7_mostAtOneDistance 15 = .ok (.aload_n 0, 1) := by decide +kernel
theorem dX7_mostAtOneDistance_16 : decode cX7_mostAtOneDistance 16 = .ok (.getfield 83, 3) := by decide +kernel
theorem dX7_mostAtOneDistance_19 : decode cX7_mostAtOneDistance 19 = .ok (.if_icmp .ge 51, 3) := by decide +kernel
theorem dX7_mostAtOneDistance_22 : decode cX7_mostAtOneDistance 22 = .ok (.aload_n 0, 1) := by decide +kernel
theorem dX7_mostAtOneDistance_23 : decode cX7_mostAtOneDistance 23 = .ok (.iload 4, 2) := by decide +kernel
theorem dX7_mostAtOneDistance_25 : decode cX7_mostAtOneDistance 25 = .ok (.iload_n 1, 1) := by decide +kernel
theorem dX7_mostAtOneDistance_26 : decode cX7_mostAtOneDistance 26 = .ok (.invokevirtual 114, 3) := by decide +kernel
theorem dX7_mostAtOneDistance_29 : decode cX7_mostAtOneDistance 29 = .ok (.aload_n 0, 1) := by decide +kernel
theorem dX7_mostAtOneDistance_30 : decode cX7_mostAtOneDistance 30 = .ok (.iload 4, 2) := by decide +kernel
theorem dX7_mostAtOneDistance_32 : decode cX7_mostAtOneDistance 32 = .ok (.iload_n 2, 1) := by decide +kernel
theorem dX7_mostAtOneDistance_33 : decode cX7_mostAtOneDistance 33 = .ok (.invokevirtual 114, 3) := by decide +kernel
theorem dX7_mostAtOneDistance_36 : decode cX7_mostAtOneDistance 36 = .ok (.invokestatic 214, 3) := by decide +kernel
theorem dX7_mostAtOneDistance_39 : decode cX7_mostAtOneDistance 39 = .ok (.istore 5, 2) := by decide +kernel
theorem dX7_mostAtOneDistance_41 : decode cX7_mostAtOneDistance 41 = .ok (.aload_n 0, 1) := by decide +kernel
theorem dX7_mostAtOneDistance_42 : decode cX7_mostAtOneDistance 42 = .ok (.getfield 43, 3) := by decide +kernel
theorem dX7_mostAtOneDistance_45 : decode cX7_mostAtOneDistance 45 = .ok (.iload 5, 2) := by decide +kernel
theorem dX7_mostAtOneDistance_47 : decode cX7_mostAtOneDistance 47 = .ok (.dup2, 1) := by decide +kernel
theorem dX7_mostAtOneDistance_48 : decode cX7_mostAtOneDistance 48 = .ok (.iaload, 1) := by decide +kernel
theorem dX7_mostAtOneDistance_49 : decode cX7_mostAtOneDistance 49 = .ok (.iconst 1, 1) := by decide +kernel
theorem dX7_mostAtOneDistance_50 : decode cX7_mostAtOneDistance 50 = .ok (.iadd, 1) := by decide +kernel
theorem dX7_mostAtOneDistance_51 : decode cX7_mostAtOneDistance 51 = .ok (.iastore, 1) := by decide +kernel
theorem dX7_mostAtOneDistance_52 : decode cX7_mostAtOneDistance 52 = .ok (.iload_n 3, 1) := by decide +kernel
theorem dX7_mostAtOneDistance_53 : decode cX7_mostAtOneDistance 53 = .ok (.aload_n 0, 1) := by decide +kernel
theorem dX7_mostAtOneDistance_54 : decode cX7_mostAtOneDistance 54 = .ok (.getfield 43, 3) := by decide +kernel
theorem dX7_mostAtOneDistance_57 : decode cX7_mostAtOneDistance 57 = .ok (.iload 5, 2) := by decide +kernel
theorem dX7_mostAtOneDistance_59 : decode cX7_mostAtOneDistance 59 = .ok (.iaload, 1) := by decide +kernel
theorem dX7_mostAtOneDistance_60 : decode cX7_mostAtOneDistance 60 = .ok (.invokestatic 102, 3) := by decide +kernel
theorem dX7_mostAtOneDistance_63 : decode cX7_mostAtOneDistance 63 = .ok (.istore_n 3, 1) := by decide +kernel
theorem dX7_mostAtOneDistance_64 : decode cX7_mostAtOneDistance 64 = .ok (.iinc 4 1, 3) := by decide +kernel
theorem dX7_mostAtOneDistance_67 : decode cX7_mostAtOneDistance 67 = .ok (.goto (-54), 3) := by decide +kernel
theorem dX7_mostAtOneDistance_70 : decode cX7_mostAtOneDistance 70 = .ok (.iload_n 3, 1) := by decide +kernel
theorem dX7_mostAtOneDistance_71 : decode cX7_mostAtOneDistance 71 = .ok (.ireturn, 1) := by decide +kernel
theorem dX7_openPair_0 : decode cX7_openPair 0 = .ok (.aload_n 0, 1) := by decide +kernel
theorem dX7_openPair_1 : decode cX7_openPair 1 = .ok (.getfield 29, 3) := by decide +kernel
theorem dX7_openPair_4 : decode cX7_openPair 4 = .ok (.iload_n 1, 1) := by decide +kernel
theorem dX7_openPair_5 : decode cX7_openPair 5 = .ok (.bipush 9, 2) := by decide +kernel
theorem dX7_openPair_7 : decode cX7_openPair 7 = .ok (.imul, 1) := by decide +kernel
theorem dX7_openPair_8 : decode cX7_openPair 8 = .ok (.iload_n 2, 1) := by decide +kernel
theorem dX7_openPair_9 : decode cX7_openPair 9 = .ok (.iadd, 1) := by decide +kernel
theorem dX7_openPair_10 : decode cX7_openPair 10 = .ok (.aaload, 1) := by decide +kernel
theorem dX7_openPair_11 : decode cX7_openPair 11 = .ok (.astore_n 3, 1) := by decide +kernel
theorem dX7_openPair_12 : decode cX7_openPair 12 = .ok (.iconst 0, 1) := by decide +kernel
theorem dX7_openPair_13 : decode cX7_openPair 13 = .ok (.istore 4, 2) := by decide +kernel
theorem dX7_openPair_15 : decode cX7_openPair 15 = .ok (.iload 4, 2) := by decide +kernel
theorem dX7_openPair_17 : decode cX7_openPair 17 = .ok (.bipush 64, 2) := by decide +kernel
theorem dX7_openPair_19 : decode cX7_openPair 19 = .ok (.if_icmp .ge 38, 3) := by decide +kernel
theorem dX7_openPair_22 : decode cX7_openPair 22 = .ok (.aload_n 3, 1) := by decide +kernel
theorem dX7_openPair_23 : decode cX7_openPair 23 = .ok (.iload 4, 2) := by decide +kernel
theorem dX7_openPair_25 : decode cX7_openPair 25 = .ok (.aload_n 0, 1) := by decide +kernel
theorem dX7_openPair_26 : decode cX7_openPair 26 = .ok (.getfield 46, 3) := by decide +kernel
theorem dX7_openPair_29 : decode cX7_openPair 29 = .ok (.getfield 117, 3) := by decide +kernel
theorem dX7_openPair_32 : decode cX7_openPair 32 = .ok (.ifCond .eq 15, 3) := by decide +kernel
theorem dX7_openPair_35 : decode cX7_openPair 35 = .ok (.iload 4, 2) := by decide +kernel
theorem dX7_openPair_37 : decode cX7_openPair 37 = .ok (.invokestatic 176, 3) := by decide +kernel
theorem dX7_openPair_40 : decode cX7_openPair 40 = .ok (.ldc2_w 179, 3) := by decide +kernel
theorem dX7_openPair_43 : decode cX7_openPair 43 = .ok (.lxor, 1) := by decide +kernel
theorem dX7_openPair_44 : decode cX7_openPair 44 = .ok (.goto 6, 3) := by decide +kernel
theorem dX7_openPair_47 : decode cX7_openPair 47 = .ok (.ldc2_w 179, 3) := by decide +kernel
theorem dX7_openPair_50 : decode cX7_openPair 50 = .ok (.lastore, 1) := by decide +kernel
theorem dX7_openPair_51 : decode cX7_openPair 51 = .ok (.iinc 4 1, 3) := by decide +kernel
theorem dX7_openPair_54 : decode cX7_openPair 54 = .ok (.goto (-39), 3) := by decide +kernel
theorem dX7_openPair_57 : decode cX7_openPair 57 = .ok (.return_, 1) := by decide +kernel
theorem dX7_place_0 : decode cX7_place 0 = .ok (.aload_n 0, 1) := by decide +kernel
theorem dX7_place_1 : decode cX7_place 1 = .ok (.dup, 1) := by decide +kernel
theorem dX7_place_2 : decode cX7_place 2 = .ok (.getfield 80, 3) := by decide +kernel
theorem dX7_place_5 : decode cX7_place 5 = .ok (.aload_n 0, 1) := by decide +kernel
theorem dX7_place_6 : decode cX7_place 6 = .ok (.getfield 24, 3) := by decide +kernel
theorem dX7_place_9 : decode cX7_place 9 = .ok (.iload_n 1, 1) := by decide +kernel
theorem dX7_place_10 : decode cX7_place 10 = .ok (.laload, 1) := by decide +kernel
theorem dX7_place_11 : decode cX7_place 11 = .ok (.invokestatic 197, 3) := by decide +kernel
theorem dX7_place_14 : decode cX7_place 14 = .ok (.iadd, 1) := by decide +kernel
theorem dX7_place_15 : decode cX7_place 15 = .ok (.putfield 80, 3) := by decide +kernel
theorem dX7_place_18 : decode cX7_place 18 = .ok (.aload_n 0, 1) := by decide +kernel
theorem dX7_place_19 : decode cX7_place 19 = .ok (.getfield 80, 3) := by decide +kernel
theorem dX7_place_22 : decode cX7_place 22 = .ok (.ldc 19, 2) := by decide +kernel
theorem dX7_place_24 : decode cX7_place 24 = .ok (.if_icmp .le 15, 3) := by decide +kernel
theorem dX7_place_27 : decode cX7_place 27 = .ok (.aload_n 0, 1) := by decide +kernel
theorem dX7_place_28 : decode cX7_place 28 = .ok (.ldc 19, 2) := by decide +kernel
theorem dX7_place_30 : decode cX7_place 30 = .ok (.putfield 80, 3) := by decide +kernel
theorem dX7_place_33 : decode cX7_place 33 = .ok (.aload_n 0, 1) := by decide +kernel
theorem dX7_place_34 : decode cX7_place 34 = .ok (.iconst 1, 1) := by decide +kernel
theorem dX7_place_35 : decode cX7_place 35 = .ok (.putfield 76, 3) := by decide +kernel
theorem dX7_place_38 : decode cX7_place 38 = .ok (.return_, 1) := by decide +kernel
theorem dX7_place_39 : decode cX7_place 39 = .ok (.aload_n 0, 1) := by decide +kernel
theorem dX7_place_40 : decode cX7_place 40 = .ok (.getfield 24, 3) := by decide +kernel
theorem dX7_place_43 : decode cX7_place 43 = .ok (.iload_n 1, 1) := by decide +kernel
theorem dX7_place_44 : decode cX7_place 44 = .ok (.laload, 1) := by decide +kernel
theorem dX7_place_45 : decode cX7_place 45 = .ok (.aload_n 0, 1) := by decide +kernel
theorem dX7_place_46 : decode cX7_place 46 = .ok (.getfield 124, 3) := by decide +kernel
theorem dX7_place_49 : decode cX7_place 49 = .ok (.ldc2_w 179, 3) := by decide +kernel
theorem dX7_place_52 : decode cX7_place 52 = .ok (.lxor, 1) := by decide +kernel
theorem dX7_place_53 : decode cX7_place 53 = .ok (.land, 1) := by decide +kernel
theorem dX7_place_54 : decode cX7_place 54 = .ok (.lstore_n 2, 1) := by decide +kernel
theorem dX7_place_55 : decode cX7_place 55 = .ok (.iconst 0, 1) := by decide +kernel
theorem dX7_place_56 : decode cX7_place 56 = .ok (.istore 4, 2) := by decide +kernel
theorem dX7_place_58 : decode cX7_place 58 = .ok (.iload 4, 2) := by decide +kernel
theorem dX7_place_60 : decode cX7_place 60 = .ok (.iload_n 1, 1) := by decide +kernel
theorem dX7_place_61 : decode cX7_place 61 = .ok (.if_icmp .ge 32, 3) := by decide +kernel
theorem dX7_place_64 : decode cX7_place 64 = .ok (.lload_n 2, 1) := by decide +kernel
theorem dX7_place_65 : decode cX7_place 65 = .ok (.aload_n 0, 1) := by decide +kernel
theorem dX7_place_66 : decode cX7_place 66 = .ok (.getfield 29, 3) := by decide +kernel
theorem dX7_place_69 : decode cX7_place 69 = .ok (.iload 4, 2) := by decide +kernel
theorem dX7_place_71 : decode cX7_place 71 = .ok (.bipush 9, 2) := by decide +kernel
theorem dX7_place_73 : decode cX7_place 73 = .ok (.imul, 1) := by decide +kernel
theorem dX7_place_74 : decode cX7_place 74 = .ok (.iload_n 1, 1) := by decide +kernel
theorem dX7_place_75 : decode cX7_place 75 = .ok (.iadd, 1) := by decide +kernel
theorem dX7_place_76 : decode cX7_place 76 = .ok (.aaload, 1) := by decide +kernel
theorem dX7_place_77 : decode cX7_place 77 = .ok (.aload_n 0, 1) := by decide +kernel
theorem dX7_place_78 : decode cX7_place 78 = .ok (.getfield 32, 3) := by decide +kernel
theorem dX7_place_81 : decode cX7_place 81 = .ok (.iload 4, 2) := by decide +kernel
theorem dX7_place_83 : decode cX7_place 83 = .ok (.iaload, 1) := by decide +kernel
theorem dX7_place_84 : decode cX7_place 84 = .ok (.laload, 1) := by decide +kernel
theorem dX7_place_85 : decode cX7_place 85 = .ok (.land, 1) := by decide +kernel
theorem dX7_place_86 : decode cX7_place 86 = .ok (.lstore_n 2, 1) := by decide +kernel
theorem dX7_place_87 : decode cX7_place 87 = .ok (.iinc 4 1, 3) := by decide +kernel
theorem dX7_place_90 : decode cX7_place 90 = .ok (.goto (-32), 3) := by decide +kernel
theorem dX7_place_93 : decode cX7_place 93 = .ok (.lload_n 2, 1) := by decide +kernel
theorem dX7_place_94 : decode cX7_place 94 = .ok (.lconst 0, 1) := by decide +kernel
theorem dX7_place_95 : decode cX7_place 95 = .ok (.lcmp, 1) := by decide +kernel
theorem dX7_place_96 : decode cX7_place 96 = .ok (.ifCond .eq 53, 3) := by decide +kernel
theorem dX7_place_99 : decode cX7_place 99 = .ok (.aload_n 0, 1) := by decide +kernel
theorem dX7_place_100 : decode cX7_place 100 = .ok (.getfield 76, 3) := by decide +kernel
theorem dX7_place_103 : decode cX7_place 103 = .ok (.ifCond .ne 46, 3) := by decide +kernel
theorem dX7_place_106 : decode cX7_place 106 = .ok (.aload_n 0, 1) := by decide +kernel
theorem dX7_place_107 : decode cX7_place 107 = .ok (.getfield 32, 3) := by decide +kernel
theorem dX7_place_110 : decode cX7_place 110 = .ok (.iload_n 1, 1) := by decide +kernel
theorem dX7_place_111 : decode cX7_place 111 = .ok (.lload_n 2, 1) := by decide +kernel
theorem dX7_place_112 : decode cX7_place 112 = .ok (.invokestatic 187, 3) := by decide +kernel
theorem dX7_place_115 : decode cX7_place 115 = .ok (.iastore, 1) := by decide +kernel
theorem dX7_place_116 : decode cX7_place 116 = .ok (.iload_n 1, 1) := by decide +kernel
theorem dX7_place_117 : decode cX7_place 117 = .ok (.iconst 1, 1) := by decide +kernel
theorem dX7_place_118 : decode cX7_place 118 = .ok (.iadd, 1) := by decide +kernel
theorem dX7_place_119 : decode cX7_place 119 = .ok (.aload_n 0, 1) := by decide +kernel
theorem dX7_place_120 : decode cX7_place 120 = .ok (.getfield 73, 3) := by decide +kernel
theorem dX7_place_123 : decode cX7_place 123 = .ok (.if_icmp .ge 13, 3) := by decide +kernel
theorem dX7_place_126 : decode cX7_place 126 = .ok (.aload_n 0, 1) := by decide +kernel
theorem dX7_place_127 : decode cX7_place 127 = .ok (.iload_n 1, 1) := by decide +kernel
theorem dX7_place_128 : decode cX7_place 128 = .ok (.iconst 1, 1) := by decide +kernel
theorem dX7_place_129 : decode cX7_place 129 = .ok (.iadd, 1) := by decide +kernel
theorem dX7_place_130 : decode cX7_place 130 = .ok (.invokevirtual 95, 3) := by decide +kernel
theorem dX7_place_133 : decode cX7_place 133 = .ok (.goto 7, 3) := by decide +kernel
theorem dX7_place_136 : decode cX7_place 136 = .ok (.aload_n 0, 1) := by decide +kernel
theorem dX7_place_137 : decode cX7_place 137 = .ok (.invokevirtual 201, 3) := by decide +kernel
theorem dX7_place_140 : decode cX7_place 140 = .ok (.lload_n 2, 1) := by decide +kernel
theorem dX7_place_141 : decode cX7_place 141 = .ok (.lload_n 2, 1) := by decide +kernel
theorem dX7_place_142 : decode cX7_place 142 = .ok (.lconst 1, 1) := by decide +kernel
theorem dX7_place_143 : decode cX7_place 143 = .ok (.lsub, 1) := by decide +kernel
theorem dX7_place_144 : decode cX7_place 144 = .ok (.land, 1) := by decide +kernel
theorem dX7_place_145 : decode cX7_place 145 = .ok (.lstore_n 2, 1) := by decide +kernel
theorem dX7_place_146 : decode cX7_place 146 = .ok (.goto (-53), 3) := by decide +kernel
theorem dX7_place_149 : decode cX7_place 149 = .ok (.return_, 1) := by decide +kernel
theorem dX7_placeOf_0 : decode cX7_placeOf 0 = .ok (.iconst 0, 1) := by decide +kernel
theorem dX7_placeOf_1 : decode cX7_placeOf 1 = .ok (.istore_n 2, 1) := by decide +kernel
theorem dX7_placeOf_2 : decode cX7_placeOf 2 = .ok (.iload_n 2, 1) := by decide +kernel
theorem dX7_placeOf_3 : decode cX7_placeOf 3 = .ok (.aload_n 0, 1) := by decide +kernel
theorem dX7_placeOf_4 : decode cX7_placeOf 4 = .ok (.getfield 73, 3) := by decide +kernel
theorem dX7_placeOf_7 : decode cX7_placeOf 7 = .ok (.if_icmp .ge 27, 3) := by decide +kernel
theorem dX7_placeOf_10 : decode cX7_placeOf 10 = .ok (.iload_n 2, 1) := by decide +kernel
theorem dX7_placeOf_11 : decode cX7_placeOf 11 = .ok (.bipush 9, 2) := by decide +kernel
theorem dX7_placeOf_13 : decode cX7_placeOf 13 = .ok (.if_icmp .ge 21, 3) := by decide +kernel
theorem dX7_placeOf_16 : decode cX7_placeOf 16 = .ok (.aload_n 0, 1) := by decide +kernel
theorem dX7_placeOf_17 : decode cX7_placeOf 17 = .ok (.getfield 15, 3) := by decide +kernel
theorem dX7_placeOf_20 : decode cX7_placeOf 20 = .ok (.iload_n 2, 1) := by decide +kernel
theorem dX7_placeOf_21 : decode cX7_placeOf 21 = .ok (.iaload, 1) := by decide +kernel
theorem dX7_placeOf_22 : decode cX7_placeOf 22 = .ok (.iload_n 1, 1) := by decide +kernel
theorem dX7_placeOf_23 : decode cX7_placeOf 23 = .ok (.if_icmp .ne 5, 3) := by decide +kernel
theorem dX7_placeOf_26 : decode cX7_placeOf 26 = .ok (.iload_n 2, 1) := by decide +kernel
theorem dX7_placeOf_27 : decode cX7_placeOf 27 = .ok (.ireturn, 1) := by decide +kernel
theorem dX7_placeOf_28 : decode cX7_placeOf 28 = .ok (.iinc 2 1, 3) := by decide +kernel
theorem dX7_placeOf_31 : decode cX7_placeOf 31 = .ok (.goto (-29), 3) := by decide +kernel
theorem dX7_placeOf_34 : decode cX7_placeOf 34 = .ok (.bipush (-9), 2) := by decide +kernel
theorem dX7_placeOf_36 : decode cX7_placeOf 36 = .ok (.ireturn, 1) := by decide +kernel
theorem dX7_possible_0 : decode cX7_possible 0 = .ok (.aload_n 0, 1) := by decide +kernel
theorem dX7_possible_1 : decode cX7_possible 1 = .ok (.invokevirtual 99, 3) := by decide +kernel
theorem dX7_possible_4 : decode cX7_possible 4 = .ok (.iconst 0, 1) := by decide +kernel
theorem dX7_possible_5 : decode cX7_possible 5 = .ok (.istore_n 2, 1) := by decide +kernel
theorem dX7_possible_6 : decode cX7_possible 6 = .ok (.iconst 0, 1) := by decide +kernel
theorem dX7_possible_7 : decode cX7_possible 7 = .ok (.istore_n 3, 1) := by decide +kernel
theorem dX7_possible_8 : decode cX7_possible 8 = .ok (.iload_n 3, 1) := by decide +kernel
theorem dX7_possible_9 : decode cX7_possible 9 = .ok (.bipush 64, 2) := by decide +kernel
theorem dX7_possible_11 : decode cX7_possible 11 = .ok (.if_icmp .ge 28, 3) := by decide +kernel
theorem dX7_possible_14 : decode cX7_possible 14 = .ok (.iload_n 2, 1) := by decide +kernel
theorem dX7_possible_15 : decode cX7_possible 15 = .ok (.aload_n 0, 1) := by decide +kernel
theorem dX7_possible_16 : decode cX7_possible 16 = .ok (.getfield 37, 3) := by decide +kernel
theorem dX7_possible_19 : decode cX7_possible 19 = .ok (.iload_n 1, 1) := by decide +kernel
theorem dX7_possible_20 : decode cX7_possible 20 = .ok (.aaload, 1) := by decide +kernel
theorem dX7_possible_21 : decode cX7_possible 21 = .ok (.iload_n 3, 1) := by decide +kernel
theorem dX7_possible_22 : decode cX7_possible 22 = .ok (.iaload, 1) := by decide +kernel
theorem dX7_possible_23 : decode cX7_possible 23 = .ok (.ifCond .le 7, 3) := by decide +kernel
theorem dX7_possible_26 : decode cX7_possible 26 = .ok (.iconst 1, 1) := by decide +kernel
theorem dX7_possible_27 : decode cX7_possible 27 = .ok (.goto 4, 3) := by decide +kernel
theorem dX7_possible_30 : decode cX7_possible 30 = .ok (.iconst 0, 1) := by decide +kernel
theorem dX7_possible_31 : decode cX7_possible 31 = .ok (.iadd, 1) := by decide +kernel
theorem dX7_possible_32 : decode cX7_possible 32 = .ok (.istore_n 2, 1) := by decide +kernel
theorem dX7_possible_33 : decode cX7_possible 33 = .ok (.iinc 3 1, 3) := by decide +kernel
theorem dX7_possible_36 : decode cX7_possible 36 = .ok (.goto (-28), 3) := by decide +kernel
theorem dX7_possible_39 : decode cX7_possible 39 = .ok (.iload_n 2, 1) := by decide +kernel
theorem dX7_possible_40 : decode cX7_possible 40 = .ok (.ireturn, 1) := by decide +kernel
theorem dX7_prepare_0 : decode cX7_prepare 0 = .ok (.aload_n 0, 1) := by decide +kernel
theorem dX7_prepare_1 : decode cX7_prepare 1 = .ok (.aload_n 0, 1) := by decide +kernel
theorem dX7_prepare_2 : decode cX7_prepare 2 = .ok (.getfield 46, 3) := by decide +kernel
theorem dX7_prepare_5 : decode cX7_prepare 5 = .ok (.getfield 117, 3) := by decide +kernel
theorem dX7_prepare_8 : decode cX7_prepare 8 = .ok (.ifCond .eq 10, 3) := by decide +kernel
theorem dX7_prepare_11 : decode cX7_prepare 11 = .ok (.aload_n 0, 1) := by decide +kernel
theorem dX7_prepare_12 : decode cX7_prepare 12 = .ok (.invokevirtual 120, 3) := by decide +kernel
theorem dX7_prepare_15 : decode cX7_prepare 15 = .ok (.goto 4, 3) := by decide +kernel
theorem dX7_prepare_18 : decode cX7_prepare 18 = .ok (.lconst 0, 1) := by decide +kernel
theorem dX7_prepare_19 : decode cX7_prepare 19 = .ok (.putfield 124, 3) := by decide +kernel
theorem dX7_prepare_22 : decode cX7_prepare 22 = .ok (.iconst 0, 1) := by decide +kernel
theorem dX7_prepare_23 : decode cX7_prepare 23 = .ok (.istore_n 1, 1) := by decide +kernel
theorem dX7_prepare_24 : decode cX7_prepare 24 = .ok (.iconst 0, 1) := by decide +kernel
theorem dX7_prepare_25 : decode cX7_prepare 25 = .ok (.istore_n 2, 1) := by decide +kernel
theorem dX7_prepare_26 : decode cX7_prepare 26 = .ok (.iload_n 2, 1) := by decide +kernel
theorem dX7_prepare_27 : decode cX7_prepare 27 = .ok (.aload_n 0, 1) := by decide +kernel
theorem dX7_prepare_28 : decode cX7_prepare 28 = .ok (.getfield 46, 3) := by decide +kernel
theorem dX7_prepare_31 : decode cX7_prepare 31 = .ok (.getfield 128, 3) := by decide +kernel
theorem dX7_prepare_34 : decode cX7_prepare 34 = .ok (.if_icmp .ge 45, 3) := by decide +kernel
theorem dX7_prepare_37 : decode cX7_prepare 37 = .ok (.aload_n 0, 1) := by decide +kernel
theorem dX7_prepare_38 : decode cX7_prepare 38 = .ok (.getfield 9, 3) := by decide +kernel
theorem dX7_prepare_41 : decode cX7_prepare 41 = .ok (.i2l, 1) := by decide +kernel
theorem dX7_prepare_42 : decode cX7_prepare 42 = .ok (.iload_n 2, 1) := by decide +kernel
theorem dX7_prepare_43 : decode cX7_prepare 43 = .ok (.invokestatic 58, 3) := by decide +kernel
theorem dX7_prepare_46 : decode cX7_prepare 46 = .ok (.ifCond .eq 27, 3) := by decide +kernel
theorem dX7_prepare_49 : decode cX7_prepare 49 = .ok (.aload_n 0, 1) := by decide +kernel
theorem dX7_prepare_50 : decode cX7_prepare 50 = .ok (.getfield 15, 3) := by decide +kernel
theorem dX7_prepare_53 : decode cX7_prepare 53 = .ok (.iload_n 1, 1) := by decide +kernel
theorem dX7_prepare_54 : decode cX7_prepare 54 = .ok (.iload_n 2, 1) := by decide +kernel
theorem dX7_prepare_55 : decode cX7_prepare 55 = .ok (.iastore, 1) := by decide +kernel
theorem dX7_prepare_56 : decode cX7_prepare 56 = .ok (.aload_n 0, 1) := by decide +kernel
theorem dX7_prepare_57 : decode cX7_prepare 57 = .ok (.getfield 24, 3) := by decide +kernel
theorem dX7_prepare_60 : decode cX7_prepare 60 = .ok (.iload_n 1, 1) := by decide +kernel
theorem dX7_prepare_61 : decode cX7_prepare 61 = .ok (.aload_n 0, 1) := by decide +kernel
theorem dX7_prepare_62 : decode cX7_prepare 62 = .ok (.getfield 54, 3) := by decide +kernel
theorem dX7_prepare_65 : decode cX7_prepare 65 = .ok (.iload_n 2, 1) := by decide +kernel
theorem dX7_prepare_66 : decode cX7_prepare 66 = .ok (.invokevirtual 131, 3) := by decide +kernel
theorem dX7_prepare_69 : decode cX7_prepare 69 = .ok (.lastore, 1) := by decide +kernel
theorem dX7_prepare_70 : decode cX7_prepare 70 = .ok (.iinc 1 1, 3) := by decide +kernel
theorem dX7_prepare_73 : decode cX7_prepare 73 = .ok (.iinc 2 1, 3) := by decide +kernel
theorem dX7_prepare_76 : decode cX7_prepare 76 = .ok (.goto (-50), 3) := by decide +kernel
theorem dX7_prepare_79 : decode cX7_prepare 79 = .ok (.iconst 0, 1) := by decide +kernel
theorem dX7_prepare_80 : decode cX7_prepare 80 = .ok (.istore_n 1, 1) := by decide +kernel
theorem dX7_prepare_81 : decode cX7_prepare 81 = .ok (.iload_n 1, 1) := by decide +kernel
theorem dX7_prepare_82 : decode cX7_prepare 82 = .ok (.aload_n 0, 1) := by decide +kernel
theorem dX7_prepare_83 : decode cX7_prepare 83 = .ok (.getfield 73, 3) := by decide +kernel
theorem dX7_prepare_86 : decode cX7_prepare 86 = .ok (.if_icmp .ge 33, 3) := by decide +kernel
theorem dX7_prepare_89 : decode cX7_prepare 89 = .ok (.iload_n 1, 1) := by decide +kernel
theorem dX7_prepare_90 : decode cX7_prepare 90 = .ok (.iconst 1, 1) := by decide +kernel
theorem dX7_prepare_91 : decode cX7_prepare 91 = .ok (.iadd, 1) := by decide +kernel
theorem dX7_prepare_92 : decode cX7_prepare 92 = .ok (.istore_n 2, 1) := by decide +kernel
theorem dX7_prepare_93 : decode cX7_prepare 93 = .ok (.iload_n 2, 1) := by decide +kernel
theorem dX7_prepare_94 : decode cX7_prepare 94 = .ok (.aload_n 0, 1) := by decide +kernel
theorem dX7_prepare_95 : decode cX7_prepare 95 = .ok (.getfield 73, 3) := by decide +kernel
theorem dX7_prepare_98 : decode cX7_prepare 98 = .ok (.if_icmp .ge 15, 3) := by decide +kernel
theorem dX7_prepare_101 : decode cX7_prepare 101 = .ok (.aload_n 0, 1) := by decide +kernel
theorem dX7_prepare_102 : decode cX7_prepare 102 = .ok (.iload_n 1, 1) := by decide +kernel
theorem dX7_prepare_103 : decode cX7_prepare 103 = .ok (.iload_n 2, 1) := by decide +kernel
theorem dX7_prepare_104 : decode cX7_prepare 104 = .ok (.invokevirtual 137, 3) := by decide +kernel
theorem dX7_prepare_107 : decode cX7_prepare 107 = .ok (.iinc 2 1, 3) := by decide +kernel
theorem dX7_prepare_110 : decode cX7_prepare 110 = .ok (.goto (-17), 3) := by decide +kernel
theorem dX7_prepare_113 : decode cX7_prepare 113 = .ok (.iinc 1 1, 3) := by decide +kernel
theorem dX7_prepare_116 : decode cX7_prepare 116 = .ok (.goto (-35), 3) := by decide +kernel
theorem dX7_prepare_119 : decode cX7_prepare 119 = .ok (.iconst 0, 1) := by decide +kernel
theorem dX7_prepare_120 : decode cX7_prepare 120 = .ok (.istore_n 2, 1) := by decide +kernel
theorem dX7_prepare_121 : decode cX7_prepare 121 = .ok (.iload_n 2, 1) := by decide +kernel
theorem dX7_prepare_122 : decode cX7_prepare 122 = .ok (.aload_n 0, 1) := by decide +kernel
theorem dX7_prepare_123 : decode cX7_prepare 123 = .ok (.getfield 46, 3) := by decide +kernel
theorem dX7_prepare_126 : decode cX7_prepare 126 = .ok (.getfield 141, 3) := by decide +kernel
theorem dX7_prepare_129 : decode cX7_prepare 129 = .ok (.if_icmp .ge 68, 3) := by decide +kernel
theorem dX7_prepare_132 : decode cX7_prepare 132 = .ok (.aload_n 0, 1) := by decide +kernel
theorem dX7_prepare_133 : decode cX7_prepare 133 = .ok (.getfield 46, 3) := by decide +kernel
theorem dX7_prepare_136 : decode cX7_prepare 136 = .ok (.getfield 144, 3) := by decide +kernel
theorem dX7_prepare_139 : decode cX7_prepare 139 = .ok (.iload_n 2, 1) := by decide +kernel
theorem dX7_prepare_140 : decode cX7_prepare 140 = .ok (.aaload, 1) := by decide +kernel
theorem dX7_prepare_141 : decode cX7_prepare 141 = .ok (.astore_n 3, 1) := by decide +kernel
theorem dX7_prepare_142 : decode cX7_prepare 142 = .ok (.aload_n 0, 1) := by decide +kernel
theorem dX7_prepare_143 : decode cX7_prepare 143 = .ok (.getfield 46, 3) := by decide +kernel
theorem dX7_prepare_146 : decode cX7_prepare 146 = .ok (.getfield 148, 3) := by decide +kernel
theorem dX7_prepare_149 : decode cX7_prepare 149 = .ok (.iload_n 2, 1) := by decide +kernel
theorem dX7_prepare_150 : decode cX7_prepare 150 = .ok (.invokestatic 58, 3) := by decide +kernel
theorem dX7_prepare_153 : decode cX7_prepare 153 = .ok (.ifCond .eq 38, 3) := by decide +kernel
theorem dX7_prepare_156 : decode cX7_prepare 156 = .ok (.aload_n 0, 1) := by decide +kernel
theorem dX7_prepare_157 : decode cX7_prepare 157 = .ok (.getfield 9, 3) := by decide +kernel
theorem dX7_prepare_160 : decode cX7_prepare 160 = .ok (.i2l, 1) := by decide +kernel
theorem dX7_prepare_161 : decode cX7_prepare 161 = .ok (.aload_n 3, 1) := by decide +kernel
theorem dX7_prepare_162 : decode cX7_prepare 162 = .ok (.getfield 151, 3) := by decide +kernel
theorem dX7_prepare_165 : decode cX7_prepare 165 = .ok (.invokestatic 58, 3) := by decide +kernel
theorem dX7_prepare_168 : decode cX7_prepare 168 = .ok (.ifCond .eq 23, 3) := by decide +kernel
theorem dX7_prepare_171 : decode cX7_prepare 171 = .ok (.aload_n 0, 1) := by decide +kernel
theorem dX7_prepare_172 : decode cX7_prepare 172 = .ok (.getfield 9, 3) := by decide +kernel
theorem dX7_prepare_175 : decode cX7_prepare 175 = .ok (.i2l, 1) := by decide +kernel
theorem dX7_prepare_176 : decode cX7_prepare 176 = .ok (.aload_n 3, 1) := by decide +kernel
theorem dX7_prepare_177 : decode cX7_prepare 177 = .ok (.getfield 156, 3) := by decide +kernel
theorem dX7_prepare_180 : decode cX7_prepare 180 = .ok (.invokestatic 58, 3) := by decide +kernel
theorem dX7_prepare_183 : decode cX7_prepare 183 = .ok (.ifCond .eq 8, 3) := by decide +kernel
theorem dX7_prepare_186 : decode cX7_prepare 186 = .ok (.aload_n 0, 1) := by decide +kernel
theorem dX7_prepare_187 : decode cX7_prepare 187 = .ok (.aload_n 3, 1) := by decide +kernel
theorem dX7_prepare_188 : decode cX7_prepare 188 = .ok (.invokevirtual 159, 3) := by decide +kernel
theorem dX7_prepare_191 : decode cX7_prepare 191 = .ok (.iinc 2 1, 3) := by decide +kernel
theorem dX7_prepare_194 : decode cX7_prepare 194 = .ok (.goto (-73), 3) := by decide +kernel
theorem dX7_prepare_197 : decode cX7_prepare 197 = .ok (.return_, 1) := by decide +kernel
theorem dX7_record_0 : decode cX7_record 0 = .ok (.lconst 0, 1) := by decide +kernel
theorem dX7_record_1 : decode cX7_record 1 = .ok (.lstore_n 1, 1) := by decide +kernel
theorem dX7_record_2 : decode cX7_record 2 = .ok (.iconst 0, 1) := by decide +kernel
theorem dX7_record_3 : decode cX7_record 3 = .ok (.istore_n 3, 1) := by decide +kernel
theorem dX7_record_4 : decode cX7_record 4 = .ok (.iload_n 3, 1) := by decide +kernel
theorem dX7_record_5 : decode cX7_record 5 = .ok (.aload_n 0, 1) := by decide +kernel
theorem dX7_record_6 : decode cX7_record 6 = .ok (.getfield 73, 3) := by decide +kernel
theorem dX7_record_9 : decode cX7_record 9 = .ok (.if_icmp .ge 24, 3) := by decide +kernel
theorem dX7_record_12 : decode cX7_record 12 = .ok (.lload_n 1, 1) := by decide +kernel
theorem dX7_record_13 : decode cX7_record 13 = .ok (.aload_n 0, 1) := by decide +kernel
theorem dX7_record_14 : decode cX7_record 14 = .ok (.getfield 32, 3) := by decide +kernel
theorem dX7_record_17 : decode cX7_record 17 = .ok (.iload_n 3, 1) := by decide +kernel
theorem dX7_record_18 : decode cX7_record 18 = .ok (.iaload, 1) := by decide +kernel
theorem dX7_record_19 : decode cX7_record 19 = .ok (.i2l, 1) := by decide +kernel
theorem dX7_record_20 : decode cX7_record 20 = .ok (.bipush 6, 2) := by decide +kernel
theorem dX7_record_22 : decode cX7_record 22 = .ok (.iload_n 3, 1) := by decide +kernel
theorem dX7_record_23 : decode cX7_record 23 = .ok (.imul, 1) := by decide +kernel
theorem dX7_record_24 : decode cX7_record 24 = .ok (.lshl, 1) := by decide +kernel
theorem dX7_record_25 : decode cX7_record 25 = .ok (.lor, 1) := by decide +kernel
theorem dX7_record_26 : decode cX7_record 26 = .ok (.lstore_n 1, 1) := by decide +kernel
theorem dX7_record_27 : decode cX7_record 27 = .ok (.iinc 3 1, 3) := by decide +kernel
theorem dX7_record_30 : decode cX7_record 30 = .ok (.goto (-26), 3) := by decide +kernel
theorem dX7_record_33 : decode cX7_record 33 = .ok (.aload_n 0, 1) := by decide +kernel
theorem dX7_record_34 : decode cX7_record 34 = .ok (.getfield 83, 3) := by decide +kernel
theorem dX7_record_37 : decode cX7_record 37 = .ok (.ldc 19, 2) := by decide +kernel
theorem dX7_record_39 : decode cX7_record 39 = .ok (.if_icmp .ge 23, 3) := by decide +kernel
theorem dX7_record_42 : decode cX7_record 42 = .ok (.aload_n 0, 1) := by decide +kernel
theorem dX7_record_43 : decode cX7_record 43 = .ok (.getfield 20, 3) := by decide +kernel
theorem dX7_record_46 : decode cX7_record 46 = .ok (.aload_n 0, 1) := by decide +kernel
theorem dX7_record_47 : decode cX7_record 47 = .ok (.getfield 83, 3) := by decide +kernel
theorem dX7_record_50 : decode cX7_record 50 = .ok (.lload_n 1, 1) := by decide +kernel
theorem dX7_record_51 : decode cX7_record 51 = .ok (.lastore, 1) := by decide +kernel
theorem dX7_record_52 : decode cX7_record 52 = .ok (.aload_n 0, 1) := by decide +kernel
theorem dX7_record_53 : decode cX7_record 53 = .ok (.dup, 1) := by decide +kernel
theorem dX7_record_54 : decode cX7_record 54 = .ok (.getfield 83, 3) := by decide +kernel
theorem dX7_record_57 : decode cX7_record 57 = .ok (.iconst 1, 1) := by decide +kernel
theorem dX7_record_58 : decode cX7_record 58 = .ok (.iadd, 1) := by decide +kernel
theorem dX7_record_59 : decode cX7_record 59 = .ok (.putfield 83, 3) := by decide +kernel
theorem dX7_record_62 : decode cX7_record 62 = .ok (.return_, 1) := by decide +kernel
theorem dX7_restrict_0 : decode cX7_restrict 0 = .ok (.aload_n 0, 1) := by decide +kernel
theorem dX7_restrict_1 : decode cX7_restrict 1 = .ok (.aload_n 1, 1) := by decide +kernel
theorem dX7_restrict_2 : decode cX7_restrict 2 = .ok (.getfield 151, 3) := by decide +kernel
theorem dX7_restrict_5 : decode cX7_restrict 5 = .ok (.invokevirtual 181, 3) := by decide +kernel
theorem dX7_restrict_8 : decode cX7_restrict 8 = .ok (.istore_n 2, 1) := by decide +kernel
theorem dX7_restrict_9 : decode cX7_restrict 9 = .ok (.aload_n 0, 1) := by decide +kernel
theorem dX7_restrict_10 : decode cX7_restrict 10 = .ok (.aload_n 1, 1) := by decide +kernel
theorem dX7_restrict_11 : decode cX7_restrict 11 = .ok (.getfield 156, 3) := by decide +kernel
theorem dX7_restrict_14 : decode cX7_restrict 14 = .ok (.invokevirtual 181, 3) := by decide +kernel
theorem dX7_restrict_17 : decode cX7_restrict 17 = .ok (.istore_n 3, 1) := by decide +kernel
theorem dX7_restrict_18 : decode cX7_restrict 18 = .ok (.iload_n 2, 1) := by decide +kernel
theorem dX7_restrict_19 : decode cX7_restrict 19 = .ok (.iload_n 3, 1) := by decide +kernel
theorem dX7_restrict_20 : decode cX7_restrict 20 = .ok (.if_icmp .ge 7, 3) := by decide +kernel
theorem dX7_restrict_23 : decode cX7_restrict 23 = .ok (.iconst 1, 1) := by decide +kernel
theorem dX7_restrict_24 : decode cX7_restrict 24 = .ok (.goto 4, 3) := by decide +kernel
theorem dX7_restrict_27 : decode cX7_restrict 27 = .ok (.iconst 0, 1) := by decide +kernel
theorem dX7_restrict_28 : decode cX7_restrict 28 = .ok (.istore 4, 2) := by decide +kernel
theorem dX7_restrict_30 : decode cX7_restrict 30 = .ok (.iload_n 2, 1) := by decide +kernel
theorem dX7_restrict_31 : decode cX7_restrict 31 = .ok (.iload_n 3, 1) := by decide +kernel
theorem dX7_restrict_32 : decode cX7_restrict 32 = .ok (.invokestatic 184, 3) := by decide +kernel
theorem dX7_restrict_35 : decode cX7_restrict 35 = .ok (.istore 5, 2) := by decide +kernel
theorem dX7_restrict_37 : decode cX7_restrict 37 = .ok (.aload_n 0, 1) := by decide +kernel
theorem dX7_restrict_38 : decode cX7_restrict 38 = .ok (.getfield 29, 3) := by decide +kernel
theorem dX7_restrict_41 : decode cX7_restrict 41 = .ok (.iload 5, 2) := by decide +kernel
theorem dX7_restrict_43 : decode cX7_restrict 43 = .ok (.bipush 9, 2) := by decide +kernel
theorem dX7_restrict_45 : decode cX7_restrict 45 = .ok (.imul, 1) := by decide +kernel
theorem dX7_restrict_46 : decode cX7_restrict 46 = .ok (.iload_n 2, 1) := by decide +kernel
theorem dX7_restrict_47 : decode cX7_restrict 47 = .ok (.iload_n 3, 1) := by decide +kernel
theorem dX7_restrict_48 : decode cX7_restrict 48 = .ok (.invokestatic 102, 3) := by decide +kernel
theorem dX7_restrict_51 : decode cX7_restrict 51 = .ok (.iadd, 1) := by decide +kernel
theorem dX7_restrict_52 : decode cX7_restrict 52 = .ok (.aaload, 1) := by decide +kernel
theorem dX7_restrict_53 : decode cX7_restrict 53 = .ok (.astore 6, 2) := by decide +kernel
theorem dX7_restrict_55 : decode cX7_restrict 55 = .ok (.aload_n 0, 1) := by decide +kernel
theorem dX7_restrict_56 : decode cX7_restrict 56 = .ok (.getfield 24, 3) := by decide +kernel
theorem dX7_restrict_59 : decode cX7_restrict 59 = .ok (.iload 5, 2) := by decide +kernel
theorem dX7_restrict_61 : decode cX7_restrict 61 = .ok (.laload, 1) := by decide +kernel
theorem dX7_restrict_62 : decode cX7_restrict 62 = .ok (.lstore 7, 2) := by decide +kernel
theorem dX7_restrict_64 : decode cX7_restrict 64 = .ok (.lload 7, 2) := by decide +kernel
theorem dX7_restrict_66 : decode cX7_restrict 66 = .ok (.lconst 0, 1) := by decide +kernel
theorem dX7_restrict_67 : decode cX7_restrict 67 = .ok (.lcmp, 1) := by decide +kernel
theorem dX7_restrict_68 : decode cX7_restrict 68 = .ok (.ifCond .eq 42, 3) := by decide +kernel
theorem dX7_restrict_71 : decode cX7_restrict 71 = .ok (.lload 7, 2) := by decide +kernel
theorem dX7_restrict_73 : decode cX7_restrict 73 = .ok (.invokestatic 187, 3) := by decide +kernel
theorem dX7_restrict_76 : decode cX7_restrict 76 = .ok (.istore 9, 2) := by decide +kernel
theorem dX7_restrict_78 : decode cX7_restrict 78 = .ok (.aload 6, 2) := by decide +kernel
theorem dX7_restrict_80 : decode cX7_restrict 80 = .ok (.iload 9, 2) := by decide +kernel
theorem dX7_restrict_82 : decode cX7_restrict 82 = .ok (.dup2, 1) := by decide +kernel
theorem dX7_restrict_83 : decode cX7_restrict 83 = .ok (.laload, 1) := by decide +kernel
theorem dX7_restrict_84 : decode cX7_restrict 84 = .ok (.aload_n 0, 1) := by decide +kernel
theorem dX7_restrict_85 : decode cX7_restrict 85 = .ok (.getfield 50, 3) := by decide +kernel
theorem dX7_restrict_88 : decode cX7_restrict 88 = .ok (.aload_n 1, 1) := by decide +kernel
theorem dX7_restrict_89 : decode cX7_restrict 89 = .ok (.iload 4, 2) := by decide +kernel
theorem dX7_restrict_91 : decode cX7_restrict 91 = .ok (.iload 9, 2) := by decide +kernel
theorem dX7_restrict_93 : decode cX7_restrict 93 = .ok (.invokevirtual 191, 3) := by decide +kernel
theorem dX7_restrict_96 : decode cX7_restrict 96 = .ok (.land, 1) := by decide +kernel
theorem dX7_restrict_97 : decode cX7_restrict 97 = .ok (.lastore, 1) := by decide +kernel
theorem dX7_restrict_98 : decode cX7_restrict 98 = .ok (.lload 7, 2) := by decide +kernel
theorem dX7_restrict_100 : decode cX7_restrict 100 = .ok (.lload 7, 2) := by decide +kernel
theorem dX7_restrict_102 : decode cX7_restrict 102 = .ok (.lconst 1, 1) := by decide +kernel
theorem dX7_restrict_103 : decode cX7_restrict 103 = .ok (.lsub, 1) := by decide +kernel
theorem dX7_restrict_104 : decode cX7_restrict 104 = .ok (.land, 1) := by decide +kernel
theorem dX7_restrict_105 : decode cX7_restrict 105 = .ok (.lstore 7, 2) := by decide +kernel
theorem dX7_restrict_107 : decode cX7_restrict 107 = .ok (.goto (-43), 3) := by decide +kernel
theorem dX7_restrict_110 : decode cX7_restrict 110 = .ok (.return_, 1) := by decide +kernel
theorem dX7_sureCell_0 : decode cX7_sureCell 0 = .ok (.aload_n 0, 1) := by decide +kernel
theorem dX7_sureCell_1 : decode cX7_sureCell 1 = .ok (.invokevirtual 99, 3) := by decide +kernel
theorem dX7_sureCell_4 : decode cX7_sureCell 4 = .ok (.iconst 0, 1) := by decide +kernel
theorem dX7_sureCell_5 : decode cX7_sureCell 5 = .ok (.istore_n 2, 1) := by decide +kernel
theorem dX7_sureCell_6 : decode cX7_sureCell 6 = .ok (.iload_n 2, 1) := by decide +kernel
theorem dX7_sureCell_7 : decode cX7_sureCell 7 = .ok (.bipush 64, 2) := by decide +kernel
theorem dX7_sureCell_9 : decode cX7_sureCell 9 = .ok (.if_icmp .ge 33, 3) := by decide +kernel
theorem dX7_sureCell_12 : decode cX7_sureCell 12 = .ok (.aload_n 0, 1) := by decide +kernel
theorem dX7_sureCell_13 : decode cX7_sureCell 13 = .ok (.getfield 83, 3) := by decide +kernel
theorem dX7_sureCell_16 : decode cX7_sureCell 16 = .ok (.ifCond .le 20, 3) := by decide +kernel
theorem dX7_sureCell_19 : decode cX7_sureCell 19 = .ok (.aload_n 0, 1) := by decide +kernel
theorem dX7_sureCell_20 : decode cX7_sureCell 20 = .ok (.getfield 37, 3) := by decide +kernel
theorem dX7_sureCell_23 : decode cX7_sureCell 23 = .ok (.iload_n 1, 1) := by decide +kernel
theorem dX7_sureCell_24 : decode cX7_sureCell 24 = .ok (.aaload, 1) := by decide +kernel
theorem dX7_sureCell_25 : decode cX7_sureCell 25 = .ok (.iload_n 2, 1) := by decide +kernel
theorem dX7_sureCell_26 : decode cX7_sureCell 26 = .ok (.iaload, 1) := by decide +kernel
theorem dX7_sureCell_27 : decode cX7_sureCell 27 = .ok (.aload_n 0, 1) := by decide +kernel
theorem dX7_sureCell_28 : decode cX7_sureCell 28 = .ok (.getfield 83, 3) := by decide +kernel
theorem dX7_sureCell_31 : decode cX7_sureCell 31 = .ok (.if_icmp .ne 5, 3) := by decide +kernel
theorem dX7_sureCell_34 : decode cX7_sureCell 34 = .ok (.iload_n 2, 1) := by decide +kernel
theorem dX7_sureCell_35 : decode cX7_sureCell 35 = .ok (.ireturn, 1) := by decide +kernel
theorem dX7_sureCell_36 : decode cX7_sureCell 36 = .ok (.iinc 2 1, 3) := by decide +kernel
theorem dX7_sureCell_39 : decode cX7_sureCell 39 = .ok (.goto (-33), 3) := by decide +kernel
theorem dX7_sureCell_42 : decode cX7_sureCell 42 = .ok (.bipush (-9), 2) := by decide +kernel
theorem dX7_sureCell_44 : decode cX7_sureCell 44 = .ok (.ireturn, 1) := by decide +kernel
theorem dX7_worst_0 : decode cX7_worst 0 = .ok (.aload_n 0, 1) := by decide +kernel
theorem dX7_worst_1 : decode cX7_worst 1 = .ok (.invokevirtual 99, 3) := by decide +kernel
theorem dX7_worst_4 : decode cX7_worst 4 = .ok (.iconst 0, 1) := by decide +kernel
theorem dX7_worst_5 : decode cX7_worst 5 = .ok (.istore_n 2, 1) := by decide +kernel
theorem dX7_worst_6 : decode cX7_worst 6 = .ok (.iconst 0, 1) := by decide +kernel
theorem dX7_worst_7 : decode cX7_worst 7 = .ok (.istore_n 3, 1) := by decide +kernel
theorem dX7_worst_8 : decode cX7_worst 8 = .ok (.iload_n 3, 1) := by decide +kernel
theorem dX7_worst_9 : decode cX7_worst 9 = .ok (.bipush 64, 2) := by decide +kernel
theorem dX7_worst_11 : decode cX7_worst 11 = .ok (.if_icmp .ge 22, 3) := by decide +kernel
theorem dX7_worst_14 : decode cX7_worst 14 = .ok (.iload_n 2, 1) := by decide +kernel
theorem dX7_worst_15 : decode cX7_worst 15 = .ok (.aload_n 0, 1) := by decide +kernel
theorem dX7_worst_16 : decode cX7_worst 16 = .ok (.getfield 37, 3) := by decide +kernel
theorem dX7_worst_19 : decode cX7_worst 19 = .ok (.iload_n 1, 1) := by decide +kernel
theorem dX7_worst_20 : decode cX7_worst 20 = .ok (.aaload, 1) := by decide +kernel
theorem dX7_worst_21 : decode cX7_worst 21 = .ok (.iload_n 3, 1) := by decide +kernel
theorem dX7_worst_22 : decode cX7_worst 22 = .ok (.iaload, 1) := by decide +kernel
theorem dX7_worst_23 : decode cX7_worst 23 = .ok (.invokestatic 102, 3) := by decide +kernel
theorem dX7_worst_26 : decode cX7_worst 26 = .ok (.istore_n 2, 1) := by decide +kernel
theorem dX7_worst_27 : decode cX7_worst 27 = .ok (.iinc 3 1, 3) := by decide +kernel
theorem dX7_worst_30 : decode cX7_worst 30 = .ok (.goto (-22), 3) := by decide +kernel
theorem dX7_worst_33 : decode cX7_worst 33 = .ok (.iload_n 2, 1) := by decide +kernel
theorem dX7_worst_34 : decode cX7_worst 34 = .ok (.ireturn, 1) := by decide +kernel
theorem dX8_begin_0 : decode cX8_begin 0 = .ok (.aload_n 0, 1) := by decide +kernel
theorem dX8_begin_1 : decode cX8_begin 1 = .ok (.iload_n 1, 1) := by decide +kernel
theorem dX8_begin_2 : decode cX8_begin 2 = .ok (.putfield 9, 3) := by decide +kernel
theorem dX8_begin_5 : decode cX8_begin 5 = .ok (.aload_n 0, 1) := by decide +kernel
theorem dX8_begin_6 : decode cX8_begin 6 = .ok (.iload_n 2, 1) := by decide +kernel
theorem dX8_begin_7 : decode cX8_begin 7 = .ok (.putfield 15, 3) := by decide +kernel
theorem dX8_begin_10 : decode cX8_begin 10 = .ok (.aload_n 0, 1) := by decide +kernel
theorem dX8_begin_11 : decode cX8_begin 11 = .ok (.getfield 18, 3) := by decide +kernel
theorem dX8_begin_14 : decode cX8_begin 14 = .ok (.lconst 0, 1) := by decide +kernel
theorem dX8_begin_15 : decode cX8_begin 15 = .ok (.invokestatic 22, 3) := by decide +kernel
theorem dX8_begin_18 : decode cX8_begin 18 = .ok (.return_, 1) := by decide +kernel
theorem dX8_end_0 : decode cX8_end 0 = .ok (.aload_n 0, 1) := by decide +kernel
theorem dX8_end_1 : decode cX8_end 1 = .ok (.bipush (-9), 2) := by decide +kernel
theorem dX8_end_3 : decode cX8_end 3 = .ok (.putfield 9, 3) := by decide +kernel
theorem dX8_end_6 : decode cX8_end 6 = .ok (.aload_n 0, 1) := by decide +kernel
theorem dX8_end_7 : decode cX8_end 7 = .ok (.iconst 0, 1) := by decide +kernel
theorem dX8_end_8 : decode cX8_end 8 = .ok (.putfield 15, 3) := by decide +kernel
theorem dX8_end_11 : decode cX8_end 11 = .ok (.return_, 1) := by decide +kernel
theorem dX8_init_0 : decode cX8_init 0 = .ok (.aload_n 0, 1) := by decide +kernel
theorem dX8_init_1 : decode cX8_init 1 = .ok (.invokespecial 3, 3) := by decide +kernel
theorem dX8_init_4 : decode cX8_init 4 = .ok (.aload_n 0, 1) := by decide +kernel
theorem dX8_init_5 : decode cX8_init 5 = .ok (.bipush (-9), 2) := by decide +kernel
theorem dX8_init_7 : decode cX8_init 7 = .ok (.putfield 9, 3) := by decide +kernel
theorem dX8_init_10 : decode cX8_init 10 = .ok (.aload_n 0, 1) := by decide +kernel
theorem dX8_init_11 : decode cX8_init 11 = .ok (.iconst 0, 1) := by decide +kernel
theorem dX8_init_12 : decode cX8_init 12 = .ok (.putfield 15, 3) := by decide +kernel
theorem dX8_init_15 : decode cX8_init 15 = .ok (.aload_n 0, 1) := by decide +kernel
theorem dX8_init_16 : decode cX8_init 16 = .ok (.bipush 64, 2) := by decide +kernel
theorem dX8_init_18 : decode cX8_init 18 = .ok (.newarray .long, 2) := by decide +kernel
theorem dX8_init_20 : decode cX8_init 20 = .ok (.putfield 18, 3) := by decide +kernel
theorem dX8_init_23 : decode cX8_init 23 = .ok (.return_, 1) := by decide +kernel
theorem dX8_isEmpty_0 : decode cX8_isEmpty 0 = .ok (.aload_n 0, 1) := by decide +kernel
theorem dX8_isEmpty_1 : decode cX8_isEmpty 1 = .ok (.getfield 9, 3) := by decide +kernel
theorem dX8_isEmpty_4 : decode cX8_isEmpty 4 = .ok (.bipush (-9), 2) := by decide +kernel
theorem dX8_isEmpty_6 : decode cX8_isEmpty 6 = .ok (.if_icmp .ne 7, 3) := by decide +kernel
theorem dX8_isEmpty_9 : decode cX8_isEmpty 9 = .ok (.iconst 1, 1) := by decide +kernel
theorem dX8_isEmpty_10 : decode cX8_isEmpty 10 = .ok (.goto 4, 3) := by decide +kernel
theorem dX8_isEmpty_13 : decode cX8_isEmpty 13 = .ok (.iconst 0, 1) := by decide +kernel
theorem dX8_isEmpty_14 : decode cX8_isEmpty 14 = .ok (.ireturn, 1) := by decide +kernel
theorem dX8_reaches_0 : decode cX8_reaches 0 = .ok (.iload_n 2, 1) := by decide +kernel
theorem dX8_reaches_1 : decode cX8_reaches 1 = .ok (.ifCond .lt 29, 3) := by decide +kernel
theorem dX8_reaches_4 : decode cX8_reaches 4 = .ok (.iload_n 2, 1) := by decide +kernel
theorem dX8_reaches_5 : decode cX8_reaches 5 = .ok (.aload_n 0, 1) := by decide +kernel
theorem dX8_reaches_6 : decode cX8_reaches 6 = .ok (.getfield 15, 3) := by decide +kernel
theorem dX8_reaches_9 : decode cX8_reaches 9 = .ok (.if_icmp .gt 21, 3) := by decide +kernel
theorem dX8_reaches_12 : decode cX8_reaches 12 = .ok (.iload_n 1, 1) := by decide +kernel
theorem dX8_reaches_13 : decode cX8_reaches 13 = .ok (.ifCond .lt 17, 3) := by decide +kernel
theorem dX8_reaches_16 : decode cX8_reaches 16 = .ok (.iload_n 1, 1) := by decide +kernel
theorem dX8_reaches_17 : decode cX8_reaches 17 = .ok (.aload_n 0, 1) := by decide +kernel
theorem dX8_reaches_18 : decode cX8_reaches 18 = .ok (.getfield 15, 3) := by decide +kernel
theorem dX8_reaches_21 : decode cX8_reaches 21 = .ok (.iload_n 2, 1) := by decide +kernel
theorem dX8_reaches_22 : decode cX8_reaches 22 = .ok (.isub, 1) := by decide +kernel
theorem dX8_reaches_23 : decode cX8_reaches 23 = .ok (.if_icmp .gt 7, 3) := by decide +kernel
theorem dX8_reaches_26 : decode cX8_reaches 26 = .ok (.iconst 1, 1) := by decide +kernel
theorem dX8_reaches_27 : decode cX8_reaches 27 = .ok (.goto 4, 3) := by decide +kernel
theorem dX8_reaches_30 : decode cX8_reaches 30 = .ok (.iconst 0, 1) := by decide +kernel
theorem dX8_reaches_31 : decode cX8_reaches 31 = .ok (.ireturn, 1) := by decide +kernel
theorem dX8_write_0 : decode cX8_write 0 = .ok (.aload_n 0, 1) := by decide +kernel
theorem dX8_write_1 : decode cX8_write 1 = .ok (.getfield 9, 3) := by decide +kernel
theorem dX8_write_4 : decode cX8_write 4 = .ok (.tableswitch 66 0 2 #[28, 41, 54], 28) := by decide +kernel
theorem dX8_write_32 : decode cX8_write 32 = .ok (.aload_n 0, 1) := by decide +kernel
theorem dX8_write_33 : decode cX8_write 33 = .ok (.getfield 18, 3) := by decide +kernel
theorem dX8_write_36 : decode cX8_write 36 = .ok (.iload_n 1, 1) := by decide +kernel
theorem dX8_write_37 : decode cX8_write 37 = .ok (.lload_n 2, 1) := by decide +kernel
theorem dX8_write_38 : decode cX8_write 38 = .ok (.l2i, 1) := by decide +kernel
theorem dX8_write_39 : decode cX8_write 39 = .ok (.i2b, 1) := by decide +kernel
theorem dX8_write_40 : decode cX8_write 40 = .ok (.i2l, 1) := by decide +kernel
theorem dX8_write_41 : decode cX8_write 41 = .ok (.lastore, 1) := by decide +kernel
theorem dX8_write_42 : decode cX8_write 42 = .ok (.goto 35, 3) := by decide +kernel
theorem dX8_write_45 : decode cX8_write 45 = .ok (.aload_n 0, 1) := by decide +kernel
theorem dX8_write_46 : decode cX8_write 46 = .ok (.getfield 18, 3) := by decide +kernel
theorem dX8_write_49 : decode cX8_write 49 = .ok (.iload_n 1, 1) := by decide +kernel
theorem dX8_write_50 : decode cX8_write 50 = .ok (.lload_n 2, 1) := by decide +kernel
theorem dX8_write_51 : decode cX8_write 51 = .ok (.l2i, 1) := by decide +kernel
theorem dX8_write_52 : decode cX8_write 52 = .ok (.i2s, 1) := by decide +kernel
theorem dX8_write_53 : decode cX8_write 53 = .ok (.i2l, 1) := by decide +kernel
theorem dX8_write_54 : decode cX8_write 54 = .ok (.lastore, 1) := by decide +kernel
theorem dX8_write_55 : decode cX8_write 55 = .ok (.goto 22, 3) := by decide +kernel
theorem dX8_write_58 : decode cX8_write 58 = .ok (.aload_n 0, 1) := by decide +kernel
theorem dX8_write_59 : decode cX8_write 59 = .ok (.getfield 18, 3) := by decide +kernel
theorem dX8_write_62 : decode cX8_write 62 = .ok (.iload_n 1, 1) := by decide +kernel
theorem dX8_write_63 : decode cX8_write 63 = .ok (.lload_n 2, 1) := by decide +kernel
theorem dX8_write_64 : decode cX8_write 64 = .ok (.l2i, 1) := by decide +kernel
theorem dX8_write_65 : decode cX8_write 65 = .ok (.i2l, 1) := by decide +kernel
theorem dX8_write_66 : decode cX8_write 66 = .ok (.lastore, 1) := by decide +kernel
theorem dX8_write_67 : decode cX8_write 67 = .ok (.goto 10, 3) := by decide +kernel
theorem dX8_write_70 : decode cX8_write 70 = .ok (.aload_n 0, 1) := by decide +kernel
theorem dX8_write_71 : decode cX8_write 71 = .ok (.getfield 18, 3) := by decide +kernel
theorem dX8_write_74 : decode cX8_write 74 = .ok (.iload_n 1, 1) := by decide +kernel
theorem dX8_write_75 : decode cX8_write 75 = .ok (.lload_n 2, 1) := by decide +kernel
theorem dX8_write_76 : decode cX8_write 76 = .ok (.lastore, 1) := by decide +kernel
theorem dX8_write_77 : decode cX8_write 77 = .ok (.return_, 1) := by decide +kernel
theorem dX9_init_0 : decode cX9_init 0 = .ok (.aload_n 0, 1) := by decide +kernel
theorem dX9_init_1 : decode cX9_init 1 = .ok (.invokespecial 3, 3) := by decide +kernel
theorem dX9_init_4 : decode cX9_init 4 = .ok (.aload_n 0, 1) := by decide +kernel
theorem dX9_init_5 : decode cX9_init 5 = .ok (.iload_n 1, 1) := by decide +kernel
theorem dX9_init_6 : decode cX9_init 6 = .ok (.putfield 9, 3) := by decide +kernel
theorem dX9_init_9 : decode cX9_init 9 = .ok (.aload_n 0, 1) := by decide +kernel
theorem dX9_init_10 : decode cX9_init 10 = .ok (.iload_n 2, 1) := by decide +kernel
theorem dX9_init_11 : decode cX9_init 11 = .ok (.putfield 15, 3) := by decide +kernel
theorem dX9_init_14 : decode cX9_init 14 = .ok (.aload_n 0, 1) := by decide +kernel
theorem dX9_init_15 : decode cX9_init 15 = .ok (.iload_n 3, 1) := by decide +kernel
theorem dX9_init_16 : decode cX9_init 16 = .ok (.putfield 18, 3) := by decide +kernel
theorem dX9_init_19 : decode cX9_init 19 = .ok (.aload_n 0, 1) := by decide +kernel
theorem dX9_init_20 : decode cX9_init 20 = .ok (.iload 4, 2) := by decide +kernel
theorem dX9_init_22 : decode cX9_init 22 = .ok (.putfield 21, 3) := by decide +kernel
theorem dX9_init_25 : decode cX9_init 25 = .ok (.aload_n 0, 1) := by decide +kernel
theorem dX9_init_26 : decode cX9_init 26 = .ok (.iload 5, 2) := by decide +kernel
theorem dX9_init_28 : decode cX9_init 28 = .ok (.putfield 24, 3) := by decide +kernel
theorem dX9_init_31 : decode cX9_init 31 = .ok (.return_, 1) := by decide +kernel
theorem dX9_isAnchor_0 : decode cX9_isAnchor 0 = .ok (.aload_n 0, 1) := by decide +kernel
theorem dX9_isAnchor_1 : decode cX9_isAnchor 1 = .ok (.getfield 15, 3) := by decide +kernel
theorem dX9_isAnchor_4 : decode cX9_isAnchor 4 = .ok (.ifCond .eq 7, 3) := by decide +kernel
theorem dX9_isAnchor_7 : decode cX9_isAnchor 7 = .ok (.iconst 1, 1) := by decide +kernel
theorem dX9_isAnchor_8 : decode cX9_isAnchor 8 = .ok (.goto 4, 3) := by decide +kernel
theorem dX9_isAnchor_11 : decode cX9_isAnchor 11 = .ok (.iconst 0, 1) := by decide +kernel
theorem dX9_isAnchor_12 : decode cX9_isAnchor 12 = .ok (.ireturn, 1) := by decide +kernel

theorem dX0_init_0 : decode cX0_init 0 = .ok (.aload_n 0, 1) := by decide +kernel
theorem dX0_init_1 : decode cX0_init 1 = .ok (.invokespecial 1, 3) := by decide +kernel
theorem dX0_init_4 : decode cX0_init 4 = .ok (.aload_n 0, 1) := by decide +kernel
theorem dX0_init_5 : decode cX0_init 5 = .ok (.iconst 0, 1) := by decide +kernel
theorem dX0_init_6 : decode cX0_init 6 = .ok (.putfield 7, 3) := by decide +kernel
theorem dX0_init_9 : decode cX0_init 9 = .ok (.aload_n 0, 1) := by decide +kernel
theorem dX0_init_10 : decode cX0_init 10 = .ok (.iconst 0, 1) := by decide +kernel
theorem dX0_init_11 : decode cX0_init 11 = .ok (.putfield 13, 3) := by decide +kernel
theorem dX0_init_14 : decode cX0_init 14 = .ok (.aload_n 0, 1) := by decide +kernel
theorem dX0_init_15 : decode cX0_init 15 = .ok (.iconst 0, 1) := by decide +kernel
theorem dX0_init_16 : decode cX0_init 16 = .ok (.putfield 16, 3) := by decide +kernel
theorem dX0_init_19 : decode cX0_init 19 = .ok (.aload_n 0, 1) := by decide +kernel
theorem dX0_init_20 : decode cX0_init 20 = .ok (.iconst 0, 1) := by decide +kernel
theorem dX0_init_21 : decode cX0_init 21 = .ok (.putfield 19, 3) := by decide +kernel
theorem dX0_init_24 : decode cX0_init 24 = .ok (.aload_n 0, 1) := by decide +kernel
theorem dX0_init_25 : decode cX0_init 25 = .ok (.iconst 0, 1) := by decide +kernel
theorem dX0_init_26 : decode cX0_init 26 = .ok (.putfield 22, 3) := by decide +kernel
theorem dX0_init_29 : decode cX0_init 29 = .ok (.return_, 1) := by decide +kernel
theorem dX0_setStretch_0 : decode cX0_setStretch 0 = .ok (.aload_n 0, 1) := by decide +kernel
theorem dX0_setStretch_1 : decode cX0_setStretch 1 = .ok (.iload_n 1, 1) := by decide +kernel
theorem dX0_setStretch_2 : decode cX0_setStretch 2 = .ok (.putfield 7, 3) := by decide +kernel
theorem dX0_setStretch_5 : decode cX0_setStretch 5 = .ok (.aload_n 0, 1) := by decide +kernel
theorem dX0_setStretch_6 : decode cX0_setStretch 6 = .ok (.iload_n 2, 1) := by decide +kernel
theorem dX0_setStretch_7 : decode cX0_setStretch 7 = .ok (.putfield 13, 3) := by decide +kernel
theorem dX0_setStretch_10 : decode cX0_setStretch 10 = .ok (.aload_n 0, 1) := by decide +kernel
theorem dX0_setStretch_11 : decode cX0_setStretch 11 = .ok (.iload_n 3, 1) := by decide +kernel
theorem dX0_setStretch_12 : decode cX0_setStretch 12 = .ok (.putfield 16, 3) := by decide +kernel
theorem dX0_setStretch_15 : decode cX0_setStretch 15 = .ok (.return_, 1) := by decide +kernel
theorem dX0_setShrink_0 : decode cX0_setShrink 0 = .ok (.aload_n 0, 1) := by decide +kernel
theorem dX0_setShrink_1 : decode cX0_setShrink 1 = .ok (.iload_n 1, 1) := by decide +kernel
theorem dX0_setShrink_2 : decode cX0_setShrink 2 = .ok (.putfield 19, 3) := by decide +kernel
theorem dX0_setShrink_5 : decode cX0_setShrink 5 = .ok (.aload_n 0, 1) := by decide +kernel
theorem dX0_setShrink_6 : decode cX0_setShrink 6 = .ok (.iload_n 2, 1) := by decide +kernel
theorem dX0_setShrink_7 : decode cX0_setShrink 7 = .ok (.putfield 22, 3) := by decide +kernel
theorem dX0_setShrink_10 : decode cX0_setShrink 10 = .ok (.return_, 1) := by decide +kernel
theorem dX1_init_0 : decode cX1_init 0 = .ok (.aload_n 0, 1) := by decide +kernel
theorem dX1_init_1 : decode cX1_init 1 = .ok (.invokespecial 3, 3) := by decide +kernel
theorem dX1_init_4 : decode cX1_init 4 = .ok (.aload_n 0, 1) := by decide +kernel
theorem dX1_init_5 : decode cX1_init 5 = .ok (.bipush 24, 2) := by decide +kernel
theorem dX1_init_7 : decode cX1_init 7 = .ok (.newarray .int, 2) := by decide +kernel
theorem dX1_init_9 : decode cX1_init 9 = .ok (.putfield 9, 3) := by decide +kernel
theorem dX1_init_12 : decode cX1_init 12 = .ok (.aload_n 0, 1) := by decide +kernel
theorem dX1_init_13 : decode cX1_init 13 = .ok (.bipush 24, 2) := by decide +kernel
theorem dX1_init_15 : decode cX1_init 15 = .ok (.newarray .boolean, 2) := by decide +kernel
theorem dX1_init_17 : decode cX1_init 17 = .ok (.putfield 15, 3) := by decide +kernel
theorem dX1_init_20 : decode cX1_init 20 = .ok (.aload_n 0, 1) := by decide +kernel
theorem dX1_init_21 : decode cX1_init 21 = .ok (.bipush 24, 2) := by decide +kernel
theorem dX1_init_23 : decode cX1_init 23 = .ok (.newarray .long, 2) := by decide +kernel
theorem dX1_init_25 : decode cX1_init 25 = .ok (.putfield 19, 3) := by decide +kernel
theorem dX1_init_28 : decode cX1_init 28 = .ok (.aload_n 0, 1) := by decide +kernel
theorem dX1_init_29 : decode cX1_init 29 = .ok (.bipush 25, 2) := by decide +kernel
theorem dX1_init_31 : decode cX1_init 31 = .ok (.newarray .int, 2) := by decide +kernel
theorem dX1_init_33 : decode cX1_init 33 = .ok (.putfield 23, 3) := by decide +kernel
theorem dX1_init_36 : decode cX1_init 36 = .ok (.aload_n 0, 1) := by decide +kernel
theorem dX1_init_37 : decode cX1_init 37 = .ok (.bipush 25, 2) := by decide +kernel
theorem dX1_init_39 : decode cX1_init 39 = .ok (.newarray .int, 2) := by decide +kernel
theorem dX1_init_41 : decode cX1_init 41 = .ok (.putfield 26, 3) := by decide +kernel
theorem dX1_init_44 : decode cX1_init 44 = .ok (.aload_n 0, 1) := by decide +kernel
theorem dX1_init_45 : decode cX1_init 45 = .ok (.bipush 25, 2) := by decide +kernel
theorem dX1_init_47 : decode cX1_init 47 = .ok (.newarray .int, 2) := by decide +kernel
theorem dX1_init_49 : decode cX1_init 49 = .ok (.putfield 29, 3) := by decide +kernel
theorem dX1_init_52 : decode cX1_init 52 = .ok (.aload_n 0, 1) := by decide +kernel
theorem dX1_init_53 : decode cX1_init 53 = .ok (.new 32, 3) := by decide +kernel
theorem dX1_init_56 : decode cX1_init 56 = .ok (.dup, 1) := by decide +kernel
theorem dX1_init_57 : decode cX1_init 57 = .ok (.invokespecial 34, 3) := by decide +kernel
theorem dX1_init_60 : decode cX1_init 60 = .ok (.putfield 35, 3) := by decide +kernel
theorem dX1_init_63 : decode cX1_init 63 = .ok (.aload_n 0, 1) := by decide +kernel
theorem dX1_init_64 : decode cX1_init 64 = .ok (.iconst 0, 1) := by decide +kernel
theorem dX1_init_65 : decode cX1_init 65 = .ok (.putfield 39, 3) := by decide +kernel
theorem dX1_init_68 : decode cX1_init 68 = .ok (.aload_n 0, 1) := by decide +kernel
theorem dX1_init_69 : decode cX1_init 69 = .ok (.iconst 0, 1) := by decide +kernel
theorem dX1_init_70 : decode cX1_init 70 = .ok (.putfield 43, 3) := by decide +kernel
theorem dX1_init_73 : decode cX1_init 73 = .ok (.aload_n 0, 1) := by decide +kernel
theorem dX1_init_74 : decode cX1_init 74 = .ok (.lconst 0, 1) := by decide +kernel
theorem dX1_init_75 : decode cX1_init 75 = .ok (.putfield 46, 3) := by decide +kernel
theorem dX1_init_78 : decode cX1_init 78 = .ok (.aload_n 0, 1) := by decide +kernel
theorem dX1_init_79 : decode cX1_init 79 = .ok (.lconst 0, 1) := by decide +kernel
theorem dX1_init_80 : decode cX1_init 80 = .ok (.putfield 50, 3) := by decide +kernel
theorem dX1_init_83 : decode cX1_init 83 = .ok (.aload_n 0, 1) := by decide +kernel
theorem dX1_init_84 : decode cX1_init 84 = .ok (.iconst (-1), 1) := by decide +kernel
theorem dX1_init_85 : decode cX1_init 85 = .ok (.putfield 53, 3) := by decide +kernel
theorem dX1_init_88 : decode cX1_init 88 = .ok (.aload_n 0, 1) := by decide +kernel
theorem dX1_init_89 : decode cX1_init 89 = .ok (.lconst 0, 1) := by decide +kernel
theorem dX1_init_90 : decode cX1_init 90 = .ok (.putfield 56, 3) := by decide +kernel
theorem dX1_init_93 : decode cX1_init 93 = .ok (.return_, 1) := by decide +kernel
theorem dX1_setTable_0 : decode cX1_setTable 0 = .ok (.aload_n 0, 1) := by decide +kernel
theorem dX1_setTable_1 : decode cX1_setTable 1 = .ok (.aload_n 1, 1) := by decide +kernel
theorem dX1_setTable_2 : decode cX1_setTable 2 = .ok (.invokevirtual 59, 3) := by decide +kernel
theorem dX1_setTable_5 : decode cX1_setTable 5 = .ok (.aload_n 0, 1) := by decide +kernel
theorem dX1_setTable_6 : decode cX1_setTable 6 = .ok (.aload_n 1, 1) := by decide +kernel
theorem dX1_setTable_7 : decode cX1_setTable 7 = .ok (.invokevirtual 63, 3) := by decide +kernel
theorem dX1_setTable_10 : decode cX1_setTable 10 = .ok (.aload_n 0, 1) := by decide +kernel
theorem dX1_setTable_11 : decode cX1_setTable 11 = .ok (.aload_n 0, 1) := by decide +kernel
theorem dX1_setTable_12 : decode cX1_setTable 12 = .ok (.invokevirtual 66, 3) := by decide +kernel
theorem dX1_setTable_15 : decode cX1_setTable 15 = .ok (.putfield 46, 3) := by decide +kernel
theorem dX1_setTable_18 : decode cX1_setTable 18 = .ok (.aload_n 0, 1) := by decide +kernel
theorem dX1_setTable_19 : decode cX1_setTable 19 = .ok (.iload_n 2, 1) := by decide +kernel
theorem dX1_setTable_20 : decode cX1_setTable 20 = .ok (.ifCond .ne 7, 3) := by decide +kernel
theorem dX1_setTable_23 : decode cX1_setTable 23 = .ok (.lconst 0, 1) := by decide +kernel
theorem dX1_setTable_24 : decode cX1_setTable 24 = .ok (.goto 20, 3) := by decide +kernel
theorem dX1_setTable_27 : decode cX1_setTable 27 = .ok (.iload_n 2, 1) := by decide +kernel
theorem dX1_setTable_28 : decode cX1_setTable 28 = .ok (.iconst 1, 1) := by decide +kernel
theorem dX1_setTable_29 : decode cX1_setTable 29 = .ok (.if_icmp .ne 13, 3) := by decide +kernel
theorem dX1_setTable_32 : decode cX1_setTable 32 = .ok (.iload_n 3, 1) := by decide +kernel
theorem dX1_setTable_33 : decode cX1_setTable 33 = .ok (.i2l, 1) := by decide +kernel
theorem dX1_setTable_34 : decode cX1_setTable 34 = .ok (.aload_n 0, 1) := by decide +kernel
theorem dX1_setTable_35 : decode cX1_setTable 35 = .ok (.getfield 46, 3) := by decide +kernel
theorem dX1_setTable_38 : decode cX1_setTable 38 = .ok (.lsub, 1) := by decide +kernel
theorem dX1_setTable_39 : decode cX1_setTable 39 = .ok (.goto 5, 3) := by decide +kernel
theorem dX1_setTable_42 : decode cX1_setTable 42 = .ok (.iload_n 3, 1) := by decide +kernel
theorem dX1_setTable_43 : decode cX1_setTable 43 = .ok (.i2l, 1) := by decide +kernel
theorem dX1_setTable_44 : decode cX1_setTable 44 = .ok (.putfield 50, 3) := by decide +kernel
theorem dX1_setTable_47 : decode cX1_setTable 47 = .ok (.aload_n 0, 1) := by decide +kernel
theorem dX1_setTable_48 : decode cX1_setTable 48 = .ok (.aload_n 1, 1) := by decide +kernel
theorem dX1_setTable_49 : decode cX1_setTable 49 = .ok (.invokevirtual 70, 3) := by decide +kernel
theorem dX1_setTable_52 : decode cX1_setTable 52 = .ok (.aload_n 0, 1) := by decide +kernel
theorem dX1_setTable_53 : decode cX1_setTable 53 = .ok (.aload_n 0, 1) := by decide +kernel
theorem dX1_setTable_54 : decode cX1_setTable 54 = .ok (.invokevirtual 73, 3) := by decide +kernel
theorem dX1_setTable_57 : decode cX1_setTable 57 = .ok (.putfield 53, 3) := by decide +kernel
theorem dX1_setTable_60 : decode cX1_setTable 60 = .ok (.aload_n 0, 1) := by decide +kernel
theorem dX1_setTable_61 : decode cX1_setTable 61 = .ok (.invokevirtual 77, 3) := by decide +kernel
theorem dX1_setTable_64 : decode cX1_setTable 64 = .ok (.aload_n 0, 1) := by decide +kernel
theorem dX1_setTable_65 : decode cX1_setTable 65 = .ok (.dup, 1) := by decide +kernel
theorem dX1_setTable_66 : decode cX1_setTable 66 = .ok (.getfield 39, 3) := by decide +kernel
theorem dX1_setTable_69 : decode cX1_setTable 69 = .ok (.iconst 1, 1) := by decide +kernel
theorem dX1_setTable_70 : decode cX1_setTable 70 = .ok (.iadd, 1) := by decide +kernel
theorem dX1_setTable_71 : decode cX1_setTable 71 = .ok (.putfield 39, 3) := by decide +kernel
theorem dX1_setTable_74 : decode cX1_setTable 74 = .ok (.aload_n 0, 1) := by decide +kernel
theorem dX1_setTable_75 : decode cX1_setTable 75 = .ok (.invokevirtual 80, 3) := by decide +kernel
theorem dX1_setTable_78 : decode cX1_setTable 78 = .ok (.lreturn, 1) := by decide +kernel
theorem dX1_gatherNeeds_0 : decode cX1_gatherNeeds 0 = .ok (.aload_n 0, 1) := by decide +kernel
theorem dX1_gatherNeeds_1 : decode cX1_gatherNeeds 1 = .ok (.getfield 35, 3) := by decide +kernel
theorem dX1_gatherNeeds_4 : decode cX1_gatherNeeds 4 = .ok (.invokevirtual 83, 3) := by decide +kernel
theorem dX1_gatherNeeds_7 : decode cX1_gatherNeeds 7 = .ok (.aload_n 0, 1) := by decide +kernel
theorem dX1_gatherNeeds_8 : decode cX1_gatherNeeds 8 = .ok (.aload_n 1, 1) := by decide +kernel
theorem dX1_gatherNeeds_9 : decode cX1_gatherNeeds 9 = .ok (.getfield 86, 3) := by decide +kernel
theorem dX1_gatherNeeds_12 : decode cX1_gatherNeeds 12 = .ok (.getfield 92, 3) := by decide +kernel
theorem dX1_gatherNeeds_15 : decode cX1_gatherNeeds 15 = .ok (.putfield 43, 3) := by decide +kernel
theorem dX1_gatherNeeds_18 : decode cX1_gatherNeeds 18 = .ok (.iconst 0, 1) := by decide +kernel
theorem dX1_gatherNeeds_19 : decode cX1_gatherNeeds 19 = .ok (.istore_n 2, 1) := by decide +kernel
theorem dX1_gatherNeeds_20 : decode cX1_gatherNeeds 20 = .ok (.iload_n 2, 1) := by decide +kernel
theorem dX1_gatherNeeds_21 : decode cX1_gatherNeeds 21 = .ok (.aload_n 1, 1) := by decide +kernel
theorem dX1_gatherNeeds_22 : decode cX1_gatherNeeds 22 = .ok (.getfield 97, 3) := by decide +kernel
theorem dX1_gatherNeeds_25 : decode cX1_gatherNeeds 25 = .ok (.if_icmp .ge 77, 3) := by decide +kernel
theorem dX1_gatherNeeds_28 : decode cX1_gatherNeeds 28 = .ok (.aload_n 1, 1) := by decide +kernel
theorem dX1_gatherNeeds_29 : decode cX1_gatherNeeds 29 = .ok (.getfield 100, 3) := by decide +kernel
theorem dX1_gatherNeeds_32 : decode cX1_gatherNeeds 32 = .ok (.iload_n 2, 1) := by decide +kernel
theorem dX1_gatherNeeds_33 : decode cX1_gatherNeeds 33 = .ok (.aaload, 1) := by decide +kernel
theorem dX1_gatherNeeds_34 : decode cX1_gatherNeeds 34 = .ok (.astore_n 3, 1) := by decide +kernel
theorem dX1_gatherNeeds_35 : decode cX1_gatherNeeds 35 = .ok (.aload_n 0, 1) := by decide +kernel
theorem dX1_gatherNeeds_36 : decode cX1_gatherNeeds 36 = .ok (.aload_n 0, 1) := by decide +kernel
theorem dX1_gatherNeeds_37 : decode cX1_gatherNeeds 37 = .ok (.getfield 43, 3) := by decide +kernel
theorem dX1_gatherNeeds_40 : decode cX1_gatherNeeds 40 = .ok (.aload_n 3, 1) := by decide +kernel
theorem dX1_gatherNeeds_41 : decode cX1_gatherNeeds 41 = .ok (.getfield 104, 3) := by decide +kernel
theorem dX1_gatherNeeds_44 : decode cX1_gatherNeeds 44 = .ok (.invokestatic 107, 3) := by decide +kernel
theorem dX1_gatherNeeds_47 : decode cX1_gatherNeeds 47 = .ok (.putfield 43, 3) := by decide +kernel
theorem dX1_gatherNeeds_50 : decode cX1_gatherNeeds 50 = .ok (.iconst 0, 1) := by decide +kernel
theorem dX1_gatherNeeds_51 : decode cX1_gatherNeeds 51 = .ok (.istore 4, 2) := by decide +kernel
theorem dX1_gatherNeeds_53 : decode cX1_gatherNeeds 53 = .ok (.iload 4, 2) := by decide +kernel
theorem dX1_gatherNeeds_55 : decode cX1_gatherNeeds 55 = .ok (.aload_n 3, 1) := by decide +kernel
theorem dX1_gatherNeeds_56 : decode cX1_gatherNeeds 56 = .ok (.getfield 113, 3) := by decide +kernel
theorem dX1_gatherNeeds_59 : decode cX1_gatherNeeds 59 = .ok (.if_icmp .ge 37, 3) := by decide +kernel
theorem dX1_gatherNeeds_62 : decode cX1_gatherNeeds 62 = .ok (.aload_n 0, 1) := by decide +kernel
theorem dX1_gatherNeeds_63 : decode cX1_gatherNeeds 63 = .ok (.getfield 35, 3) := by decide +kernel
theorem dX1_gatherNeeds_66 : decode cX1_gatherNeeds 66 = .ok (.aload_n 3, 1) := by decide +kernel
theorem dX1_gatherNeeds_67 : decode cX1_gatherNeeds 67 = .ok (.getfield 116, 3) := by decide +kernel
theorem dX1_gatherNeeds_70 : decode cX1_gatherNeeds 70 = .ok (.iload 4, 2) := by decide +kernel
theorem dX1_gatherNeeds_72 : decode cX1_gatherNeeds 72 = .ok (.iaload, 1) := by decide +kernel
theorem dX1_gatherNeeds_73 : decode cX1_gatherNeeds 73 = .ok (.aload_n 3, 1) := by decide +kernel
theorem dX1_gatherNeeds_74 : decode cX1_gatherNeeds 74 = .ok (.getfield 119, 3) := by decide +kernel
theorem dX1_gatherNeeds_77 : decode cX1_gatherNeeds 77 = .ok (.iload 4, 2) := by decide +kernel
theorem dX1_gatherNeeds_79 : decode cX1_gatherNeeds 79 = .ok (.iaload, 1) := by decide +kernel
theorem dX1_gatherNeeds_80 : decode cX1_gatherNeeds 80 = .ok (.aload_n 3, 1) := by decide +kernel
theorem dX1_gatherNeeds_81 : decode cX1_gatherNeeds 81 = .ok (.getfield 122, 3) := by decide +kernel
theorem dX1_gatherNeeds_84 : decode cX1_gatherNeeds 84 = .ok (.iload 4, 2) := by decide +kernel
theorem dX1_gatherNeeds_86 : decode cX1_gatherNeeds 86 = .ok (.iaload, 1) := by decide +kernel
theorem dX1_gatherNeeds_87 : decode cX1_gatherNeeds 87 = .ok (.invokevirtual 123, 3) := by decide +kernel
theorem dX1_gatherNeeds_90 : decode cX1_gatherNeeds 90 = .ok (.iinc 4 1, 3) := by decide +kernel
theorem dX1_gatherNeeds_93 : decode cX1_gatherNeeds 93 = .ok (.goto (-40), 3) := by decide +kernel
theorem dX1_gatherNeeds_96 : decode cX1_gatherNeeds 96 = .ok (.iinc 2 1, 3) := by decide +kernel
theorem dX1_gatherNeeds_99 : decode cX1_gatherNeeds 99 = .ok (.goto (-79), 3) := by decide +kernel
theorem dX1_gatherNeeds_102 : decode cX1_gatherNeeds 102 = .ok (.return_, 1) := by decide +kernel
theorem dX1_findWidths_0 : decode cX1_findWidths 0 = .ok (.aload_n 0, 1) := by decide +kernel
theorem dX1_findWidths_1 : decode cX1_findWidths 1 = .ok (.getfield 23, 3) := by decide +kernel
theorem dX1_findWidths_4 : decode cX1_findWidths 4 = .ok (.iconst 0, 1) := by decide +kernel
theorem dX1_findWidths_5 : decode cX1_findWidths 5 = .ok (.aload_n 1, 1) := by decide +kernel
theorem dX1_findWidths_6 : decode cX1_findWidths 6 = .ok (.iconst 0, 1) := by decide +kernel
theorem dX1_findWidths_7 : decode cX1_findWidths 7 = .ok (.invokevirtual 127, 3) := by decide +kernel
theorem dX1_findWidths_10 : decode cX1_findWidths 10 = .ok (.getfield 131, 3) := by decide +kernel
theorem dX1_findWidths_13 : decode cX1_findWidths 13 = .ok (.iastore, 1) := by decide +kernel
theorem dX1_findWidths_14 : decode cX1_findWidths 14 = .ok (.iconst 0, 1) := by decide +kernel
theorem dX1_findWidths_15 : decode cX1_findWidths 15 = .ok (.istore_n 2, 1) := by decide +kernel
theorem dX1_findWidths_16 : decode cX1_findWidths 16 = .ok (.iload_n 2, 1) := by decide +kernel
theorem dX1_findWidths_17 : decode cX1_findWidths 17 = .ok (.aload_n 0, 1) := by decide +kernel
theorem dX1_findWidths_18 : decode cX1_findWidths 18 = .ok (.getfield 43, 3) := by decide +kernel
theorem dX1_findWidths_21 : decode cX1_findWidths 21 = .ok (.if_icmp .ge 108, 3) := by decide +kernel
theorem dX1_findWidths_24 : decode cX1_findWidths 24 = .ok (.aload_n 0, 1) := by decide +kernel
theorem dX1_findWidths_25 : decode cX1_findWidths 25 = .ok (.getfield 35, 3) := by decide +kernel
theorem dX1_findWidths_28 : decode cX1_findWidths 28 = .ok (.iload_n 2, 1) := by decide +kernel
theorem dX1_findWidths_29 : decode cX1_findWidths 29 = .ok (.invokevirtual 136, 3) := by decide +kernel
theorem dX1_findWidths_32 : decode cX1_findWidths 32 = .ok (.istore_n 3, 1) := by decide +kernel
theorem dX1_findWidths_33 : decode cX1_findWidths 33 = .ok (.aload_n 0, 1) := by decide +kernel
theorem dX1_findWidths_34 : decode cX1_findWidths 34 = .ok (.getfield 15, 3) := by decide +kernel
theorem dX1_findWidths_37 : decode cX1_findWidths 37 = .ok (.iload_n 2, 1) := by decide +kernel
theorem dX1_findWidths_38 : decode cX1_findWidths 38 = .ok (.iload_n 3, 1) := by decide +kernel
theorem dX1_findWidths_39 : decode cX1_findWidths 39 = .ok (.iconst (-1), 1) := by decide +kernel
theorem dX1_findWidths_40 : decode cX1_findWidths 40 = .ok (.if_icmp .ne 7, 3) := by decide +kernel
theorem dX1_findWidths_43 : decode cX1_findWidths 43 = .ok (.iconst 1, 1) := by decide +kernel
theorem dX1_findWidths_44 : decode cX1_findWidths 44 = .ok (.goto 4, 3) := by decide +kernel
theorem dX1_findWidths_47 : decode cX1_findWidths 47 = .ok (.iconst 0, 1) := by decide +kernel
theorem dX1_findWidths_48 : decode cX1_findWidths 48 = .ok (.bastore, 1) := by decide +kernel
theorem dX1_findWidths_49 : decode cX1_findWidths 49 = .ok (.aload_n 0, 1) := by decide +kernel
theorem dX1_findWidths_50 : decode cX1_findWidths 50 = .ok (.getfield 9, 3) := by decide +kernel
theorem dX1_findWidths_53 : decode cX1_findWidths 53 = .ok (.iload_n 2, 1) := by decide +kernel
theorem dX1_findWidths_54 : decode cX1_findWidths 54 = .ok (.aload_n 0, 1) := by decide +kernel
theorem dX1_findWidths_55 : decode cX1_findWidths 55 = .ok (.getfield 15, 3) := by decide +kernel
theorem dX1_findWidths_58 : decode cX1_findWidths 58 = .ok (.iload_n 2, 1) := by decide +kernel
theorem dX1_findWidths_59 : decode cX1_findWidths 59 = .ok (.baload, 1) := by decide +kernel
theorem dX1_findWidths_60 : decode cX1_findWidths 60 = .ok (.ifCond .eq 7, 3) := by decide +kernel
theorem dX1_findWidths_63 : decode cX1_findWidths 63 = .ok (.iconst 0, 1) := by decide +kernel
theorem dX1_findWidths_64 : decode cX1_findWidths 64 = .ok (.goto 4, 3) := by decide +kernel
theorem dX1_findWidths_67 : decode cX1_findWidths 67 = .ok (.iload_n 3, 1) := by decide +kernel
theorem dX1_findWidths_68 : decode cX1_findWidths 68 = .ok (.iastore, 1) := by decide +kernel
theorem dX1_findWidths_69 : decode cX1_findWidths 69 = .ok (.aload_n 0, 1) := by decide +kernel
theorem dX1_findWidths_70 : decode cX1_findWidths 70 = .ok (.getfield 23, 3) := by decide +kernel
theorem dX1_findWidths_73 : decode cX1_findWidths 73 = .ok (.iload_n 2, 1) := by decide +kernel
theorem dX1_findWidths_74 : decode cX1_findWidths 74 = .ok (.iconst 1, 1) := by decide +kernel
theorem dX1_findWidths_75 : decode cX1_findWidths 75 = .ok (.iadd, 1) := by decide +kernel
theorem dX1_findWidths_76 : decode cX1_findWidths 76 = .ok (.aload_n 0, 1) := by decide +kernel
theorem dX1_findWidths_77 : decode cX1_findWidths 77 = .ok (.getfield 15, 3) := by decide +kernel
theorem dX1_findWidths_80 : decode cX1_findWidths 80 = .ok (.iload_n 2, 1) := by decide +kernel
theorem dX1_findWidths_81 : decode cX1_findWidths 81 = .ok (.baload, 1) := by decide +kernel
theorem dX1_findWidths_82 : decode cX1_findWidths 82 = .ok (.ifCond .eq 7, 3) := by decide +kernel
theorem dX1_findWidths_85 : decode cX1_findWidths 85 = .ok (.iconst 0, 1) := by decide +kernel
theorem dX1_findWidths_86 : decode cX1_findWidths 86 = .ok (.goto 13, 3) := by decide +kernel
theorem dX1_findWidths_89 : decode cX1_findWidths 89 = .ok (.aload_n 1, 1) := by decide +kernel
theorem dX1_findWidths_90 : decode cX1_findWidths 90 = .ok (.iload_n 2, 1) := by decide +kernel
theorem dX1_findWidths_91 : decode cX1_findWidths 91 = .ok (.iconst 1, 1) := by decide +kernel
theorem dX1_findWidths_92 : decode cX1_findWidths 92 = .ok (.iadd, 1) := by decide +kernel
theorem dX1_findWidths_93 : decode cX1_findWidths 93 = .ok (.invokevirtual 127, 3) := by decide +kernel
theorem dX1_findWidths_96 : decode cX1_findWidths 96 = .ok (.getfield 131, 3) := by decide +kernel
theorem dX1_findWidths_99 : decode cX1_findWidths 99 = .ok (.iastore, 1) := by decide +kernel
theorem dX1_findWidths_100 : decode cX1_findWidths 100 = .ok (.aload_n 0, 1) := by decide +kernel
theorem dX1_findWidths_101 : decode cX1_findWidths 101 = .ok (.getfield 35, 3) := by decide +kernel
theorem dX1_findWidths_104 : decode cX1_findWidths 104 = .ok (.iload_n 2, 1) := by decide +kernel
theorem dX1_findWidths_105 : decode cX1_findWidths 105 = .ok (.aload_n 0, 1) := by decide +kernel
theorem dX1_findWidths_106 : decode cX1_findWidths 106 = .ok (.getfield 9, 3) := by decide +kernel
theorem dX1_findWidths_109 : decode cX1_findWidths 109 = .ok (.iload_n 2, 1) := by decide +kernel
theorem dX1_findWidths_110 : decode cX1_findWidths 110 = .ok (.iaload, 1) := by decide +kernel
theorem dX1_findWidths_111 : decode cX1_findWidths 111 = .ok (.aload_n 0, 1) := by decide +kernel
theorem dX1_findWidths_112 : decode cX1_findWidths 112 = .ok (.getfield 23, 3) := by decide +kernel
theorem dX1_findWidths_115 : decode cX1_findWidths 115 = .ok (.iload_n 2, 1) := by decide +kernel
theorem dX1_findWidths_116 : decode cX1_findWidths 116 = .ok (.iconst 1, 1) := by decide +kernel
theorem dX1_findWidths_117 : decode cX1_findWidths 117 = .ok (.iadd, 1) := by decide +kernel
theorem dX1_findWidths_118 : decode cX1_findWidths 118 = .ok (.iaload, 1) := by decide +kernel
theorem dX1_findWidths_119 : decode cX1_findWidths 119 = .ok (.iadd, 1) := by decide +kernel
theorem dX1_findWidths_120 : decode cX1_findWidths 120 = .ok (.invokevirtual 140, 3) := by decide +kernel
theorem dX1_findWidths_123 : decode cX1_findWidths 123 = .ok (.iinc 2 1, 3) := by decide +kernel
theorem dX1_findWidths_126 : decode cX1_findWidths 126 = .ok (.goto (-110), 3) := by decide +kernel
theorem dX1_findWidths_129 : decode cX1_findWidths 129 = .ok (.return_, 1) := by decide +kernel
theorem dX1_naturalWidth_0 : decode cX1_naturalWidth 0 = .ok (.aload_n 0, 1) := by decide +kernel
theorem dX1_naturalWidth_1 : decode cX1_naturalWidth 1 = .ok (.getfield 23, 3) := by decide +kernel
theorem dX1_naturalWidth_4 : decode cX1_naturalWidth 4 = .ok (.iconst 0, 1) := by decide +kernel
theorem dX1_naturalWidth_5 : decode cX1_naturalWidth 5 = .ok (.iaload, 1) := by decide +kernel
theorem dX1_naturalWidth_6 : decode cX1_naturalWidth 6 = .ok (.i2l, 1) := by decide +kernel
theorem dX1_naturalWidth_7 : decode cX1_naturalWidth 7 = .ok (.lstore_n 1, 1) := by decide +kernel
theorem dX1_naturalWidth_8 : decode cX1_naturalWidth 8 = .ok (.iconst 0, 1) := by decide +kernel
theorem dX1_naturalWidth_9 : decode cX1_naturalWidth 9 = .ok (.istore_n 3, 1) := by decide +kernel
theorem dX1_naturalWidth_10 : decode cX1_naturalWidth 10 = .ok (.iload_n 3, 1) := by decide +kernel
theorem dX1_naturalWidth_11 : decode cX1_naturalWidth 11 = .ok (.aload_n 0, 1) := by decide +kernel
theorem dX1_naturalWidth_12 : decode cX1_naturalWidth 12 = .ok (.getfield 43, 3) := by decide +kernel
theorem dX1_naturalWidth_15 : decode cX1_naturalWidth 15 = .ok (.if_icmp .ge 28, 3) := by decide +kernel
theorem dX1_naturalWidth_18 : decode cX1_naturalWidth 18 = .ok (.lload_n 1, 1) := by decide +kernel
theorem dX1_naturalWidth_19 : decode cX1_naturalWidth 19 = .ok (.aload_n 0, 1) := by decide +kernel
theorem dX1_naturalWidth_20 : decode cX1_naturalWidth 20 = .ok (.getfield 9, 3) := by decide +kernel
theorem dX1_naturalWidth_23 : decode cX1_naturalWidth 23 = .ok (.iload_n 3, 1) := by decide +kernel
theorem dX1_naturalWidth_24 : decode cX1_naturalWidth 24 = .ok (.iaload, 1) := by decide +kernel
theorem dX1_naturalWidth_25 : decode cX1_naturalWidth 25 = .ok (.aload_n 0, 1) := by decide +kernel
theorem dX1_naturalWidth_26 : decode cX1_naturalWidth 26 = .ok (.getfield 23, 3) := by decide +kernel
theorem dX1_naturalWidth_29 : decode cX1_naturalWidth 29 = .ok (.iload_n 3, 1) := by decide +kernel
theorem dX1_naturalWidth_30 : decode cX1_naturalWidth 30 = .ok (.iconst 1, 1) := by decide +kernel
theorem dX1_naturalWidth_31 : decode cX1_naturalWidth 31 = .ok (.iadd, 1) := by decide +kernel
theorem dX1_naturalWidth_32 : decode cX1_naturalWidth 32 = .ok (.iaload, 1) := by decide +kernel
theorem dX1_naturalWidth_33 : decode cX1_naturalWidth 33 = .ok (.iadd, 1) := by decide +kernel
theorem dX1_naturalWidth_34 : decode cX1_naturalWidth 34 = .ok (.i2l, 1) := by decide +kernel
theorem dX1_naturalWidth_35 : decode cX1_naturalWidth 35 = .ok (.ladd, 1) := by decide +kernel
theorem dX1_naturalWidth_36 : decode cX1_naturalWidth 36 = .ok (.lstore_n 1, 1) := by decide +kernel
theorem dX1_naturalWidth_37 : decode cX1_naturalWidth 37 = .ok (.iinc 3 1, 3) := by decide +kernel
theorem dX1_naturalWidth_40 : decode cX1_naturalWidth 40 = .ok (.goto (-30), 3) := by decide +kernel
theorem dX1_naturalWidth_43 : decode cX1_naturalWidth 43 = .ok (.lload_n 1, 1) := by decide +kernel
theorem dX1_naturalWidth_44 : decode cX1_naturalWidth 44 = .ok (.lreturn, 1) := by decide +kernel
theorem dX1_gatherGives_0 : decode cX1_gatherGives 0 = .ok (.iconst 0, 1) := by decide +kernel
theorem dX1_gatherGives_1 : decode cX1_gatherGives 1 = .ok (.istore_n 2, 1) := by decide +kernel
theorem dX1_gatherGives_2 : decode cX1_gatherGives 2 = .ok (.iload_n 2, 1) := by decide +kernel
theorem dX1_gatherGives_3 : decode cX1_gatherGives 3 = .ok (.aload_n 0, 1) := by decide +kernel
theorem dX1_gatherGives_4 : decode cX1_gatherGives 4 = .ok (.getfield 43, 3) := by decide +kernel
theorem dX1_gatherGives_7 : decode cX1_gatherGives 7 = .ok (.if_icmp .gt 98, 3) := by decide +kernel
theorem dX1_gatherGives_10 : decode cX1_gatherGives 10 = .ok (.aload_n 1, 1) := by decide +kernel
theorem dX1_gatherGives_11 : decode cX1_gatherGives 11 = .ok (.iload_n 2, 1) := by decide +kernel
theorem dX1_gatherGives_12 : decode cX1_gatherGives 12 = .ok (.invokevirtual 127, 3) := by decide +kernel
theorem dX1_gatherGives_15 : decode cX1_gatherGives 15 = .ok (.astore_n 3, 1) := by decide +kernel
theorem dX1_gatherGives_16 : decode cX1_gatherGives 16 = .ok (.iload_n 2, 1) := by decide +kernel
theorem dX1_gatherGives_17 : decode cX1_gatherGives 17 = .ok (.ifCond .le 18, 3) := by decide +kernel
theorem dX1_gatherGives_20 : decode cX1_gatherGives 20 = .ok (.aload_n 0, 1) := by decide +kernel
theorem dX1_gatherGives_21 : decode cX1_gatherGives 21 = .ok (.getfield 15, 3) := by decide +kernel
theorem dX1_gatherGives_24 : decode cX1_gatherGives 24 = .ok (.iload_n 2, 1) := by decide +kernel
theorem dX1_gatherGives_25 : decode cX1_gatherGives 25 = .ok (.iconst 1, 1) := by decide +kernel
theorem dX1_gatherGives_26 : decode cX1_gatherGives 26 = .ok (.isub, 1) := by decide +kernel
theorem dX1_gatherGives_27 : decode cX1_gatherGives 27 = .ok (.baload, 1) := by decide +kernel
theorem dX1_gatherGives_28 : decode cX1_gatherGives 28 = .ok (.ifCond .eq 7, 3) := by decide +kernel
theorem dX1_gatherGives_31 : decode cX1_gatherGives 31 = .ok (.iconst 1, 1) := by decide +kernel
theorem dX1_gatherGives_32 : decode cX1_gatherGives 32 = .ok (.goto 4, 3) := by decide +kernel
theorem dX1_gatherGives_35 : decode cX1_gatherGives 35 = .ok (.iconst 0, 1) := by decide +kernel
theorem dX1_gatherGives_36 : decode cX1_gatherGives 36 = .ok (.istore 4, 2) := by decide +kernel
theorem dX1_gatherGives_38 : decode cX1_gatherGives 38 = .ok (.aload_n 0, 1) := by decide +kernel
theorem dX1_gatherGives_39 : decode cX1_gatherGives 39 = .ok (.getfield 26, 3) := by decide +kernel
theorem dX1_gatherGives_42 : decode cX1_gatherGives 42 = .ok (.iload_n 2, 1) := by decide +kernel
theorem dX1_gatherGives_43 : decode cX1_gatherGives 43 = .ok (.iload 4, 2) := by decide +kernel
theorem dX1_gatherGives_45 : decode cX1_gatherGives 45 = .ok (.ifCond .eq 7, 3) := by decide +kernel
theorem dX1_gatherGives_48 : decode cX1_gatherGives 48 = .ok (.iconst 0, 1) := by decide +kernel
theorem dX1_gatherGives_49 : decode cX1_gatherGives 49 = .ok (.goto 23, 3) := by decide +kernel
theorem dX1_gatherGives_52 : decode cX1_gatherGives 52 = .ok (.aload_n 0, 1) := by decide +kernel
theorem dX1_gatherGives_53 : decode cX1_gatherGives 53 = .ok (.getfield 50, 3) := by decide +kernel
theorem dX1_gatherGives_56 : decode cX1_gatherGives 56 = .ok (.lconst 0, 1) := by decide +kernel
theorem dX1_gatherGives_57 : decode cX1_gatherGives 57 = .ok (.lcmp, 1) := by decide +kernel
theorem dX1_gatherGives_58 : decode cX1_gatherGives 58 = .ok (.ifCond .le 10, 3) := by decide +kernel
theorem dX1_gatherGives_61 : decode cX1_gatherGives 61 = .ok (.aload_n 3, 1) := by decide +kernel
theorem dX1_gatherGives_62 : decode cX1_gatherGives 62 = .ok (.getfield 144, 3) := by decide +kernel
theorem dX1_gatherGives_65 : decode cX1_gatherGives 65 = .ok (.goto 7, 3) := by decide +kernel
theorem dX1_gatherGives_68 : decode cX1_gatherGives 68 = .ok (.aload_n 3, 1) := by decide +kernel
theorem dX1_gatherGives_69 : decode cX1_gatherGives 69 = .ok (.getfield 147, 3) := by decide +kernel
theorem dX1_gatherGives_72 : decode cX1_gatherGives 72 = .ok (.iastore, 1) := by decide +kernel
theorem dX1_gatherGives_73 : decode cX1_gatherGives 73 = .ok (.aload_n 0, 1) := by decide +kernel
theorem dX1_gatherGives_74 : decode cX1_gatherGives 74 = .ok (.getfield 29, 3) := by decide +kernel
theorem dX1_gatherGives_77 : decode cX1_gatherGives 77 = .ok (.iload_n 2, 1) := by decide +kernel
theorem dX1_gatherGives_78 : decode cX1_gatherGives 78 = .ok (.aload_n 0, 1) := by decide +kernel
theorem dX1_gatherGives_79 : decode cX1_gatherGives 79 = .ok (.getfield 50, 3) := by decide +kernel
theorem dX1_gatherGives_82 : decode cX1_gatherGives 82 = .ok (.lconst 0, 1) := by decide +kernel
theorem dX1_gatherGives_83 : decode cX1_gatherGives 83 = .ok (.lcmp, 1) := by decide +kernel
theorem dX1_gatherGives_84 : decode cX1_gatherGives 84 = .ok (.ifCond .le 10, 3) := by decide +kernel
theorem dX1_gatherGives_87 : decode cX1_gatherGives 87 = .ok (.aload_n 3, 1) := by decide +kernel
theorem dX1_gatherGives_88 : decode cX1_gatherGives 88 = .ok (.getfield 150, 3) := by decide +kernel
theorem dX1_gatherGives_91 : decode cX1_gatherGives 91 = .ok (.goto 7, 3) := by decide +kernel
theorem dX1_gatherGives_94 : decode cX1_gatherGives 94 = .ok (.aload_n 3, 1) := by decide +kernel
theorem dX1_gatherGives_95 : decode cX1_gatherGives 95 = .ok (.getfield 153, 3) := by decide +kernel
theorem dX1_gatherGives_98 : decode cX1_gatherGives 98 = .ok (.iastore, 1) := by decide +kernel
theorem dX1_gatherGives_99 : decode cX1_gatherGives 99 = .ok (.iinc 2 1, 3) := by decide +kernel
theorem dX1_gatherGives_102 : decode cX1_gatherGives 102 = .ok (.goto (-100), 3) := by decide +kernel
theorem dX1_gatherGives_105 : decode cX1_gatherGives 105 = .ok (.return_, 1) := by decide +kernel
theorem dX1_greatestOrder_0 : decode cX1_greatestOrder 0 = .ok (.iconst (-1), 1) := by decide +kernel
theorem dX1_greatestOrder_1 : decode cX1_greatestOrder 1 = .ok (.istore_n 1, 1) := by decide +kernel
theorem dX1_greatestOrder_2 : decode cX1_greatestOrder 2 = .ok (.iconst 0, 1) := by decide +kernel
theorem dX1_greatestOrder_3 : decode cX1_greatestOrder 3 = .ok (.istore_n 2, 1) := by decide +kernel
theorem dX1_greatestOrder_4 : decode cX1_greatestOrder 4 = .ok (.iload_n 2, 1) := by decide +kernel
theorem dX1_greatestOrder_5 : decode cX1_greatestOrder 5 = .ok (.aload_n 0, 1) := by decide +kernel
theorem dX1_greatestOrder_6 : decode cX1_greatestOrder 6 = .ok (.getfield 43, 3) := by decide +kernel
theorem dX1_greatestOrder_9 : decode cX1_greatestOrder 9 = .ok (.if_icmp .gt 38, 3) := by decide +kernel
theorem dX1_greatestOrder_12 : decode cX1_greatestOrder 12 = .ok (.aload_n 0, 1) := by decide +kernel
theorem dX1_greatestOrder_13 : decode cX1_greatestOrder 13 = .ok (.getfield 50, 3) := by decide +kernel
theorem dX1_greatestOrder_16 : decode cX1_greatestOrder 16 = .ok (.lconst 0, 1) := by decide +kernel
theorem dX1_greatestOrder_17 : decode cX1_greatestOrder 17 = .ok (.lcmp, 1) := by decide +kernel
theorem dX1_greatestOrder_18 : decode cX1_greatestOrder 18 = .ok (.ifCond .eq 29, 3) := by decide +kernel
theorem dX1_greatestOrder_21 : decode cX1_greatestOrder 21 = .ok (.aload_n 0, 1) := by decide +kernel
theorem dX1_greatestOrder_22 : decode cX1_greatestOrder 22 = .ok (.getfield 26, 3) := by decide +kernel
theorem dX1_greatestOrder_25 : decode cX1_greatestOrder 25 = .ok (.iload_n 2, 1) := by decide +kernel
theorem dX1_greatestOrder_26 : decode cX1_greatestOrder 26 = .ok (.iaload, 1) := by decide +kernel
theorem dX1_greatestOrder_27 : decode cX1_greatestOrder 27 = .ok (.ifCond .eq 14, 3) := by decide +kernel
theorem dX1_greatestOrder_30 : decode cX1_greatestOrder 30 = .ok (.iload_n 1, 1) := by decide +kernel
theorem dX1_greatestOrder_31 : decode cX1_greatestOrder 31 = .ok (.aload_n 0, 1) := by decide +kernel
theorem dX1_greatestOrder_32 : decode cX1_greatestOrder 32 = .ok (.getfield 29, 3) := by decide +kernel
theorem dX1_greatestOrder_35 : decode cX1_greatestOrder 35 = .ok (.iload_n 2, 1) := by decide +kernel
theorem dX1_greatestOrder_36 : decode cX1_greatestOrder 36 = .ok (.iaload, 1) := by decide +kernel
theorem dX1_greatestOrder_37 : decode cX1_greatestOrder 37 = .ok (.invokestatic 107, 3) := by decide +kernel
theorem dX1_greatestOrder_40 : decode cX1_greatestOrder 40 = .ok (.istore_n 1, 1) := by decide +kernel
theorem dX1_greatestOrder_41 : decode cX1_greatestOrder 41 = .ok (.iinc 2 1, 3) := by decide +kernel
theorem dX1_greatestOrder_44 : decode cX1_greatestOrder 44 = .ok (.goto (-40), 3) := by decide +kernel
theorem dX1_greatestOrder_47 : decode cX1_greatestOrder 47 = .ok (.iload_n 1, 1) := by decide +kernel
theorem dX1_greatestOrder_48 : decode cX1_greatestOrder 48 = .ok (.ireturn, 1) := by decide +kernel
theorem dX1_wholeSum_0 : decode cX1_wholeSum 0 = .ok (.lconst 0, 1) := by decide +kernel
theorem dX1_wholeSum_1 : decode cX1_wholeSum 1 = .ok (.lstore_n 1, 1) := by decide +kernel
theorem dX1_wholeSum_2 : decode cX1_wholeSum 2 = .ok (.iconst 0, 1) := by decide +kernel
theorem dX1_wholeSum_3 : decode cX1_wholeSum 3 = .ok (.istore_n 3, 1) := by decide +kernel
theorem dX1_wholeSum_4 : decode cX1_wholeSum 4 = .ok (.iload_n 3, 1) := by decide +kernel
theorem dX1_wholeSum_5 : decode cX1_wholeSum 5 = .ok (.aload_n 0, 1) := by decide +kernel
theorem dX1_wholeSum_6 : decode cX1_wholeSum 6 = .ok (.getfield 43, 3) := by decide +kernel
theorem dX1_wholeSum_9 : decode cX1_wholeSum 9 = .ok (.if_icmp .gt 17, 3) := by decide +kernel
theorem dX1_wholeSum_12 : decode cX1_wholeSum 12 = .ok (.lload_n 1, 1) := by decide +kernel
theorem dX1_wholeSum_13 : decode cX1_wholeSum 13 = .ok (.aload_n 0, 1) := by decide +kernel
theorem dX1_wholeSum_14 : decode cX1_wholeSum 14 = .ok (.iload_n 3, 1) := by decide +kernel
theorem dX1_wholeSum_15 : decode cX1_wholeSum 15 = .ok (.invokevirtual 156, 3) := by decide +kernel
theorem dX1_wholeSum_18 : decode cX1_wholeSum 18 = .ok (.ladd, 1) := by decide +kernel
theorem dX1_wholeSum_19 : decode cX1_wholeSum 19 = .ok (.lstore_n 1, 1) := by decide +kernel
theorem dX1_wholeSum_20 : decode cX1_wholeSum 20 = .ok (.iinc 3 1, 3) := by decide +kernel
theorem dX1_wholeSum_23 : decode cX1_wholeSum 23 = .ok (.goto (-19), 3) := by decide +kernel
theorem dX1_wholeSum_26 : decode cX1_wholeSum 26 = .ok (.lload_n 1, 1) := by decide +kernel
theorem dX1_wholeSum_27 : decode cX1_wholeSum 27 = .ok (.lreturn, 1) := by decide +kernel
theorem dX1_giveOf_0 : decode cX1_giveOf 0 = .ok (.aload_n 0, 1) := by decide +kernel
theorem dX1_giveOf_1 : decode cX1_giveOf 1 = .ok (.getfield 29, 3) := by decide +kernel
theorem dX1_giveOf_4 : decode cX1_giveOf 4 = .ok (.iload_n 1, 1) := by decide +kernel
theorem dX1_giveOf_5 : decode cX1_giveOf 5 = .ok (.iaload, 1) := by decide +kernel
theorem dX1_giveOf_6 : decode cX1_giveOf 6 = .ok (.aload_n 0, 1) := by decide +kernel
theorem dX1_giveOf_7 : decode cX1_giveOf 7 = .ok (.getfield 53, 3) := by decide +kernel
theorem dX1_giveOf_10 : decode cX1_giveOf 10 = .ok (.if_icmp .ne 13, 3) := by decide +kernel
theorem dX1_giveOf_13 : decode cX1_giveOf 13 = .ok (.aload_n 0, 1) := by decide +kernel
theorem dX1_giveOf_14 : decode cX1_giveOf 14 = .ok (.getfield 26, 3) := by decide +kernel
theorem dX1_giveOf_17 : decode cX1_giveOf 17 = .ok (.iload_n 1, 1) := by decide +kernel
theorem dX1_giveOf_18 : decode cX1_giveOf 18 = .ok (.iaload, 1) := by decide +kernel
theorem dX1_giveOf_19 : decode cX1_giveOf 19 = .ok (.i2l, 1) := by decide +kernel
theorem dX1_giveOf_20 : decode cX1_giveOf 20 = .ok (.goto 4, 3) := by decide +kernel
theorem dX1_giveOf_23 : decode cX1_giveOf 23 = .ok (.lconst 0, 1) := by decide +kernel
theorem dX1_giveOf_24 : decode cX1_giveOf 24 = .ok (.lreturn, 1) := by decide +kernel
theorem dX1_share_0 : decode cX1_share 0 = .ok (.aload_n 0, 1) := by decide +kernel
theorem dX1_share_1 : decode cX1_share 1 = .ok (.invokevirtual 160, 3) := by decide +kernel
theorem dX1_share_4 : decode cX1_share 4 = .ok (.lstore_n 1, 1) := by decide +kernel
theorem dX1_share_5 : decode cX1_share 5 = .ok (.aload_n 0, 1) := by decide +kernel
theorem dX1_share_6 : decode cX1_share 6 = .ok (.getfield 50, 3) := by decide +kernel
theorem dX1_share_9 : decode cX1_share 9 = .ok (.invokestatic 163, 3) := by decide +kernel
theorem dX1_share_12 : decode cX1_share 12 = .ok (.lstore_n 3, 1) := by decide +kernel
theorem dX1_share_13 : decode cX1_share 13 = .ok (.lload_n 3, 1) := by decide +kernel
theorem dX1_share_14 : decode cX1_share 14 = .ok (.lstore 5, 2) := by decide +kernel
theorem dX1_share_16 : decode cX1_share 16 = .ok (.aload_n 0, 1) := by decide +kernel
theorem dX1_share_17 : decode cX1_share 17 = .ok (.getfield 53, 3) := by decide +kernel
theorem dX1_share_20 : decode cX1_share 20 = .ok (.iconst (-1), 1) := by decide +kernel
theorem dX1_share_21 : decode cX1_share 21 = .ok (.if_icmp .ne 9, 3) := by decide +kernel
theorem dX1_share_24 : decode cX1_share 24 = .ok (.lconst 0, 1) := by decide +kernel
theorem dX1_share_25 : decode cX1_share 25 = .ok (.lstore 5, 2) := by decide +kernel
theorem dX1_share_27 : decode cX1_share 27 = .ok (.goto 26, 3) := by decide +kernel
theorem dX1_share_30 : decode cX1_share 30 = .ok (.aload_n 0, 1) := by decide +kernel
theorem dX1_share_31 : decode cX1_share 31 = .ok (.getfield 53, 3) := by decide +kernel
theorem dX1_share_34 : decode cX1_share 34 = .ok (.ifCond .ne 19, 3) := by decide +kernel
theorem dX1_share_37 : decode cX1_share 37 = .ok (.aload_n 0, 1) := by decide +kernel
theorem dX1_share_38 : decode cX1_share 38 = .ok (.getfield 50, 3) := by decide +kernel
theorem dX1_share_41 : decode cX1_share 41 = .ok (.lconst 0, 1) := by decide +kernel
theorem dX1_share_42 : decode cX1_share 42 = .ok (.lcmp, 1) := by decide +kernel
theorem dX1_share_43 : decode cX1_share 43 = .ok (.ifCond .ge 10, 3) := by decide +kernel
theorem dX1_share_46 : decode cX1_share 46 = .ok (.lload_n 3, 1) := by decide +kernel
theorem dX1_share_47 : decode cX1_share 47 = .ok (.lload_n 1, 1) := by decide +kernel
theorem dX1_share_48 : decode cX1_share 48 = .ok (.invokestatic 167, 3) := by decide +kernel
theorem dX1_share_51 : decode cX1_share 51 = .ok (.lstore 5, 2) := by decide +kernel
theorem dX1_share_53 : decode cX1_share 53 = .ok (.aload_n 0, 1) := by decide +kernel
theorem dX1_share_54 : decode cX1_share 54 = .ok (.lload_n 3, 1) := by decide +kernel
theorem dX1_share_55 : decode cX1_share 55 = .ok (.lload 5, 2) := by decide +kernel
theorem dX1_share_57 : decode cX1_share 57 = .ok (.lsub, 1) := by decide +kernel
theorem dX1_share_58 : decode cX1_share 58 = .ok (.putfield 56, 3) := by decide +kernel
theorem dX1_share_61 : decode cX1_share 61 = .ok (.aload_n 0, 1) := by decide +kernel
theorem dX1_share_62 : decode cX1_share 62 = .ok (.lload 5, 2) := by decide +kernel
theorem dX1_share_64 : decode cX1_share 64 = .ok (.lload_n 1, 1) := by decide +kernel
theorem dX1_share_65 : decode cX1_share 65 = .ok (.invokevirtual 171, 3) := by decide +kernel
theorem dX1_share_68 : decode cX1_share 68 = .ok (.return_, 1) := by decide +kernel
theorem dX1_findPlaces_0 : decode cX1_findPlaces 0 = .ok (.lconst 0, 1) := by decide +kernel
theorem dX1_findPlaces_1 : decode cX1_findPlaces 1 = .ok (.lstore 5, 2) := by decide +kernel
theorem dX1_findPlaces_3 : decode cX1_findPlaces 3 = .ok (.lconst 0, 1) := by decide +kernel
theorem dX1_findPlaces_4 : decode cX1_findPlaces 4 = .ok (.lstore 7, 2) := by decide +kernel
theorem dX1_findPlaces_6 : decode cX1_findPlaces 6 = .ok (.iconst 0, 1) := by decide +kernel
theorem dX1_findPlaces_7 : decode cX1_findPlaces 7 = .ok (.istore 9, 2) := by decide +kernel
theorem dX1_findPlaces_9 : decode cX1_findPlaces 9 = .ok (.iload 9, 2) := by decide +kernel
theorem dX1_findPlaces_11 : decode cX1_findPlaces 11 = .ok (.aload_n 0, 1) := by decide +kernel
theorem dX1_findPlaces_12 : decode cX1_findPlaces 12 = .ok (.getfield 43, 3) := by decide +kernel
theorem dX1_findPlaces_15 : decode cX1_findPlaces 15 = .ok (.if_icmp .ge 93, 3) := by decide +kernel
theorem dX1_findPlaces_18 : decode cX1_findPlaces 18 = .ok (.lload 5, 2) := by decide +kernel
theorem dX1_findPlaces_20 : decode cX1_findPlaces 20 = .ok (.aload_n 0, 1) := by decide +kernel
theorem dX1_findPlaces_21 : decode cX1_findPlaces 21 = .ok (.getfield 23, 3) := by decide +kernel
theorem dX1_findPlaces_24 : decode cX1_findPlaces 24 = .ok (.iload 9, 2) := by decide +kernel
theorem dX1_findPlaces_26 : decode cX1_findPlaces 26 = .ok (.iaload, 1) := by decide +kernel
theorem dX1_findPlaces_27 : decode cX1_findPlaces 27 = .ok (.i2l, 1) := by decide +kernel
theorem dX1_findPlaces_28 : decode cX1_findPlaces 28 = .ok (.ladd, 1) := by decide +kernel
theorem dX1_findPlaces_29 : decode cX1_findPlaces 29 = .ok (.lstore 5, 2) := by decide +kernel
theorem dX1_findPlaces_31 : decode cX1_findPlaces 31 = .ok (.lload 7, 2) := by decide +kernel
theorem dX1_findPlaces_33 : decode cX1_findPlaces 33 = .ok (.aload_n 0, 1) := by decide +kernel
theorem dX1_findPlaces_34 : decode cX1_findPlaces 34 = .ok (.iload 9, 2) := by decide +kernel
theorem dX1_findPlaces_36 : decode cX1_findPlaces 36 = .ok (.invokevirtual 156, 3) := by decide +kernel
theorem dX1_findPlaces_39 : decode cX1_findPlaces 39 = .ok (.ladd, 1) := by decide +kernel
theorem dX1_findPlaces_40 : decode cX1_findPlaces 40 = .ok (.lstore 7, 2) := by decide +kernel
theorem dX1_findPlaces_42 : decode cX1_findPlaces 42 = .ok (.lload_n 3, 1) := by decide +kernel
theorem dX1_findPlaces_43 : decode cX1_findPlaces 43 = .ok (.lconst 0, 1) := by decide +kernel
theorem dX1_findPlaces_44 : decode cX1_findPlaces 44 = .ok (.lcmp, 1) := by decide +kernel
theorem dX1_findPlaces_45 : decode cX1_findPlaces 45 = .ok (.ifCond .ne 7, 3) := by decide +kernel
theorem dX1_findPlaces_48 : decode cX1_findPlaces 48 = .ok (.lconst 0, 1) := by decide +kernel
theorem dX1_findPlaces_49 : decode cX1_findPlaces 49 = .ok (.goto 9, 3) := by decide +kernel
theorem dX1_findPlaces_52 : decode cX1_findPlaces 52 = .ok (.lload_n 1, 1) := by decide +kernel
theorem dX1_findPlaces_53 : decode cX1_findPlaces 53 = .ok (.lload 7, 2) := by decide +kernel
theorem dX1_findPlaces_55 : decode cX1_findPlaces 55 = .ok (.lmul, 1) := by decide +kernel
theorem dX1_findPlaces_56 : decode cX1_findPlaces 56 = .ok (.lload_n 3, 1) := by decide +kernel
theorem dX1_findPlaces_57 : decode cX1_findPlaces 57 = .ok (.ldiv, 1) := by decide +kernel
theorem dX1_findPlaces_58 : decode cX1_findPlaces 58 = .ok (.lstore 10, 2) := by decide +kernel
theorem dX1_findPlaces_60 : decode cX1_findPlaces 60 = .ok (.aload_n 0, 1) := by decide +kernel
theorem dX1_findPlaces_61 : decode cX1_findPlaces 61 = .ok (.getfield 19, 3) := by decide +kernel
theorem dX1_findPlaces_64 : decode cX1_findPlaces 64 = .ok (.iload 9, 2) := by decide +kernel
theorem dX1_findPlaces_66 : decode cX1_findPlaces 66 = .ok (.aload_n 0, 1) := by decide +kernel
theorem dX1_findPlaces_67 : decode cX1_findPlaces 67 = .ok (.getfield 50, 3) := by decide +kernel
theorem dX1_findPlaces_70 : decode cX1_findPlaces 70 = .ok (.lconst 0, 1) := by decide +kernel
theorem dX1_findPlaces_71 : decode cX1_findPlaces 71 = .ok (.lcmp, 1) := by decide +kernel
theorem dX1_findPlaces_72 : decode cX1_findPlaces 72 = .ok (.ifCond .ge 11, 3) := by decide +kernel
theorem dX1_findPlaces_75 : decode cX1_findPlaces 75 = .ok (.lload 5, 2) := by decide +kernel
theorem dX1_findPlaces_77 : decode cX1_findPlaces 77 = .ok (.lload 10, 2) := by decide +kernel
theorem dX1_findPlaces_79 : decode cX1_findPlaces 79 = .ok (.lsub, 1) := by decide +kernel
theorem dX1_findPlaces_80 : decode cX1_findPlaces 80 = .ok (.goto 8, 3) := by decide +kernel
theorem dX1_findPlaces_83 : decode cX1_findPlaces 83 = .ok (.lload 5, 2) := by decide +kernel
theorem dX1_findPlaces_85 : decode cX1_findPlaces 85 = .ok (.lload 10, 2) := by decide +kernel
theorem dX1_findPlaces_87 : decode cX1_findPlaces 87 = .ok (.ladd, 1) := by decide +kernel
theorem dX1_findPlaces_88 : decode cX1_findPlaces 88 = .ok (.lastore, 1) := by decide +kernel
theorem dX1_findPlaces_89 : decode cX1_findPlaces 89 = .ok (.lload 5, 2) := by decide +kernel
theorem dX1_findPlaces_91 : decode cX1_findPlaces 91 = .ok (.aload_n 0, 1) := by decide +kernel
theorem dX1_findPlaces_92 : decode cX1_findPlaces 92 = .ok (.getfield 9, 3) := by decide +kernel
theorem dX1_findPlaces_95 : decode cX1_findPlaces 95 = .ok (.iload 9, 2) := by decide +kernel
theorem dX1_findPlaces_97 : decode cX1_findPlaces 97 = .ok (.iaload, 1) := by decide +kernel
theorem dX1_findPlaces_98 : decode cX1_findPlaces 98 = .ok (.i2l, 1) := by decide +kernel
theorem dX1_findPlaces_99 : decode cX1_findPlaces 99 = .ok (.ladd, 1) := by decide +kernel
theorem dX1_findPlaces_100 : decode cX1_findPlaces 100 = .ok (.lstore 5, 2) := by decide +kernel
theorem dX1_findPlaces_102 : decode cX1_findPlaces 102 = .ok (.iinc 9 1, 3) := by decide +kernel
theorem dX1_findPlaces_105 : decode cX1_findPlaces 105 = .ok (.goto (-96), 3) := by decide +kernel
theorem dX1_findPlaces_108 : decode cX1_findPlaces 108 = .ok (.return_, 1) := by decide +kernel
theorem dX1_setWidth_0 : decode cX1_setWidth 0 = .ok (.aload_n 0, 1) := by decide +kernel
theorem dX1_setWidth_1 : decode cX1_setWidth 1 = .ok (.getfield 46, 3) := by decide +kernel
theorem dX1_setWidth_4 : decode cX1_setWidth 4 = .ok (.aload_n 0, 1) := by decide +kernel
theorem dX1_setWidth_5 : decode cX1_setWidth 5 = .ok (.getfield 50, 3) := by decide +kernel
theorem dX1_setWidth_8 : decode cX1_setWidth 8 = .ok (.ladd, 1) := by decide +kernel
theorem dX1_setWidth_9 : decode cX1_setWidth 9 = .ok (.lreturn, 1) := by decide +kernel
theorem dX1_isNestable_0 : decode cX1_isNestable 0 = .ok (.aload_n 0, 1) := by decide +kernel
theorem dX1_isNestable_1 : decode cX1_isNestable 1 = .ok (.getfield 39, 3) := by decide +kernel
theorem dX1_isNestable_4 : decode cX1_isNestable 4 = .ok (.ifCond .le 27, 3) := by decide +kernel
theorem dX1_isNestable_7 : decode cX1_isNestable 7 = .ok (.aload_n 0, 1) := by decide +kernel
theorem dX1_isNestable_8 : decode cX1_isNestable 8 = .ok (.invokevirtual 80, 3) := by decide +kernel
theorem dX1_isNestable_11 : decode cX1_isNestable 11 = .ok (.lconst 0, 1) := by decide +kernel
theorem dX1_isNestable_12 : decode cX1_isNestable 12 = .ok (.lcmp, 1) := by decide +kernel
theorem dX1_isNestable_13 : decode cX1_isNestable 13 = .ok (.ifCond .lt 18, 3) := by decide +kernel
theorem dX1_isNestable_16 : decode cX1_isNestable 16 = .ok (.aload_n 0, 1) := by decide +kernel
theorem dX1_isNestable_17 : decode cX1_isNestable 17 = .ok (.invokevirtual 80, 3) := by decide +kernel
theorem dX1_isNestable_20 : decode cX1_isNestable 20 = .ok (.ldc2_w 175, 3) := by decide +kernel
theorem dX1_isNestable_23 : decode cX1_isNestable 23 = .ok (.lcmp, 1) := by decide +kernel
theorem dX1_isNestable_24 : decode cX1_isNestable 24 = .ok (.ifCond .gt 7, 3) := by decide +kernel
theorem dX1_isNestable_27 : decode cX1_isNestable 27 = .ok (.iconst 1, 1) := by decide +kernel
theorem dX1_isNestable_28 : decode cX1_isNestable 28 = .ok (.goto 4, 3) := by decide +kernel
theorem dX1_isNestable_31 : decode cX1_isNestable 31 = .ok (.iconst 0, 1) := by decide +kernel
theorem dX1_isNestable_32 : decode cX1_isNestable 32 = .ok (.ireturn, 1) := by decide +kernel
theorem dX1_hasColumn_0 : decode cX1_hasColumn 0 = .ok (.iload_n 1, 1) := by decide +kernel
theorem dX1_hasColumn_1 : decode cX1_hasColumn 1 = .ok (.iconst 0, 1) := by decide +kernel
theorem dX1_hasColumn_2 : decode cX1_hasColumn 2 = .ok (.aload_n 0, 1) := by decide +kernel
theorem dX1_hasColumn_3 : decode cX1_hasColumn 3 = .ok (.getfield 43, 3) := by decide +kernel
theorem dX1_hasColumn_6 : decode cX1_hasColumn 6 = .ok (.iconst 1, 1) := by decide +kernel
theorem dX1_hasColumn_7 : decode cX1_hasColumn 7 = .ok (.isub, 1) := by decide +kernel
theorem dX1_hasColumn_8 : decode cX1_hasColumn 8 = .ok (.invokestatic 177, 3) := by decide +kernel
theorem dX1_hasColumn_11 : decode cX1_hasColumn 11 = .ok (.ireturn, 1) := by decide +kernel
theorem dX1_boxPlace_0 : decode cX1_boxPlace 0 = .ok (.aload_n 0, 1) := by decide +kernel
theorem dX1_boxPlace_1 : decode cX1_boxPlace 1 = .ok (.iload_n 1, 1) := by decide +kernel
theorem dX1_boxPlace_2 : decode cX1_boxPlace 2 = .ok (.iload_n 2, 1) := by decide +kernel
theorem dX1_boxPlace_3 : decode cX1_boxPlace 3 = .ok (.iadd, 1) := by decide +kernel
theorem dX1_boxPlace_4 : decode cX1_boxPlace 4 = .ok (.iconst 1, 1) := by decide +kernel
theorem dX1_boxPlace_5 : decode cX1_boxPlace 5 = .ok (.isub, 1) := by decide +kernel
theorem dX1_boxPlace_6 : decode cX1_boxPlace 6 = .ok (.invokevirtual 181, 3) := by decide +kernel
theorem dX1_boxPlace_9 : decode cX1_boxPlace 9 = .ok (.ifCond .eq 12, 3) := by decide +kernel
theorem dX1_boxPlace_12 : decode cX1_boxPlace 12 = .ok (.aload_n 0, 1) := by decide +kernel
theorem dX1_boxPlace_13 : decode cX1_boxPlace 13 = .ok (.getfield 19, 3) := by decide +kernel
theorem dX1_boxPlace_16 : decode cX1_boxPlace 16 = .ok (.iload_n 1, 1) := by decide +kernel
theorem dX1_boxPlace_17 : decode cX1_boxPlace 17 = .ok (.laload, 1) := by decide +kernel
theorem dX1_boxPlace_18 : decode cX1_boxPlace 18 = .ok (.goto 4, 3) := by decide +kernel
theorem dX1_boxPlace_21 : decode cX1_boxPlace 21 = .ok (.lconst 0, 1) := by decide +kernel
theorem dX1_boxPlace_22 : decode cX1_boxPlace 22 = .ok (.lreturn, 1) := by decide +kernel
theorem dX1_boxWidth_0 : decode cX1_boxWidth 0 = .ok (.iload_n 1, 1) := by decide +kernel
theorem dX1_boxWidth_1 : decode cX1_boxWidth 1 = .ok (.iload_n 2, 1) := by decide +kernel
theorem dX1_boxWidth_2 : decode cX1_boxWidth 2 = .ok (.iadd, 1) := by decide +kernel
theorem dX1_boxWidth_3 : decode cX1_boxWidth 3 = .ok (.iconst 1, 1) := by decide +kernel
theorem dX1_boxWidth_4 : decode cX1_boxWidth 4 = .ok (.isub, 1) := by decide +kernel
theorem dX1_boxWidth_5 : decode cX1_boxWidth 5 = .ok (.istore_n 3, 1) := by decide +kernel
theorem dX1_boxWidth_6 : decode cX1_boxWidth 6 = .ok (.aload_n 0, 1) := by decide +kernel
theorem dX1_boxWidth_7 : decode cX1_boxWidth 7 = .ok (.iload_n 3, 1) := by decide +kernel
theorem dX1_boxWidth_8 : decode cX1_boxWidth 8 = .ok (.invokevirtual 181, 3) := by decide +kernel
theorem dX1_boxWidth_11 : decode cX1_boxWidth 11 = .ok (.ifCond .eq 27, 3) := by decide +kernel
theorem dX1_boxWidth_14 : decode cX1_boxWidth 14 = .ok (.aload_n 0, 1) := by decide +kernel
theorem dX1_boxWidth_15 : decode cX1_boxWidth 15 = .ok (.getfield 19, 3) := by decide +kernel
theorem dX1_boxWidth_18 : decode cX1_boxWidth 18 = .ok (.iload_n 3, 1) := by decide +kernel
theorem dX1_boxWidth_19 : decode cX1_boxWidth 19 = .ok (.laload, 1) := by decide +kernel
theorem dX1_boxWidth_20 : decode cX1_boxWidth 20 = .ok (.aload_n 0, 1) := by decide +kernel
theorem dX1_boxWidth_21 : decode cX1_boxWidth 21 = .ok (.getfield 9, 3) := by decide +kernel
theorem dX1_boxWidth_24 : decode cX1_boxWidth 24 = .ok (.iload_n 3, 1) := by decide +kernel
theorem dX1_boxWidth_25 : decode cX1_boxWidth 25 = .ok (.iaload, 1) := by decide +kernel
theorem dX1_boxWidth_26 : decode cX1_boxWidth 26 = .ok (.i2l, 1) := by decide +kernel
theorem dX1_boxWidth_27 : decode cX1_boxWidth 27 = .ok (.ladd, 1) := by decide +kernel
theorem dX1_boxWidth_28 : decode cX1_boxWidth 28 = .ok (.aload_n 0, 1) := by decide +kernel
theorem dX1_boxWidth_29 : decode cX1_boxWidth 29 = .ok (.getfield 19, 3) := by decide +kernel
theorem dX1_boxWidth_32 : decode cX1_boxWidth 32 = .ok (.iload_n 1, 1) := by decide +kernel
theorem dX1_boxWidth_33 : decode cX1_boxWidth 33 = .ok (.laload, 1) := by decide +kernel
theorem dX1_boxWidth_34 : decode cX1_boxWidth 34 = .ok (.lsub, 1) := by decide +kernel
theorem dX1_boxWidth_35 : decode cX1_boxWidth 35 = .ok (.goto 4, 3) := by decide +kernel
theorem dX1_boxWidth_38 : decode cX1_boxWidth 38 = .ok (.lconst 0, 1) := by decide +kernel
theorem dX1_boxWidth_39 : decode cX1_boxWidth 39 = .ok (.lreturn, 1) := by decide +kernel
theorem dX1_tell_0 : decode cX1_tell 0 = .ok (.iload_n 1, 1) := by decide +kernel
theorem dX1_tell_1 : decode cX1_tell 1 = .ok (.tableswitch 63 6 10 #[35, 41, 46, 51, 57], 35) := by decide +kernel
theorem dX1_tell_36 : decode cX1_tell 36 = .ok (.aload_n 0, 1) := by decide +kernel
theorem dX1_tell_37 : decode cX1_tell 37 = .ok (.getfield 43, 3) := by decide +kernel
theorem dX1_tell_40 : decode cX1_tell 40 = .ok (.i2l, 1) := by decide +kernel
theorem dX1_tell_41 : decode cX1_tell 41 = .ok (.lreturn, 1) := by decide +kernel
theorem dX1_tell_42 : decode cX1_tell 42 = .ok (.aload_n 0, 1) := by decide +kernel
theorem dX1_tell_43 : decode cX1_tell 43 = .ok (.getfield 46, 3) := by decide +kernel
theorem dX1_tell_46 : decode cX1_tell 46 = .ok (.lreturn, 1) := by decide +kernel
theorem dX1_tell_47 : decode cX1_tell 47 = .ok (.aload_n 0, 1) := by decide +kernel
theorem dX1_tell_48 : decode cX1_tell 48 = .ok (.getfield 50, 3) := by decide +kernel
theorem dX1_tell_51 : decode cX1_tell 51 = .ok (.lreturn, 1) := by decide +kernel
theorem dX1_tell_52 : decode cX1_tell 52 = .ok (.aload_n 0, 1) := by decide +kernel
theorem dX1_tell_53 : decode cX1_tell 53 = .ok (.getfield 39, 3) := by decide +kernel
theorem dX1_tell_56 : decode cX1_tell 56 = .ok (.i2l, 1) := by decide +kernel
theorem dX1_tell_57 : decode cX1_tell 57 = .ok (.lreturn, 1) := by decide +kernel
theorem dX1_tell_58 : decode cX1_tell 58 = .ok (.aload_n 0, 1) := by decide +kernel
theorem dX1_tell_59 : decode cX1_tell 59 = .ok (.getfield 53, 3) := by decide +kernel
theorem dX1_tell_62 : decode cX1_tell 62 = .ok (.i2l, 1) := by decide +kernel
theorem dX1_tell_63 : decode cX1_tell 63 = .ok (.lreturn, 1) := by decide +kernel
theorem dX1_tell_64 : decode cX1_tell 64 = .ok (.aload_n 0, 1) := by decide +kernel
theorem dX1_tell_65 : decode cX1_tell 65 = .ok (.getfield 56, 3) := by decide +kernel
theorem dX1_tell_68 : decode cX1_tell 68 = .ok (.lreturn, 1) := by decide +kernel
theorem dX2_init_0 : decode cX2_init 0 = .ok (.aload_n 0, 1) := by decide +kernel
theorem dX2_init_1 : decode cX2_init 1 = .ok (.invokespecial 3, 3) := by decide +kernel
theorem dX2_init_4 : decode cX2_init 4 = .ok (.aload_n 0, 1) := by decide +kernel
theorem dX2_init_5 : decode cX2_init 5 = .ok (.bipush 24, 2) := by decide +kernel
theorem dX2_init_7 : decode cX2_init 7 = .ok (.bipush 9, 2) := by decide +kernel
theorem dX2_init_9 : decode cX2_init 9 = .ok (.multianewarray 9 2, 4) := by decide +kernel
theorem dX2_init_13 : decode cX2_init 13 = .ok (.putfield 11, 3) := by decide +kernel
theorem dX2_init_16 : decode cX2_init 16 = .ok (.return_, 1) := by decide +kernel
theorem dX2_clear_0 : decode cX2_clear 0 = .ok (.iconst 0, 1) := by decide +kernel
theorem dX2_clear_1 : decode cX2_clear 1 = .ok (.istore_n 1, 1) := by decide +kernel
theorem dX2_clear_2 : decode cX2_clear 2 = .ok (.iload_n 1, 1) := by decide +kernel
theorem dX2_clear_3 : decode cX2_clear 3 = .ok (.bipush 24, 2) := by decide +kernel
theorem dX2_clear_5 : decode cX2_clear 5 = .ok (.if_icmp .ge 19, 3) := by decide +kernel
theorem dX2_clear_8 : decode cX2_clear 8 = .ok (.aload_n 0, 1) := by decide +kernel
theorem dX2_clear_9 : decode cX2_clear 9 = .ok (.getfield 11, 3) := by decide +kernel
theorem dX2_clear_12 : decode cX2_clear 12 = .ok (.iload_n 1, 1) := by decide +kernel
theorem dX2_clear_13 : decode cX2_clear 13 = .ok (.aaload, 1) := by decide +kernel
theorem dX2_clear_14 : decode cX2_clear 14 = .ok (.iconst (-1), 1) := by decide +kernel
theorem dX2_clear_15 : decode cX2_clear 15 = .ok (.invokestatic 16, 3) := by decide +kernel
theorem dX2_clear_18 : decode cX2_clear 18 = .ok (.iinc 1 1, 3) := by decide +kernel
theorem dX2_clear_21 : decode cX2_clear 21 = .ok (.goto (-19), 3) := by decide +kernel
theorem dX2_clear_24 : decode cX2_clear 24 = .ok (.return_, 1) := by decide +kernel
theorem dX2_add_0 : decode cX2_add 0 = .ok (.aload_n 0, 1) := by decide +kernel
theorem dX2_add_1 : decode cX2_add 1 = .ok (.getfield 11, 3) := by decide +kernel
theorem dX2_add_4 : decode cX2_add 4 = .ok (.iload_n 1, 1) := by decide +kernel
theorem dX2_add_5 : decode cX2_add 5 = .ok (.aaload, 1) := by decide +kernel
theorem dX2_add_6 : decode cX2_add 6 = .ok (.iload_n 2, 1) := by decide +kernel
theorem dX2_add_7 : decode cX2_add 7 = .ok (.aload_n 0, 1) := by decide +kernel
theorem dX2_add_8 : decode cX2_add 8 = .ok (.getfield 11, 3) := by decide +kernel
theorem dX2_add_11 : decode cX2_add 11 = .ok (.iload_n 1, 1) := by decide +kernel
theorem dX2_add_12 : decode cX2_add 12 = .ok (.aaload, 1) := by decide +kernel
theorem dX2_add_13 : decode cX2_add 13 = .ok (.iload_n 2, 1) := by decide +kernel
theorem dX2_add_14 : decode cX2_add 14 = .ok (.iaload, 1) := by decide +kernel
theorem dX2_add_15 : decode cX2_add 15 = .ok (.iload_n 3, 1) := by decide +kernel
theorem dX2_add_16 : decode cX2_add 16 = .ok (.invokestatic 22, 3) := by decide +kernel
theorem dX2_add_19 : decode cX2_add 19 = .ok (.iastore, 1) := by decide +kernel
theorem dX2_add_20 : decode cX2_add 20 = .ok (.return_, 1) := by decide +kernel
theorem dX2_over_0 : decode cX2_over 0 = .ok (.aload_n 0, 1) := by decide +kernel
theorem dX2_over_1 : decode cX2_over 1 = .ok (.getfield 11, 3) := by decide +kernel
theorem dX2_over_4 : decode cX2_over 4 = .ok (.iload_n 1, 1) := by decide +kernel
theorem dX2_over_5 : decode cX2_over 5 = .ok (.aaload, 1) := by decide +kernel
theorem dX2_over_6 : decode cX2_over 6 = .ok (.iconst 1, 1) := by decide +kernel
theorem dX2_over_7 : decode cX2_over 7 = .ok (.iaload, 1) := by decide +kernel
theorem dX2_over_8 : decode cX2_over 8 = .ok (.ireturn, 1) := by decide +kernel
theorem dX2_moveOn_0 : decode cX2_moveOn 0 = .ok (.iconst 2, 1) := by decide +kernel
theorem dX2_moveOn_1 : decode cX2_moveOn 1 = .ok (.istore_n 3, 1) := by decide +kernel
theorem dX2_moveOn_2 : decode cX2_moveOn 2 = .ok (.iload_n 3, 1) := by decide +kernel
theorem dX2_moveOn_3 : decode cX2_moveOn 3 = .ok (.bipush 8, 2) := by decide +kernel
theorem dX2_moveOn_5 : decode cX2_moveOn 5 = .ok (.if_icmp .gt 51, 3) := by decide +kernel
theorem dX2_moveOn_8 : decode cX2_moveOn 8 = .ok (.aload_n 0, 1) := by decide +kernel
theorem dX2_moveOn_9 : decode cX2_moveOn 9 = .ok (.getfield 11, 3) := by decide +kernel
theorem dX2_moveOn_12 : decode cX2_moveOn 12 = .ok (.iload_n 1, 1) := by decide +kernel
theorem dX2_moveOn_13 : decode cX2_moveOn 13 = .ok (.aaload, 1) := by decide +kernel
theorem dX2_moveOn_14 : decode cX2_moveOn 14 = .ok (.iload_n 3, 1) := by decide +kernel
theorem dX2_moveOn_15 : decode cX2_moveOn 15 = .ok (.iaload, 1) := by decide +kernel
theorem dX2_moveOn_16 : decode cX2_moveOn 16 = .ok (.istore 4, 2) := by decide +kernel
theorem dX2_moveOn_18 : decode cX2_moveOn 18 = .ok (.iload 4, 2) := by decide +kernel
theorem dX2_moveOn_20 : decode cX2_moveOn 20 = .ok (.iconst (-1), 1) := by decide +kernel
theorem dX2_moveOn_21 : decode cX2_moveOn 21 = .ok (.if_icmp .eq 29, 3) := by decide +kernel
theorem dX2_moveOn_24 : decode cX2_moveOn 24 = .ok (.iload_n 1, 1) := by decide +kernel
theorem dX2_moveOn_25 : decode cX2_moveOn 25 = .ok (.iconst 1, 1) := by decide +kernel
theorem dX2_moveOn_26 : decode cX2_moveOn 26 = .ok (.iadd, 1) := by decide +kernel
theorem dX2_moveOn_27 : decode cX2_moveOn 27 = .ok (.bipush 24, 2) := by decide +kernel
theorem dX2_moveOn_29 : decode cX2_moveOn 29 = .ok (.if_icmp .ge 21, 3) := by decide +kernel
theorem dX2_moveOn_32 : decode cX2_moveOn 32 = .ok (.aload_n 0, 1) := by decide +kernel
theorem dX2_moveOn_33 : decode cX2_moveOn 33 = .ok (.iload_n 1, 1) := by decide +kernel
theorem dX2_moveOn_34 : decode cX2_moveOn 34 = .ok (.iconst 1, 1) := by decide +kernel
theorem dX2_moveOn_35 : decode cX2_moveOn 35 = .ok (.iadd, 1) := by decide +kernel
theorem dX2_moveOn_36 : decode cX2_moveOn 36 = .ok (.iload_n 3, 1) := by decide +kernel
theorem dX2_moveOn_37 : decode cX2_moveOn 37 = .ok (.iconst 1, 1) := by decide +kernel
theorem dX2_moveOn_38 : decode cX2_moveOn 38 = .ok (.isub, 1) := by decide +kernel
theorem dX2_moveOn_39 : decode cX2_moveOn 39 = .ok (.iconst 0, 1) := by decide +kernel
theorem dX2_moveOn_40 : decode cX2_moveOn 40 = .ok (.iload 4, 2) := by decide +kernel
theorem dX2_moveOn_42 : decode cX2_moveOn 42 = .ok (.iload_n 2, 1) := by decide +kernel
theorem dX2_moveOn_43 : decode cX2_moveOn 43 = .ok (.isub, 1) := by decide +kernel
theorem dX2_moveOn_44 : decode cX2_moveOn 44 = .ok (.invokestatic 22, 3) := by decide +kernel
theorem dX2_moveOn_47 : decode cX2_moveOn 47 = .ok (.invokevirtual 28, 3) := by decide +kernel
theorem dX2_moveOn_50 : decode cX2_moveOn 50 = .ok (.iinc 3 1, 3) := by decide +kernel
theorem dX2_moveOn_53 : decode cX2_moveOn 53 = .ok (.goto (-51), 3) := by decide +kernel
theorem dX2_moveOn_56 : decode cX2_moveOn 56 = .ok (.return_, 1) := by decide +kernel
theorem dX3_init_0 : decode cX3_init 0 = .ok (.aload_n 0, 1) := by decide +kernel
theorem dX3_init_1 : decode cX3_init 1 = .ok (.invokespecial 3, 3) := by decide +kernel
theorem dX3_init_4 : decode cX3_init 4 = .ok (.aload_n 0, 1) := by decide +kernel
theorem dX3_init_5 : decode cX3_init 5 = .ok (.bipush 40, 2) := by decide +kernel
theorem dX3_init_7 : decode cX3_init 7 = .ok (.newarray .char, 2) := by decide +kernel
theorem dX3_init_9 : decode cX3_init 9 = .ok (.putfield 9, 3) := by decide +kernel
theorem dX3_init_12 : decode cX3_init 12 = .ok (.aload_n 0, 1) := by decide +kernel
theorem dX3_init_13 : decode cX3_init 13 = .ok (.bipush 12, 2) := by decide +kernel
theorem dX3_init_15 : decode cX3_init 15 = .ok (.newarray .int, 2) := by decide +kernel
theorem dX3_init_17 : decode cX3_init 17 = .ok (.putfield 15, 3) := by decide +kernel
theorem dX3_init_20 : decode cX3_init 20 = .ok (.aload_n 0, 1) := by decide +kernel
theorem dX3_init_21 : decode cX3_init 21 = .ok (.bipush 12, 2) := by decide +kernel
theorem dX3_init_23 : decode cX3_init 23 = .ok (.newarray .int, 2) := by decide +kernel
theorem dX3_init_25 : decode cX3_init 25 = .ok (.putfield 19, 3) := by decide +kernel
theorem dX3_init_28 : decode cX3_init 28 = .ok (.aload_n 0, 1) := by decide +kernel
theorem dX3_init_29 : decode cX3_init 29 = .ok (.iconst 0, 1) := by decide +kernel
theorem dX3_init_30 : decode cX3_init 30 = .ok (.putfield 22, 3) := by decide +kernel
theorem dX3_init_33 : decode cX3_init 33 = .ok (.aload_n 0, 1) := by decide +kernel
theorem dX3_init_34 : decode cX3_init 34 = .ok (.iconst 0, 1) := by decide +kernel
theorem dX3_init_35 : decode cX3_init 35 = .ok (.putfield 26, 3) := by decide +kernel
theorem dX3_init_38 : decode cX3_init 38 = .ok (.aload_n 0, 1) := by decide +kernel
theorem dX3_init_39 : decode cX3_init 39 = .ok (.iconst 0, 1) := by decide +kernel
theorem dX3_init_40 : decode cX3_init 40 = .ok (.putfield 30, 3) := by decide +kernel
theorem dX3_init_43 : decode cX3_init 43 = .ok (.aload_n 0, 1) := by decide +kernel
theorem dX3_init_44 : decode cX3_init 44 = .ok (.iconst (-1), 1) := by decide +kernel
theorem dX3_init_45 : decode cX3_init 45 = .ok (.putfield 33, 3) := by decide +kernel
theorem dX3_init_48 : decode cX3_init 48 = .ok (.aload_n 0, 1) := by decide +kernel
theorem dX3_init_49 : decode cX3_init 49 = .ok (.iconst 0, 1) := by decide +kernel
theorem dX3_init_50 : decode cX3_init 50 = .ok (.putfield 36, 3) := by decide +kernel
theorem dX3_init_53 : decode cX3_init 53 = .ok (.return_, 1) := by decide +kernel
theorem dX3_append_0 : decode cX3_append 0 = .ok (.iload_n 1, 1) := by decide +kernel
theorem dX3_append_1 : decode cX3_append 1 = .ok (.invokestatic 39, 3) := by decide +kernel
theorem dX3_append_4 : decode cX3_append 4 = .ok (.ifCond .eq 17, 3) := by decide +kernel
theorem dX3_append_7 : decode cX3_append 7 = .ok (.iload_n 2, 1) := by decide +kernel
theorem dX3_append_8 : decode cX3_append 8 = .ok (.invokestatic 39, 3) := by decide +kernel
theorem dX3_append_11 : decode cX3_append 11 = .ok (.ifCond .eq 10, 3) := by decide +kernel
theorem dX3_append_14 : decode cX3_append 14 = .ok (.iload_n 3, 1) := by decide +kernel
theorem dX3_append_15 : decode cX3_append 15 = .ok (.invokestatic 39, 3) := by decide +kernel
theorem dX3_append_18 : decode cX3_append 18 = .ok (.ifCond .ne 6, 3) := by decide +kernel
theorem dX3_append_21 : decode cX3_append 21 = .ok (.bipush (-2), 2) := by decide +kernel
theorem dX3_append_23 : decode cX3_append 23 = .ok (.ireturn, 1) := by decide +kernel
theorem dX3_append_24 : decode cX3_append 24 = .ok (.aload_n 0, 1) := by decide +kernel
theorem dX3_append_25 : decode cX3_append 25 = .ok (.getfield 26, 3) := by decide +kernel
theorem dX3_append_28 : decode cX3_append 28 = .ok (.ifCond .eq 6, 3) := by decide +kernel
theorem dX3_append_31 : decode cX3_append 31 = .ok (.bipush (-3), 2) := by decide +kernel
theorem dX3_append_33 : decode cX3_append 33 = .ok (.ireturn, 1) := by decide +kernel
theorem dX3_append_34 : decode cX3_append 34 = .ok (.aload_n 0, 1) := by decide +kernel
theorem dX3_append_35 : decode cX3_append 35 = .ok (.getfield 22, 3) := by decide +kernel
theorem dX3_append_38 : decode cX3_append 38 = .ok (.iload_n 1, 1) := by decide +kernel
theorem dX3_append_39 : decode cX3_append 39 = .ok (.invokestatic 43, 3) := by decide +kernel
theorem dX3_append_42 : decode cX3_append 42 = .ok (.iadd, 1) := by decide +kernel
theorem dX3_append_43 : decode cX3_append 43 = .ok (.iload_n 2, 1) := by decide +kernel
theorem dX3_append_44 : decode cX3_append 44 = .ok (.invokestatic 43, 3) := by decide +kernel
theorem dX3_append_47 : decode cX3_append 47 = .ok (.iadd, 1) := by decide +kernel
theorem dX3_append_48 : decode cX3_append 48 = .ok (.iload_n 3, 1) := by decide +kernel
theorem dX3_append_49 : decode cX3_append 49 = .ok (.invokestatic 43, 3) := by decide +kernel
theorem dX3_append_52 : decode cX3_append 52 = .ok (.iadd, 1) := by decide +kernel
theorem dX3_append_53 : decode cX3_append 53 = .ok (.bipush 40, 2) := by decide +kernel
theorem dX3_append_55 : decode cX3_append 55 = .ok (.if_icmp .le 6, 3) := by decide +kernel
theorem dX3_append_58 : decode cX3_append 58 = .ok (.bipush (-4), 2) := by decide +kernel
theorem dX3_append_60 : decode cX3_append 60 = .ok (.ireturn, 1) := by decide +kernel
theorem dX3_append_61 : decode cX3_append 61 = .ok (.aload_n 0, 1) := by decide +kernel
theorem dX3_append_62 : decode cX3_append 62 = .ok (.iload_n 1, 1) := by decide +kernel
theorem dX3_append_63 : decode cX3_append 63 = .ok (.invokevirtual 47, 3) := by decide +kernel
theorem dX3_append_66 : decode cX3_append 66 = .ok (.aload_n 0, 1) := by decide +kernel
theorem dX3_append_67 : decode cX3_append 67 = .ok (.iload_n 2, 1) := by decide +kernel
theorem dX3_append_68 : decode cX3_append 68 = .ok (.invokevirtual 47, 3) := by decide +kernel
theorem dX3_append_71 : decode cX3_append 71 = .ok (.aload_n 0, 1) := by decide +kernel
theorem dX3_append_72 : decode cX3_append 72 = .ok (.iload_n 3, 1) := by decide +kernel
theorem dX3_append_73 : decode cX3_append 73 = .ok (.invokevirtual 47, 3) := by decide +kernel
theorem dX3_append_76 : decode cX3_append 76 = .ok (.aload_n 0, 1) := by decide +kernel
theorem dX3_append_77 : decode cX3_append 77 = .ok (.getfield 22, 3) := by decide +kernel
theorem dX3_append_80 : decode cX3_append 80 = .ok (.ireturn, 1) := by decide +kernel
theorem dX3_byteOf_0 : decode cX3_byteOf 0 = .ok (.iload_n 0, 1) := by decide +kernel
theorem dX3_byteOf_1 : decode cX3_byteOf 1 = .ok (.iload_n 1, 1) := by decide +kernel
theorem dX3_byteOf_2 : decode cX3_byteOf 2 = .ok (.iushr, 1) := by decide +kernel
theorem dX3_byteOf_3 : decode cX3_byteOf 3 = .ok (.sipush 255, 3) := by decide +kernel
theorem dX3_byteOf_6 : decode cX3_byteOf 6 = .ok (.iand, 1) := by decide +kernel
theorem dX3_byteOf_7 : decode cX3_byteOf 7 = .ok (.ireturn, 1) := by decide +kernel
theorem dX3_hasOnlySigns_0 : decode cX3_hasOnlySigns 0 = .ok (.bipush 24, 2) := by decide +kernel
theorem dX3_hasOnlySigns_2 : decode cX3_hasOnlySigns 2 = .ok (.istore_n 1, 1) := by decide +kernel
theorem dX3_hasOnlySigns_3 : decode cX3_hasOnlySigns 3 = .ok (.iload_n 1, 1) := by decide +kernel
theorem dX3_hasOnlySigns_4 : decode cX3_hasOnlySigns 4 = .ok (.ifCond .lt 44, 3) := by decide +kernel
theorem dX3_hasOnlySigns_7 : decode cX3_hasOnlySigns 7 = .ok (.iload_n 0, 1) := by decide +kernel
theorem dX3_hasOnlySigns_8 : decode cX3_hasOnlySigns 8 = .ok (.iload_n 1, 1) := by decide +kernel
theorem dX3_hasOnlySigns_9 : decode cX3_hasOnlySigns 9 = .ok (.invokestatic 51, 3) := by decide +kernel
theorem dX3_hasOnlySigns_12 : decode cX3_hasOnlySigns 12 = .ok (.istore_n 2, 1) := by decide +kernel
theorem dX3_hasOnlySigns_13 : decode cX3_hasOnlySigns 13 = .ok (.iload_n 2, 1) := by decide +kernel
theorem dX3_hasOnlySigns_14 : decode cX3_hasOnlySigns 14 = .ok (.ifCond .eq 28, 3) := by decide +kernel
theorem dX3_hasOnlySigns_17 : decode cX3_hasOnlySigns 17 = .ok (.iload_n 2, 1) := by decide +kernel
theorem dX3_hasOnlySigns_18 : decode cX3_hasOnlySigns 18 = .ok (.bipush 35, 2) := by decide +kernel
theorem dX3_hasOnlySigns_20 : decode cX3_hasOnlySigns 20 = .ok (.if_icmp .eq 22, 3) := by decide +kernel
theorem dX3_hasOnlySigns_23 : decode cX3_hasOnlySigns 23 = .ok (.iload_n 2, 1) := by decide +kernel
theorem dX3_hasOnlySigns_24 : decode cX3_hasOnlySigns 24 = .ok (.bipush 38, 2) := by decide +kernel
theorem dX3_hasOnlySigns_26 : decode cX3_hasOnlySigns 26 = .ok (.if_icmp .eq 16, 3) := by decide +kernel
theorem dX3_hasOnlySigns_29 : decode cX3_hasOnlySigns 29 = .ok (.iload_n 2, 1) := by decide +kernel
theorem dX3_hasOnlySigns_30 : decode cX3_hasOnlySigns 30 = .ok (.bipush 97, 2) := by decide +kernel
theorem dX3_hasOnlySigns_32 : decode cX3_hasOnlySigns 32 = .ok (.bipush 122, 2) := by decide +kernel
theorem dX3_hasOnlySigns_34 : decode cX3_hasOnlySigns 34 = .ok (.invokestatic 55, 3) := by decide +kernel
theorem dX3_hasOnlySigns_37 : decode cX3_hasOnlySigns 37 = .ok (.ifCond .ne 5, 3) := by decide +kernel
theorem dX3_hasOnlySigns_40 : decode cX3_hasOnlySigns 40 = .ok (.iconst 0, 1) := by decide +kernel
theorem dX3_hasOnlySigns_41 : decode cX3_hasOnlySigns 41 = .ok (.ireturn, 1) := by decide +kernel
theorem dX3_hasOnlySigns_42 : decode cX3_hasOnlySigns 42 = .ok (.iinc 1 (-8), 3) := by decide +kernel
theorem dX3_hasOnlySigns_45 : decode cX3_hasOnlySigns 45 = .ok (.goto (-42), 3) := by decide +kernel
theorem dX3_hasOnlySigns_48 : decode cX3_hasOnlySigns 48 = .ok (.iconst 1, 1) := by decide +kernel
theorem dX3_hasOnlySigns_49 : decode cX3_hasOnlySigns 49 = .ok (.ireturn, 1) := by decide +kernel
theorem dX3_signsOf_0 : decode cX3_signsOf 0 = .ok (.iconst 0, 1) := by decide +kernel
theorem dX3_signsOf_1 : decode cX3_signsOf 1 = .ok (.istore_n 1, 1) := by decide +kernel
theorem dX3_signsOf_2 : decode cX3_signsOf 2 = .ok (.bipush 24, 2) := by decide +kernel
theorem dX3_signsOf_4 : decode cX3_signsOf 4 = .ok (.istore_n 2, 1) := by decide +kernel
theorem dX3_signsOf_5 : decode cX3_signsOf 5 = .ok (.iload_n 2, 1) := by decide +kernel
theorem dX3_signsOf_6 : decode cX3_signsOf 6 = .ok (.ifCond .lt 20, 3) := by decide +kernel
theorem dX3_signsOf_9 : decode cX3_signsOf 9 = .ok (.iload_n 0, 1) := by decide +kernel
theorem dX3_signsOf_10 : decode cX3_signsOf 10 = .ok (.iload_n 2, 1) := by decide +kernel
theorem dX3_signsOf_11 : decode cX3_signsOf 11 = .ok (.invokestatic 51, 3) := by decide +kernel
theorem dX3_signsOf_14 : decode cX3_signsOf 14 = .ok (.ifCond .eq 6, 3) := by decide +kernel
theorem dX3_signsOf_17 : decode cX3_signsOf 17 = .ok (.iinc 1 1, 3) := by decide +kernel
theorem dX3_signsOf_20 : decode cX3_signsOf 20 = .ok (.iinc 2 (-8), 3) := by decide +kernel
theorem dX3_signsOf_23 : decode cX3_signsOf 23 = .ok (.goto (-18), 3) := by decide +kernel
theorem dX3_signsOf_26 : decode cX3_signsOf 26 = .ok (.iload_n 1, 1) := by decide +kernel
theorem dX3_signsOf_27 : decode cX3_signsOf 27 = .ok (.ireturn, 1) := by decide +kernel
theorem dX3_putSigns_0 : decode cX3_putSigns 0 = .ok (.bipush 24, 2) := by decide +kernel
theorem dX3_putSigns_2 : decode cX3_putSigns 2 = .ok (.istore_n 2, 1) := by decide +kernel
theorem dX3_putSigns_3 : decode cX3_putSigns 3 = .ok (.iload_n 2, 1) := by decide +kernel
theorem dX3_putSigns_4 : decode cX3_putSigns 4 = .ok (.ifCond .lt 49, 3) := by decide +kernel
theorem dX3_putSigns_7 : decode cX3_putSigns 7 = .ok (.iload_n 1, 1) := by decide +kernel
theorem dX3_putSigns_8 : decode cX3_putSigns 8 = .ok (.iload_n 2, 1) := by decide +kernel
theorem dX3_putSigns_9 : decode cX3_putSigns 9 = .ok (.invokestatic 51, 3) := by decide +kernel
theorem dX3_putSigns_12 : decode cX3_putSigns 12 = .ok (.istore_n 3, 1) := by decide +kernel
theorem dX3_putSigns_13 : decode cX3_putSigns 13 = .ok (.iload_n 3, 1) := by decide +kernel
theorem dX3_putSigns_14 : decode cX3_putSigns 14 = .ok (.ifCond .eq 33, 3) := by decide +kernel
theorem dX3_putSigns_17 : decode cX3_putSigns 17 = .ok (.aload_n 0, 1) := by decide +kernel
theorem dX3_putSigns_18 : decode cX3_putSigns 18 = .ok (.getfield 22, 3) := by decide +kernel
theorem dX3_putSigns_21 : decode cX3_putSigns 21 = .ok (.bipush 40, 2) := by decide +kernel
theorem dX3_putSigns_23 : decode cX3_putSigns 23 = .ok (.if_icmp .ge 24, 3) := by decide +kernel
theorem dX3_putSigns_26 : decode cX3_putSigns 26 = .ok (.aload_n 0, 1) := by decide +kernel
theorem dX3_putSigns_27 : decode cX3_putSigns 27 = .ok (.getfield 9, 3) := by decide +kernel
theorem dX3_putSigns_30 : decode cX3_putSigns 30 = .ok (.aload_n 0, 1) := by decide +kernel
theorem dX3_putSigns_31 : decode cX3_putSigns 31 = .ok (.getfield 22, 3) := by decide +kernel
theorem dX3_putSigns_34 : decode cX3_putSigns 34 = .ok (.iload_n 3, 1) := by decide +kernel
theorem dX3_putSigns_35 : decode cX3_putSigns 35 = .ok (.i2c, 1) := by decide +kernel
theorem dX3_putSigns_36 : decode cX3_putSigns 36 = .ok (.castore, 1) := by decide +kernel
theorem dX3_putSigns_37 : decode cX3_putSigns 37 = .ok (.aload_n 0, 1) := by decide +kernel
theorem dX3_putSigns_38 : decode cX3_putSigns 38 = .ok (.dup, 1) := by decide +kernel
theorem dX3_putSigns_39 : decode cX3_putSigns 39 = .ok (.getfield 22, 3) := by decide +kernel
theorem dX3_putSigns_42 : decode cX3_putSigns 42 = .ok (.iconst 1, 1) := by decide +kernel
theorem dX3_putSigns_43 : decode cX3_putSigns 43 = .ok (.iadd, 1) := by decide +kernel
theorem dX3_putSigns_44 : decode cX3_putSigns 44 = .ok (.putfield 22, 3) := by decide +kernel
theorem dX3_putSigns_47 : decode cX3_putSigns 47 = .ok (.iinc 2 (-8), 3) := by decide +kernel
theorem dX3_putSigns_50 : decode cX3_putSigns 50 = .ok (.goto (-47), 3) := by decide +kernel
theorem dX3_putSigns_53 : decode cX3_putSigns 53 = .ok (.return_, 1) := by decide +kernel
theorem dX3_readTape_0 : decode cX3_readTape 0 = .ok (.aload_n 0, 1) := by decide +kernel
theorem dX3_readTape_1 : decode cX3_readTape 1 = .ok (.getfield 26, 3) := by decide +kernel
theorem dX3_readTape_4 : decode cX3_readTape 4 = .ok (.ifCond .eq 6, 3) := by decide +kernel
theorem dX3_readTape_7 : decode cX3_readTape 7 = .ok (.bipush (-3), 2) := by decide +kernel
theorem dX3_readTape_9 : decode cX3_readTape 9 = .ok (.ireturn, 1) := by decide +kernel
theorem dX3_readTape_10 : decode cX3_readTape 10 = .ok (.aload_n 0, 1) := by decide +kernel
theorem dX3_readTape_11 : decode cX3_readTape 11 = .ok (.invokevirtual 59, 3) := by decide +kernel
theorem dX3_readTape_14 : decode cX3_readTape 14 = .ok (.istore_n 1, 1) := by decide +kernel
theorem dX3_readTape_15 : decode cX3_readTape 15 = .ok (.iload_n 1, 1) := by decide +kernel
theorem dX3_readTape_16 : decode cX3_readTape 16 = .ok (.iconst (-1), 1) := by decide +kernel
theorem dX3_readTape_17 : decode cX3_readTape 17 = .ok (.if_icmp .ne 13, 3) := by decide +kernel
theorem dX3_readTape_20 : decode cX3_readTape 20 = .ok (.aload_n 0, 1) := by decide +kernel
theorem dX3_readTape_21 : decode cX3_readTape 21 = .ok (.iconst 1, 1) := by decide +kernel
theorem dX3_readTape_22 : decode cX3_readTape 22 = .ok (.putfield 26, 3) := by decide +kernel
theorem dX3_readTape_25 : decode cX3_readTape 25 = .ok (.aload_n 0, 1) := by decide +kernel
theorem dX3_readTape_26 : decode cX3_readTape 26 = .ok (.getfield 30, 3) := by decide +kernel
theorem dX3_readTape_29 : decode cX3_readTape 29 = .ok (.ireturn, 1) := by decide +kernel
theorem dX3_readTape_30 : decode cX3_readTape 30 = .ok (.aload_n 0, 1) := by decide +kernel
theorem dX3_readTape_31 : decode cX3_readTape 31 = .ok (.iconst 0, 1) := by decide +kernel
theorem dX3_readTape_32 : decode cX3_readTape 32 = .ok (.putfield 22, 3) := by decide +kernel
theorem dX3_readTape_35 : decode cX3_readTape 35 = .ok (.aload_n 0, 1) := by decide +kernel
theorem dX3_readTape_36 : decode cX3_readTape 36 = .ok (.iconst 0, 1) := by decide +kernel
theorem dX3_readTape_37 : decode cX3_readTape 37 = .ok (.putfield 30, 3) := by decide +kernel
theorem dX3_readTape_40 : decode cX3_readTape 40 = .ok (.aload_n 0, 1) := by decide +kernel
theorem dX3_readTape_41 : decode cX3_readTape 41 = .ok (.iconst (-1), 1) := by decide +kernel
theorem dX3_readTape_42 : decode cX3_readTape 42 = .ok (.putfield 33, 3) := by decide +kernel
theorem dX3_readTape_45 : decode cX3_readTape 45 = .ok (.bipush (-10), 2) := by decide +kernel
theorem dX3_readTape_47 : decode cX3_readTape 47 = .ok (.iload_n 1, 1) := by decide +kernel
theorem dX3_readTape_48 : decode cX3_readTape 48 = .ok (.isub, 1) := by decide +kernel
theorem dX3_readTape_49 : decode cX3_readTape 49 = .ok (.ireturn, 1) := by decide +kernel
theorem dX3_findWrongPlace_0 : decode cX3_findWrongPlace 0 = .ok (.aload_n 0, 1) := by decide +kernel
theorem dX3_findWrongPlace_1 : decode cX3_findWrongPlace 1 = .ok (.getfield 15, 3) := by decide +kernel
theorem dX3_findWrongPlace_4 : decode cX3_findWrongPlace 4 = .ok (.iconst 0, 1) := by decide +kernel
theorem dX3_findWrongPlace_5 : decode cX3_findWrongPlace 5 = .ok (.invokestatic 63, 3) := by decide +kernel
theorem dX3_findWrongPlace_8 : decode cX3_findWrongPlace 8 = .ok (.aload_n 0, 1) := by decide +kernel
theorem dX3_findWrongPlace_9 : decode cX3_findWrongPlace 9 = .ok (.getfield 19, 3) := by decide +kernel
theorem dX3_findWrongPlace_12 : decode cX3_findWrongPlace 12 = .ok (.iconst 0, 1) := by decide +kernel
theorem dX3_findWrongPlace_13 : decode cX3_findWrongPlace 13 = .ok (.invokestatic 63, 3) := by decide +kernel
theorem dX3_findWrongPlace_16 : decode cX3_findWrongPlace 16 = .ok (.aload_n 0, 1) := by decide +kernel
theorem dX3_findWrongPlace_17 : decode cX3_findWrongPlace 17 = .ok (.iconst 1, 1) := by decide +kernel
theorem dX3_findWrongPlace_18 : decode cX3_findWrongPlace 18 = .ok (.putfield 30, 3) := by decide +kernel
theorem dX3_findWrongPlace_21 : decode cX3_findWrongPlace 21 = .ok (.aload_n 0, 1) := by decide +kernel
theorem dX3_findWrongPlace_22 : decode cX3_findWrongPlace 22 = .ok (.iconst 0, 1) := by decide +kernel
theorem dX3_findWrongPlace_23 : decode cX3_findWrongPlace 23 = .ok (.putfield 36, 3) := by decide +kernel
theorem dX3_findWrongPlace_26 : decode cX3_findWrongPlace 26 = .ok (.iconst 0, 1) := by decide +kernel
theorem dX3_findWrongPlace_27 : decode cX3_findWrongPlace 27 = .ok (.istore_n 1, 1) := by decide +kernel
theorem dX3_findWrongPlace_28 : decode cX3_findWrongPlace 28 = .ok (.iload_n 1, 1) := by decide +kernel
theorem dX3_findWrongPlace_29 : decode cX3_findWrongPlace 29 = .ok (.aload_n 0, 1) := by decide +kernel
theorem dX3_findWrongPlace_30 : decode cX3_findWrongPlace 30 = .ok (.getfield 22, 3) := by decide +kernel
theorem dX3_findWrongPlace_33 : decode cX3_findWrongPlace 33 = .ok (.if_icmp .ge 19, 3) := by decide +kernel
theorem dX3_findWrongPlace_36 : decode cX3_findWrongPlace 36 = .ok (.aload_n 0, 1) := by decide +kernel
theorem dX3_findWrongPlace_37 : decode cX3_findWrongPlace 37 = .ok (.iload_n 1, 1) := by decide +kernel
theorem dX3_findWrongPlace_38 : decode cX3_findWrongPlace 38 = .ok (.invokevirtual 69, 3) := by decide +kernel
theorem dX3_findWrongPlace_41 : decode cX3_findWrongPlace 41 = .ok (.ifCond .ne 5, 3) := by decide +kernel
theorem dX3_findWrongPlace_44 : decode cX3_findWrongPlace 44 = .ok (.iload_n 1, 1) := by decide +kernel
theorem dX3_findWrongPlace_45 : decode cX3_findWrongPlace 45 = .ok (.ireturn, 1) := by decide +kernel
theorem dX3_findWrongPlace_46 : decode cX3_findWrongPlace 46 = .ok (.iinc 1 1, 3) := by decide +kernel
theorem dX3_findWrongPlace_49 : decode cX3_findWrongPlace 49 = .ok (.goto (-21), 3) := by decide +kernel
theorem dX3_findWrongPlace_52 : decode cX3_findWrongPlace 52 = .ok (.aload_n 0, 1) := by decide +kernel
theorem dX3_findWrongPlace_53 : decode cX3_findWrongPlace 53 = .ok (.getfield 36, 3) := by decide +kernel
theorem dX3_findWrongPlace_56 : decode cX3_findWrongPlace 56 = .ok (.ifCond .eq 7, 3) := by decide +kernel
theorem dX3_findWrongPlace_59 : decode cX3_findWrongPlace 59 = .ok (.iconst (-1), 1) := by decide +kernel
theorem dX3_findWrongPlace_60 : decode cX3_findWrongPlace 60 = .ok (.goto 7, 3) := by decide +kernel
theorem dX3_findWrongPlace_63 : decode cX3_findWrongPlace 63 = .ok (.aload_n 0, 1) := by decide +kernel
theorem dX3_findWrongPlace_64 : decode cX3_findWrongPlace 64 = .ok (.getfield 22, 3) := by decide +kernel
theorem dX3_findWrongPlace_67 : decode cX3_findWrongPlace 67 = .ok (.ireturn, 1) := by decide +kernel
theorem dX3_takeSign_0 : decode cX3_takeSign 0 = .ok (.aload_n 0, 1) := by decide +kernel
theorem dX3_takeSign_1 : decode cX3_takeSign 1 = .ok (.getfield 9, 3) := by decide +kernel
theorem dX3_takeSign_4 : decode cX3_takeSign 4 = .ok (.iload_n 1, 1) := by decide +kernel
theorem dX3_takeSign_5 : decode cX3_takeSign 5 = .ok (.caload, 1) := by decide +kernel
theorem dX3_takeSign_6 : decode cX3_takeSign 6 = .ok (.istore_n 2, 1) := by decide +kernel
theorem dX3_takeSign_7 : decode cX3_takeSign 7 = .ok (.iload_n 2, 1) := by decide +kernel
theorem dX3_takeSign_8 : decode cX3_takeSign 8 = .ok (.bipush 35, 2) := by decide +kernel
theorem dX3_takeSign_10 : decode cX3_takeSign 10 = .ok (.if_icmp .ne 23, 3) := by decide +kernel
theorem dX3_takeSign_13 : decode cX3_takeSign 13 = .ok (.aload_n 0, 1) := by decide +kernel
theorem dX3_takeSign_14 : decode cX3_takeSign 14 = .ok (.getfield 36, 3) := by decide +kernel
theorem dX3_takeSign_17 : decode cX3_takeSign 17 = .ok (.ifCond .ne 7, 3) := by decide +kernel
theorem dX3_takeSign_20 : decode cX3_takeSign 20 = .ok (.iconst 1, 1) := by decide +kernel
theorem dX3_takeSign_21 : decode cX3_takeSign 21 = .ok (.goto 4, 3) := by decide +kernel
theorem dX3_takeSign_24 : decode cX3_takeSign 24 = .ok (.iconst 0, 1) := by decide +kernel
theorem dX3_takeSign_25 : decode cX3_takeSign 25 = .ok (.istore_n 3, 1) := by decide +kernel
theorem dX3_takeSign_26 : decode cX3_takeSign 26 = .ok (.aload_n 0, 1) := by decide +kernel
theorem dX3_takeSign_27 : decode cX3_takeSign 27 = .ok (.iconst 1, 1) := by decide +kernel
theorem dX3_takeSign_28 : decode cX3_takeSign 28 = .ok (.putfield 36, 3) := by decide +kernel
theorem dX3_takeSign_31 : decode cX3_takeSign 31 = .ok (.iload_n 3, 1) := by decide +kernel
theorem dX3_takeSign_32 : decode cX3_takeSign 32 = .ok (.ireturn, 1) := by decide +kernel
theorem dX3_takeSign_33 : decode cX3_takeSign 33 = .ok (.iload_n 2, 1) := by decide +kernel
theorem dX3_takeSign_34 : decode cX3_takeSign 34 = .ok (.bipush 38, 2) := by decide +kernel
theorem dX3_takeSign_36 : decode cX3_takeSign 36 = .ok (.if_icmp .ne 23, 3) := by decide +kernel
theorem dX3_takeSign_39 : decode cX3_takeSign 39 = .ok (.aload_n 0, 1) := by decide +kernel
theorem dX3_takeSign_40 : decode cX3_takeSign 40 = .ok (.getfield 36, 3) := by decide +kernel
theorem dX3_takeSign_43 : decode cX3_takeSign 43 = .ok (.ifCond .eq 10, 3) := by decide +kernel
theorem dX3_takeSign_46 : decode cX3_takeSign 46 = .ok (.aload_n 0, 1) := by decide +kernel
theorem dX3_takeSign_47 : decode cX3_takeSign 47 = .ok (.invokevirtual 72, 3) := by decide +kernel
theorem dX3_takeSign_50 : decode cX3_takeSign 50 = .ok (.goto 8, 3) := by decide +kernel
theorem dX3_takeSign_53 : decode cX3_takeSign 53 = .ok (.aload_n 0, 1) := by decide +kernel
theorem dX3_takeSign_54 : decode cX3_takeSign 54 = .ok (.iload_n 1, 1) := by decide +kernel
theorem dX3_takeSign_55 : decode cX3_takeSign 55 = .ok (.invokevirtual 76, 3) := by decide +kernel
theorem dX3_takeSign_58 : decode cX3_takeSign 58 = .ok (.ireturn, 1) := by decide +kernel
theorem dX3_takeSign_59 : decode cX3_takeSign 59 = .ok (.aload_n 0, 1) := by decide +kernel
theorem dX3_takeSign_60 : decode cX3_takeSign 60 = .ok (.getfield 36, 3) := by decide +kernel
theorem dX3_takeSign_63 : decode cX3_takeSign 63 = .ok (.ifCond .eq 10, 3) := by decide +kernel
theorem dX3_takeSign_66 : decode cX3_takeSign 66 = .ok (.aload_n 0, 1) := by decide +kernel
theorem dX3_takeSign_67 : decode cX3_takeSign 67 = .ok (.getfield 19, 3) := by decide +kernel
theorem dX3_takeSign_70 : decode cX3_takeSign 70 = .ok (.goto 7, 3) := by decide +kernel
theorem dX3_takeSign_73 : decode cX3_takeSign 73 = .ok (.aload_n 0, 1) := by decide +kernel
theorem dX3_takeSign_74 : decode cX3_takeSign 74 = .ok (.getfield 15, 3) := by decide +kernel
theorem dX3_takeSign_77 : decode cX3_takeSign 77 = .ok (.astore_n 3, 1) := by decide +kernel
theorem dX3_takeSign_78 : decode cX3_takeSign 78 = .ok (.aload_n 3, 1) := by decide +kernel
theorem dX3_takeSign_79 : decode cX3_takeSign 79 = .ok (.aload_n 0, 1) := by decide +kernel
theorem dX3_takeSign_80 : decode cX3_takeSign 80 = .ok (.getfield 30, 3) := by decide +kernel
theorem dX3_takeSign_83 : decode cX3_takeSign 83 = .ok (.iconst 1, 1) := by decide +kernel
theorem dX3_takeSign_84 : decode cX3_takeSign 84 = .ok (.isub, 1) := by decide +kernel
theorem dX3_takeSign_85 : decode cX3_takeSign 85 = .ok (.dup2, 1) := by decide +kernel
theorem dX3_takeSign_86 : decode cX3_takeSign 86 = .ok (.iaload, 1) := by decide +kernel
theorem dX3_takeSign_87 : decode cX3_takeSign 87 = .ok (.iload_n 2, 1) := by decide +kernel
theorem dX3_takeSign_88 : decode cX3_takeSign 88 = .ok (.bipush 97, 2) := by decide +kernel
theorem dX3_takeSign_90 : decode cX3_takeSign 90 = .ok (.isub, 1) := by decide +kernel
theorem dX3_takeSign_91 : decode cX3_takeSign 91 = .ok (.iconst 1, 1) := by decide +kernel
theorem dX3_takeSign_92 : decode cX3_takeSign 92 = .ok (.iadd, 1) := by decide +kernel
theorem dX3_takeSign_93 : decode cX3_takeSign 93 = .ok (.iadd, 1) := by decide +kernel
theorem dX3_takeSign_94 : decode cX3_takeSign 94 = .ok (.iastore, 1) := by decide +kernel
theorem dX3_takeSign_95 : decode cX3_takeSign 95 = .ok (.iconst 1, 1) := by decide +kernel
theorem dX3_takeSign_96 : decode cX3_takeSign 96 = .ok (.ireturn, 1) := by decide +kernel
theorem dX3_beginTemplate_0 : decode cX3_beginTemplate 0 = .ok (.aload_n 0, 1) := by decide +kernel
theorem dX3_beginTemplate_1 : decode cX3_beginTemplate 1 = .ok (.getfield 30, 3) := by decide +kernel
theorem dX3_beginTemplate_4 : decode cX3_beginTemplate 4 = .ok (.bipush 12, 2) := by decide +kernel
theorem dX3_beginTemplate_6 : decode cX3_beginTemplate 6 = .ok (.if_icmp .lt 5, 3) := by decide +kernel
theorem dX3_beginTemplate_9 : decode cX3_beginTemplate 9 = .ok (.iconst 0, 1) := by decide +kernel
theorem dX3_beginTemplate_10 : decode cX3_beginTemplate 10 = .ok (.ireturn, 1) := by decide +kernel
theorem dX3_beginTemplate_11 : decode cX3_beginTemplate 11 = .ok (.aload_n 0, 1) := by decide +kernel
theorem dX3_beginTemplate_12 : decode cX3_beginTemplate 12 = .ok (.dup, 1) := by decide +kernel
theorem dX3_beginTemplate_13 : decode cX3_beginTemplate 13 = .ok (.getfield 30, 3) := by decide +kernel
theorem dX3_beginTemplate_16 : decode cX3_beginTemplate 16 = .ok (.iconst 1, 1) := by decide +kernel
theorem dX3_beginTemplate_17 : decode cX3_beginTemplate 17 = .ok (.iadd, 1) := by decide +kernel
theorem dX3_beginTemplate_18 : decode cX3_beginTemplate 18 = .ok (.putfield 30, 3) := by decide +kernel
theorem dX3_beginTemplate_21 : decode cX3_beginTemplate 21 = .ok (.aload_n 0, 1) := by decide +kernel
theorem dX3_beginTemplate_22 : decode cX3_beginTemplate 22 = .ok (.iconst 0, 1) := by decide +kernel
theorem dX3_beginTemplate_23 : decode cX3_beginTemplate 23 = .ok (.putfield 36, 3) := by decide +kernel
theorem dX3_beginTemplate_26 : decode cX3_beginTemplate 26 = .ok (.iconst 1, 1) := by decide +kernel
theorem dX3_beginTemplate_27 : decode cX3_beginTemplate 27 = .ok (.ireturn, 1) := by decide +kernel
theorem dX3_beginRepeat_0 : decode cX3_beginRepeat 0 = .ok (.aload_n 0, 1) := by decide +kernel
theorem dX3_beginRepeat_1 : decode cX3_beginRepeat 1 = .ok (.getfield 33, 3) := by decide +kernel
theorem dX3_beginRepeat_4 : decode cX3_beginRepeat 4 = .ok (.iconst (-1), 1) := by decide +kernel
theorem dX3_beginRepeat_5 : decode cX3_beginRepeat 5 = .ok (.if_icmp .ne 20, 3) := by decide +kernel
theorem dX3_beginRepeat_8 : decode cX3_beginRepeat 8 = .ok (.iload_n 1, 1) := by decide +kernel
theorem dX3_beginRepeat_9 : decode cX3_beginRepeat 9 = .ok (.ifCond .le 18, 3) := by decide +kernel
theorem dX3_beginRepeat_12 : decode cX3_beginRepeat 12 = .ok (.aload_n 0, 1) := by decide +kernel
theorem dX3_beginRepeat_13 : decode cX3_beginRepeat 13 = .ok (.getfield 9, 3) := by decide +kernel
theorem dX3_beginRepeat_16 : decode cX3_beginRepeat 16 = .ok (.iload_n 1, 1) := by decide +kernel
theorem dX3_beginRepeat_17 : decode cX3_beginRepeat 17 = .ok (.iconst 1, 1) := by decide +kernel
theorem dX3_beginRepeat_18 : decode cX3_beginRepeat 18 = .ok (.isub, 1) := by decide +kernel
theorem dX3_beginRepeat_19 : decode cX3_beginRepeat 19 = .ok (.caload, 1) := by decide +kernel
theorem dX3_beginRepeat_20 : decode cX3_beginRepeat 20 = .ok (.bipush 38, 2) := by decide +kernel
theorem dX3_beginRepeat_22 : decode cX3_beginRepeat 22 = .ok (.if_icmp .eq 5, 3) := by decide +kernel
theorem dX3_beginRepeat_25 : decode cX3_beginRepeat 25 = .ok (.iconst 0, 1) := by decide +kernel
theorem dX3_beginRepeat_26 : decode cX3_beginRepeat 26 = .ok (.ireturn, 1) := by decide +kernel
theorem dX3_beginRepeat_27 : decode cX3_beginRepeat 27 = .ok (.aload_n 0, 1) := by decide +kernel
theorem dX3_beginRepeat_28 : decode cX3_beginRepeat 28 = .ok (.aload_n 0, 1) := by decide +kernel
theorem dX3_beginRepeat_29 : decode cX3_beginRepeat 29 = .ok (.getfield 30, 3) := by decide +kernel
theorem dX3_beginRepeat_32 : decode cX3_beginRepeat 32 = .ok (.iconst 1, 1) := by decide +kernel
theorem dX3_beginRepeat_33 : decode cX3_beginRepeat 33 = .ok (.isub, 1) := by decide +kernel
theorem dX3_beginRepeat_34 : decode cX3_beginRepeat 34 = .ok (.putfield 33, 3) := by decide +kernel
theorem dX3_beginRepeat_37 : decode cX3_beginRepeat 37 = .ok (.iconst 1, 1) := by decide +kernel
theorem dX3_beginRepeat_38 : decode cX3_beginRepeat 38 = .ok (.ireturn, 1) := by decide +kernel
theorem dX3_columnLimit_0 : decode cX3_columnLimit 0 = .ok (.aload_n 0, 1) := by decide +kernel
theorem dX3_columnLimit_1 : decode cX3_columnLimit 1 = .ok (.getfield 33, 3) := by decide +kernel
theorem dX3_columnLimit_4 : decode cX3_columnLimit 4 = .ok (.iconst (-1), 1) := by decide +kernel
theorem dX3_columnLimit_5 : decode cX3_columnLimit 5 = .ok (.if_icmp .ne 10, 3) := by decide +kernel
theorem dX3_columnLimit_8 : decode cX3_columnLimit 8 = .ok (.aload_n 0, 1) := by decide +kernel
theorem dX3_columnLimit_9 : decode cX3_columnLimit 9 = .ok (.getfield 30, 3) := by decide +kernel
theorem dX3_columnLimit_12 : decode cX3_columnLimit 12 = .ok (.goto 5, 3) := by decide +kernel
theorem dX3_columnLimit_15 : decode cX3_columnLimit 15 = .ok (.bipush 24, 2) := by decide +kernel
theorem dX3_columnLimit_17 : decode cX3_columnLimit 17 = .ok (.ireturn, 1) := by decide +kernel
theorem dX3_templateOf_0 : decode cX3_templateOf 0 = .ok (.aload_n 0, 1) := by decide +kernel
theorem dX3_templateOf_1 : decode cX3_templateOf 1 = .ok (.getfield 30, 3) := by decide +kernel
theorem dX3_templateOf_4 : decode cX3_templateOf 4 = .ok (.aload_n 0, 1) := by decide +kernel
theorem dX3_templateOf_5 : decode cX3_templateOf 5 = .ok (.getfield 33, 3) := by decide +kernel
theorem dX3_templateOf_8 : decode cX3_templateOf 8 = .ok (.isub, 1) := by decide +kernel
theorem dX3_templateOf_9 : decode cX3_templateOf 9 = .ok (.istore_n 2, 1) := by decide +kernel
theorem dX3_templateOf_10 : decode cX3_templateOf 10 = .ok (.iload_n 1, 1) := by decide +kernel
theorem dX3_templateOf_11 : decode cX3_templateOf 11 = .ok (.aload_n 0, 1) := by decide +kernel
theorem dX3_templateOf_12 : decode cX3_templateOf 12 = .ok (.getfield 30, 3) := by decide +kernel
theorem dX3_templateOf_15 : decode cX3_templateOf 15 = .ok (.if_icmp .lt 15, 3) := by decide +kernel
theorem dX3_templateOf_18 : decode cX3_templateOf 18 = .ok (.aload_n 0, 1) := by decide +kernel
theorem dX3_templateOf_19 : decode cX3_templateOf 19 = .ok (.getfield 33, 3) := by decide +kernel
theorem dX3_templateOf_22 : decode cX3_templateOf 22 = .ok (.iconst (-1), 1) := by decide +kernel
theorem dX3_templateOf_23 : decode cX3_templateOf 23 = .ok (.if_icmp .eq 7, 3) := by decide +kernel
theorem dX3_templateOf_26 : decode cX3_templateOf 26 = .ok (.iload_n 2, 1) := by decide +kernel
theorem dX3_templateOf_27 : decode cX3_templateOf 27 = .ok (.ifCond .gt 5, 3) := by decide +kernel
theorem dX3_templateOf_30 : decode cX3_templateOf 30 = .ok (.iload_n 1, 1) := by decide +kernel
theorem dX3_templateOf_31 : decode cX3_templateOf 31 = .ok (.ireturn, 1) := by decide +kernel
theorem dX3_templateOf_32 : decode cX3_templateOf 32 = .ok (.aload_n 0, 1) := by decide +kernel
theorem dX3_templateOf_33 : decode cX3_templateOf 33 = .ok (.getfield 33, 3) := by decide +kernel
theorem dX3_templateOf_36 : decode cX3_templateOf 36 = .ok (.iload_n 1, 1) := by decide +kernel
theorem dX3_templateOf_37 : decode cX3_templateOf 37 = .ok (.aload_n 0, 1) := by decide +kernel
theorem dX3_templateOf_38 : decode cX3_templateOf 38 = .ok (.getfield 33, 3) := by decide +kernel
theorem dX3_templateOf_41 : decode cX3_templateOf 41 = .ok (.isub, 1) := by decide +kernel
theorem dX3_templateOf_42 : decode cX3_templateOf 42 = .ok (.iload_n 2, 1) := by decide +kernel
theorem dX3_templateOf_43 : decode cX3_templateOf 43 = .ok (.irem, 1) := by decide +kernel
theorem dX3_templateOf_44 : decode cX3_templateOf 44 = .ok (.iadd, 1) := by decide +kernel
theorem dX3_templateOf_45 : decode cX3_templateOf 45 = .ok (.ireturn, 1) := by decide +kernel
theorem dX3_textOf_0 : decode cX3_textOf 0 = .ok (.aload_n 0, 1) := by decide +kernel
theorem dX3_textOf_1 : decode cX3_textOf 1 = .ok (.getfield 15, 3) := by decide +kernel
theorem dX3_textOf_4 : decode cX3_textOf 4 = .ok (.aload_n 0, 1) := by decide +kernel
theorem dX3_textOf_5 : decode cX3_textOf 5 = .ok (.iload_n 1, 1) := by decide +kernel
theorem dX3_textOf_6 : decode cX3_textOf 6 = .ok (.invokevirtual 79, 3) := by decide +kernel
theorem dX3_textOf_9 : decode cX3_textOf 9 = .ok (.iaload, 1) := by decide +kernel
theorem dX3_textOf_10 : decode cX3_textOf 10 = .ok (.aload_n 0, 1) := by decide +kernel
theorem dX3_textOf_11 : decode cX3_textOf 11 = .ok (.getfield 19, 3) := by decide +kernel
theorem dX3_textOf_14 : decode cX3_textOf 14 = .ok (.aload_n 0, 1) := by decide +kernel
theorem dX3_textOf_15 : decode cX3_textOf 15 = .ok (.iload_n 2, 1) := by decide +kernel
theorem dX3_textOf_16 : decode cX3_textOf 16 = .ok (.invokevirtual 79, 3) := by decide +kernel
theorem dX3_textOf_19 : decode cX3_textOf 19 = .ok (.iaload, 1) := by decide +kernel
theorem dX3_textOf_20 : decode cX3_textOf 20 = .ok (.iadd, 1) := by decide +kernel
theorem dX3_textOf_21 : decode cX3_textOf 21 = .ok (.ireturn, 1) := by decide +kernel
theorem dX4_init_0 : decode cX4_init 0 = .ok (.aload_n 0, 1) := by decide +kernel
theorem dX4_init_1 : decode cX4_init 1 = .ok (.invokespecial 3, 3) := by decide +kernel
theorem dX4_init_4 : decode cX4_init 4 = .ok (.aload_n 0, 1) := by decide +kernel
theorem dX4_init_5 : decode cX4_init 5 = .ok (.bipush 24, 2) := by decide +kernel
theorem dX4_init_7 : decode cX4_init 7 = .ok (.newarray .int, 2) := by decide +kernel
theorem dX4_init_9 : decode cX4_init 9 = .ok (.putfield 9, 3) := by decide +kernel
theorem dX4_init_12 : decode cX4_init 12 = .ok (.aload_n 0, 1) := by decide +kernel
theorem dX4_init_13 : decode cX4_init 13 = .ok (.bipush 24, 2) := by decide +kernel
theorem dX4_init_15 : decode cX4_init 15 = .ok (.newarray .int, 2) := by decide +kernel
theorem dX4_init_17 : decode cX4_init 17 = .ok (.putfield 15, 3) := by decide +kernel
theorem dX4_init_20 : decode cX4_init 20 = .ok (.aload_n 0, 1) := by decide +kernel
theorem dX4_init_21 : decode cX4_init 21 = .ok (.bipush 24, 2) := by decide +kernel
theorem dX4_init_23 : decode cX4_init 23 = .ok (.newarray .int, 2) := by decide +kernel
theorem dX4_init_25 : decode cX4_init 25 = .ok (.putfield 18, 3) := by decide +kernel
theorem dX4_init_28 : decode cX4_init 28 = .ok (.aload_n 0, 1) := by decide +kernel
theorem dX4_init_29 : decode cX4_init 29 = .ok (.iconst 0, 1) := by decide +kernel
theorem dX4_init_30 : decode cX4_init 30 = .ok (.putfield 21, 3) := by decide +kernel
theorem dX4_init_33 : decode cX4_init 33 = .ok (.aload_n 0, 1) := by decide +kernel
theorem dX4_init_34 : decode cX4_init 34 = .ok (.iconst 0, 1) := by decide +kernel
theorem dX4_init_35 : decode cX4_init 35 = .ok (.putfield 25, 3) := by decide +kernel
theorem dX4_init_38 : decode cX4_init 38 = .ok (.return_, 1) := by decide +kernel
theorem dX4_append_0 : decode cX4_append 0 = .ok (.aload_n 0, 1) := by decide +kernel
theorem dX4_append_1 : decode cX4_append 1 = .ok (.getfield 9, 3) := by decide +kernel
theorem dX4_append_4 : decode cX4_append 4 = .ok (.aload_n 0, 1) := by decide +kernel
theorem dX4_append_5 : decode cX4_append 5 = .ok (.getfield 21, 3) := by decide +kernel
theorem dX4_append_8 : decode cX4_append 8 = .ok (.iload_n 1, 1) := by decide +kernel
theorem dX4_append_9 : decode cX4_append 9 = .ok (.iastore, 1) := by decide +kernel
theorem dX4_append_10 : decode cX4_append 10 = .ok (.aload_n 0, 1) := by decide +kernel
theorem dX4_append_11 : decode cX4_append 11 = .ok (.getfield 15, 3) := by decide +kernel
theorem dX4_append_14 : decode cX4_append 14 = .ok (.aload_n 0, 1) := by decide +kernel
theorem dX4_append_15 : decode cX4_append 15 = .ok (.getfield 21, 3) := by decide +kernel
theorem dX4_append_18 : decode cX4_append 18 = .ok (.aload_n 0, 1) := by decide +kernel
theorem dX4_append_19 : decode cX4_append 19 = .ok (.getfield 25, 3) := by decide +kernel
theorem dX4_append_22 : decode cX4_append 22 = .ok (.iastore, 1) := by decide +kernel
theorem dX4_append_23 : decode cX4_append 23 = .ok (.aload_n 0, 1) := by decide +kernel
theorem dX4_append_24 : decode cX4_append 24 = .ok (.getfield 18, 3) := by decide +kernel
theorem dX4_append_27 : decode cX4_append 27 = .ok (.aload_n 0, 1) := by decide +kernel
theorem dX4_append_28 : decode cX4_append 28 = .ok (.getfield 21, 3) := by decide +kernel
theorem dX4_append_31 : decode cX4_append 31 = .ok (.iload_n 2, 1) := by decide +kernel
theorem dX4_append_32 : decode cX4_append 32 = .ok (.iastore, 1) := by decide +kernel
theorem dX4_append_33 : decode cX4_append 33 = .ok (.aload_n 0, 1) := by decide +kernel
theorem dX4_append_34 : decode cX4_append 34 = .ok (.dup, 1) := by decide +kernel
theorem dX4_append_35 : decode cX4_append 35 = .ok (.getfield 21, 3) := by decide +kernel
theorem dX4_append_38 : decode cX4_append 38 = .ok (.iconst 1, 1) := by decide +kernel
theorem dX4_append_39 : decode cX4_append 39 = .ok (.iadd, 1) := by decide +kernel
theorem dX4_append_40 : decode cX4_append 40 = .ok (.putfield 21, 3) := by decide +kernel
theorem dX4_append_43 : decode cX4_append 43 = .ok (.aload_n 0, 1) := by decide +kernel
theorem dX4_append_44 : decode cX4_append 44 = .ok (.dup, 1) := by decide +kernel
theorem dX4_append_45 : decode cX4_append 45 = .ok (.getfield 25, 3) := by decide +kernel
theorem dX4_append_48 : decode cX4_append 48 = .ok (.iload_n 2, 1) := by decide +kernel
theorem dX4_append_49 : decode cX4_append 49 = .ok (.iadd, 1) := by decide +kernel
theorem dX4_append_50 : decode cX4_append 50 = .ok (.putfield 25, 3) := by decide +kernel
theorem dX4_append_53 : decode cX4_append 53 = .ok (.return_, 1) := by decide +kernel
theorem dX5_init_0 : decode cX5_init 0 = .ok (.aload_n 0, 1) := by decide +kernel
theorem dX5_init_1 : decode cX5_init 1 = .ok (.invokespecial 3, 3) := by decide +kernel
theorem dX5_init_4 : decode cX5_init 4 = .ok (.aload_n 0, 1) := by decide +kernel
theorem dX5_init_5 : decode cX5_init 5 = .ok (.new 9, 3) := by decide +kernel
theorem dX5_init_8 : decode cX5_init 8 = .ok (.dup, 1) := by decide +kernel
theorem dX5_init_9 : decode cX5_init 9 = .ok (.invokespecial 11, 3) := by decide +kernel
theorem dX5_init_12 : decode cX5_init 12 = .ok (.putfield 12, 3) := by decide +kernel
theorem dX5_init_15 : decode cX5_init 15 = .ok (.aload_n 0, 1) := by decide +kernel
theorem dX5_init_16 : decode cX5_init 16 = .ok (.bipush 13, 2) := by decide +kernel
theorem dX5_init_18 : decode cX5_init 18 = .ok (.anewarray 18, 3) := by decide +kernel
theorem dX5_init_21 : decode cX5_init 21 = .ok (.putfield 20, 3) := by decide +kernel
theorem dX5_init_24 : decode cX5_init 24 = .ok (.aload_n 0, 1) := by decide +kernel
theorem dX5_init_25 : decode cX5_init 25 = .ok (.bipush 20, 2) := by decide +kernel
theorem dX5_init_27 : decode cX5_init 27 = .ok (.anewarray 24, 3) := by decide +kernel
theorem dX5_init_30 : decode cX5_init 30 = .ok (.putfield 26, 3) := by decide +kernel
theorem dX5_init_33 : decode cX5_init 33 = .ok (.aload_n 0, 1) := by decide +kernel
theorem dX5_init_34 : decode cX5_init 34 = .ok (.bipush 40, 2) := by decide +kernel
theorem dX5_init_36 : decode cX5_init 36 = .ok (.newarray .int, 2) := by decide +kernel
theorem dX5_init_38 : decode cX5_init 38 = .ok (.putfield 30, 3) := by decide +kernel
theorem dX5_init_41 : decode cX5_init 41 = .ok (.aload_n 0, 1) := by decide +kernel
theorem dX5_init_42 : decode cX5_init 42 = .ok (.new 34, 3) := by decide +kernel
theorem dX5_init_45 : decode cX5_init 45 = .ok (.dup, 1) := by decide +kernel
theorem dX5_init_46 : decode cX5_init 46 = .ok (.invokespecial 36, 3) := by decide +kernel
theorem dX5_init_49 : decode cX5_init 49 = .ok (.putfield 37, 3) := by decide +kernel
theorem dX5_init_52 : decode cX5_init 52 = .ok (.aload_n 0, 1) := by decide +kernel
theorem dX5_init_53 : decode cX5_init 53 = .ok (.iconst 0, 1) := by decide +kernel
theorem dX5_init_54 : decode cX5_init 54 = .ok (.putfield 41, 3) := by decide +kernel
theorem dX5_init_57 : decode cX5_init 57 = .ok (.aload_n 0, 1) := by decide +kernel
theorem dX5_init_58 : decode cX5_init 58 = .ok (.iconst 0, 1) := by decide +kernel
theorem dX5_init_59 : decode cX5_init 59 = .ok (.putfield 45, 3) := by decide +kernel
theorem dX5_init_62 : decode cX5_init 62 = .ok (.aload_n 0, 1) := by decide +kernel
theorem dX5_init_63 : decode cX5_init 63 = .ok (.iconst 0, 1) := by decide +kernel
theorem dX5_init_64 : decode cX5_init 64 = .ok (.putfield 48, 3) := by decide +kernel
theorem dX5_init_67 : decode cX5_init 67 = .ok (.aload_n 0, 1) := by decide +kernel
theorem dX5_init_68 : decode cX5_init 68 = .ok (.iconst 0, 1) := by decide +kernel
theorem dX5_init_69 : decode cX5_init 69 = .ok (.putfield 51, 3) := by decide +kernel
theorem dX5_init_72 : decode cX5_init 72 = .ok (.iconst 0, 1) := by decide +kernel
theorem dX5_init_73 : decode cX5_init 73 = .ok (.istore_n 1, 1) := by decide +kernel
theorem dX5_init_74 : decode cX5_init 74 = .ok (.iload_n 1, 1) := by decide +kernel
theorem dX5_init_75 : decode cX5_init 75 = .ok (.aload_n 0, 1) := by decide +kernel
theorem dX5_init_76 : decode cX5_init 76 = .ok (.getfield 20, 3) := by decide +kernel
theorem dX5_init_79 : decode cX5_init 79 = .ok (.arraylength, 1) := by decide +kernel
theorem dX5_init_80 : decode cX5_init 80 = .ok (.if_icmp .ge 22, 3) := by decide +kernel
theorem dX5_init_83 : decode cX5_init 83 = .ok (.aload_n 0, 1) := by decide +kernel
theorem dX5_init_84 : decode cX5_init 84 = .ok (.getfield 20, 3) := by decide +kernel
theorem dX5_init_87 : decode cX5_init 87 = .ok (.iload_n 1, 1) := by decide +kernel
theorem dX5_init_88 : decode cX5_init 88 = .ok (.new 18, 3) := by decide +kernel
theorem dX5_init_91 : decode cX5_init 91 = .ok (.dup, 1) := by decide +kernel
theorem dX5_init_92 : decode cX5_init 92 = .ok (.invokespecial 55, 3) := by decide +kernel
theorem dX5_init_95 : decode cX5_init 95 = .ok (.aastore, 1) := by decide +kernel
theorem dX5_init_96 : decode cX5_init 96 = .ok (.iinc 1 1, 3) := by decide +kernel
theorem dX5_init_99 : decode cX5_init 99 = .ok (.goto (-25), 3) := by decide +kernel
theorem dX5_init_102 : decode cX5_init 102 = .ok (.iconst 0, 1) := by decide +kernel
theorem dX5_init_103 : decode cX5_init 103 = .ok (.istore_n 1, 1) := by decide +kernel
theorem dX5_init_104 : decode cX5_init 104 = .ok (.iload_n 1, 1) := by decide +kernel
theorem dX5_init_105 : decode cX5_init 105 = .ok (.aload_n 0, 1) := by decide +kernel
theorem dX5_init_106 : decode cX5_init 106 = .ok (.getfield 26, 3) := by decide +kernel
theorem dX5_init_109 : decode cX5_init 109 = .ok (.arraylength, 1) := by decide +kernel
theorem dX5_init_110 : decode cX5_init 110 = .ok (.if_icmp .ge 22, 3) := by decide +kernel
theorem dX5_init_113 : decode cX5_init 113 = .ok (.aload_n 0, 1) := by decide +kernel
theorem dX5_init_114 : decode cX5_init 114 = .ok (.getfield 26, 3) := by decide +kernel
theorem dX5_init_117 : decode cX5_init 117 = .ok (.iload_n 1, 1) := by decide +kernel
theorem dX5_init_118 : decode cX5_init 118 = .ok (.new 24, 3) := by decide +kernel
theorem dX5_init_121 : decode cX5_init 121 = .ok (.dup, 1) := by decide +kernel
theorem dX5_init_122 : decode cX5_init 122 = .ok (.invokespecial 56, 3) := by decide +kernel
theorem dX5_init_125 : decode cX5_init 125 = .ok (.aastore, 1) := by decide +kernel
theorem dX5_init_126 : decode cX5_init 126 = .ok (.iinc 1 1, 3) := by decide +kernel
theorem dX5_init_129 : decode cX5_init 129 = .ok (.goto (-25), 3) := by decide +kernel
theorem dX5_init_132 : decode cX5_init 132 = .ok (.return_, 1) := by decide +kernel
theorem dX5_isAtRest_0 : decode cX5_isAtRest 0 = .ok (.aload_n 0, 1) := by decide +kernel
theorem dX5_isAtRest_1 : decode cX5_isAtRest 1 = .ok (.getfield 12, 3) := by decide +kernel
theorem dX5_isAtRest_4 : decode cX5_isAtRest 4 = .ok (.getfield 57, 3) := by decide +kernel
theorem dX5_isAtRest_7 : decode cX5_isAtRest 7 = .ok (.ifCond .eq 14, 3) := by decide +kernel
theorem dX5_isAtRest_10 : decode cX5_isAtRest 10 = .ok (.aload_n 0, 1) := by decide +kernel
theorem dX5_isAtRest_11 : decode cX5_isAtRest 11 = .ok (.getfield 51, 3) := by decide +kernel
theorem dX5_isAtRest_14 : decode cX5_isAtRest 14 = .ok (.ifCond .ne 7, 3) := by decide +kernel
theorem dX5_isAtRest_17 : decode cX5_isAtRest 17 = .ok (.iconst 1, 1) := by decide +kernel
theorem dX5_isAtRest_18 : decode cX5_isAtRest 18 = .ok (.goto 4, 3) := by decide +kernel
theorem dX5_isAtRest_21 : decode cX5_isAtRest 21 = .ok (.iconst 0, 1) := by decide +kernel
theorem dX5_isAtRest_22 : decode cX5_isAtRest 22 = .ok (.ireturn, 1) := by decide +kernel
theorem dX5_refuseGlue_0 : decode cX5_refuseGlue 0 = .ok (.aload_n 0, 1) := by decide +kernel
theorem dX5_refuseGlue_1 : decode cX5_refuseGlue 1 = .ok (.getfield 12, 3) := by decide +kernel
theorem dX5_refuseGlue_4 : decode cX5_refuseGlue 4 = .ok (.getfield 57, 3) := by decide +kernel
theorem dX5_refuseGlue_7 : decode cX5_refuseGlue 7 = .ok (.ifCond .ne 6, 3) := by decide +kernel
theorem dX5_refuseGlue_10 : decode cX5_refuseGlue 10 = .ok (.bipush (-3), 2) := by decide +kernel
theorem dX5_refuseGlue_12 : decode cX5_refuseGlue 12 = .ok (.ireturn, 1) := by decide +kernel
theorem dX5_refuseGlue_13 : decode cX5_refuseGlue 13 = .ok (.iload_n 1, 1) := by decide +kernel
theorem dX5_refuseGlue_14 : decode cX5_refuseGlue 14 = .ok (.iconst 0, 1) := by decide +kernel
theorem dX5_refuseGlue_15 : decode cX5_refuseGlue 15 = .ok (.aload_n 0, 1) := by decide +kernel
theorem dX5_refuseGlue_16 : decode cX5_refuseGlue 16 = .ok (.getfield 12, 3) := by decide +kernel
theorem dX5_refuseGlue_19 : decode cX5_refuseGlue 19 = .ok (.getfield 60, 3) := by decide +kernel
theorem dX5_refuseGlue_22 : decode cX5_refuseGlue 22 = .ok (.invokestatic 63, 3) := by decide +kernel
theorem dX5_refuseGlue_25 : decode cX5_refuseGlue 25 = .ok (.ifCond .eq 7, 3) := by decide +kernel
theorem dX5_refuseGlue_28 : decode cX5_refuseGlue 28 = .ok (.iconst 0, 1) := by decide +kernel
theorem dX5_refuseGlue_29 : decode cX5_refuseGlue 29 = .ok (.goto 4, 3) := by decide +kernel
theorem dX5_refuseGlue_32 : decode cX5_refuseGlue 32 = .ok (.iconst (-1), 1) := by decide +kernel
theorem dX5_refuseGlue_33 : decode cX5_refuseGlue 33 = .ok (.ireturn, 1) := by decide +kernel
theorem dX5_openRow_0 : decode cX5_openRow 0 = .ok (.aload_n 0, 1) := by decide +kernel
theorem dX5_openRow_1 : decode cX5_openRow 1 = .ok (.invokevirtual 67, 3) := by decide +kernel
theorem dX5_openRow_4 : decode cX5_openRow 4 = .ok (.ifCond .ne 6, 3) := by decide +kernel
theorem dX5_openRow_7 : decode cX5_openRow 7 = .ok (.bipush (-3), 2) := by decide +kernel
theorem dX5_openRow_9 : decode cX5_openRow 9 = .ok (.ireturn, 1) := by decide +kernel
theorem dX5_openRow_10 : decode cX5_openRow 10 = .ok (.aload_n 0, 1) := by decide +kernel
theorem dX5_openRow_11 : decode cX5_openRow 11 = .ok (.getfield 41, 3) := by decide +kernel
theorem dX5_openRow_14 : decode cX5_openRow 14 = .ok (.bipush 20, 2) := by decide +kernel
theorem dX5_openRow_16 : decode cX5_openRow 16 = .ok (.if_icmp .lt 6, 3) := by decide +kernel
theorem dX5_openRow_19 : decode cX5_openRow 19 = .ok (.bipush (-4), 2) := by decide +kernel
theorem dX5_openRow_21 : decode cX5_openRow 21 = .ok (.ireturn, 1) := by decide +kernel
theorem dX5_openRow_22 : decode cX5_openRow 22 = .ok (.aload_n 0, 1) := by decide +kernel
theorem dX5_openRow_23 : decode cX5_openRow 23 = .ok (.iconst 1, 1) := by decide +kernel
theorem dX5_openRow_24 : decode cX5_openRow 24 = .ok (.putfield 51, 3) := by decide +kernel
theorem dX5_openRow_27 : decode cX5_openRow 27 = .ok (.aload_n 0, 1) := by decide +kernel
theorem dX5_openRow_28 : decode cX5_openRow 28 = .ok (.dup, 1) := by decide +kernel
theorem dX5_openRow_29 : decode cX5_openRow 29 = .ok (.getfield 41, 3) := by decide +kernel
theorem dX5_openRow_32 : decode cX5_openRow 32 = .ok (.iconst 1, 1) := by decide +kernel
theorem dX5_openRow_33 : decode cX5_openRow 33 = .ok (.iadd, 1) := by decide +kernel
theorem dX5_openRow_34 : decode cX5_openRow 34 = .ok (.putfield 41, 3) := by decide +kernel
theorem dX5_openRow_37 : decode cX5_openRow 37 = .ok (.aload_n 0, 1) := by decide +kernel
theorem dX5_openRow_38 : decode cX5_openRow 38 = .ok (.aload_n 0, 1) := by decide +kernel
theorem dX5_openRow_39 : decode cX5_openRow 39 = .ok (.getfield 41, 3) := by decide +kernel
theorem dX5_openRow_42 : decode cX5_openRow 42 = .ok (.iconst 1, 1) := by decide +kernel
theorem dX5_openRow_43 : decode cX5_openRow 43 = .ok (.isub, 1) := by decide +kernel
theorem dX5_openRow_44 : decode cX5_openRow 44 = .ok (.invokevirtual 71, 3) := by decide +kernel
theorem dX5_openRow_47 : decode cX5_openRow 47 = .ok (.aload_n 0, 1) := by decide +kernel
theorem dX5_openRow_48 : decode cX5_openRow 48 = .ok (.getfield 41, 3) := by decide +kernel
theorem dX5_openRow_51 : decode cX5_openRow 51 = .ok (.iconst 1, 1) := by decide +kernel
theorem dX5_openRow_52 : decode cX5_openRow 52 = .ok (.isub, 1) := by decide +kernel
theorem dX5_openRow_53 : decode cX5_openRow 53 = .ok (.ireturn, 1) := by decide +kernel
theorem dX5_addBetween_0 : decode cX5_addBetween 0 = .ok (.aload_n 0, 1) := by decide +kernel
theorem dX5_addBetween_1 : decode cX5_addBetween 1 = .ok (.invokevirtual 67, 3) := by decide +kernel
theorem dX5_addBetween_4 : decode cX5_addBetween 4 = .ok (.ifCond .ne 6, 3) := by decide +kernel
theorem dX5_addBetween_7 : decode cX5_addBetween 7 = .ok (.bipush (-3), 2) := by decide +kernel
theorem dX5_addBetween_9 : decode cX5_addBetween 9 = .ok (.ireturn, 1) := by decide +kernel
theorem dX5_addBetween_10 : decode cX5_addBetween 10 = .ok (.aload_n 0, 1) := by decide +kernel
theorem dX5_addBetween_11 : decode cX5_addBetween 11 = .ok (.getfield 45, 3) := by decide +kernel
theorem dX5_addBetween_14 : decode cX5_addBetween 14 = .ok (.bipush 20, 2) := by decide +kernel
theorem dX5_addBetween_16 : decode cX5_addBetween 16 = .ok (.if_icmp .lt 6, 3) := by decide +kernel
theorem dX5_addBetween_19 : decode cX5_addBetween 19 = .ok (.bipush (-4), 2) := by decide +kernel
theorem dX5_addBetween_21 : decode cX5_addBetween 21 = .ok (.ireturn, 1) := by decide +kernel
theorem dX5_addBetween_22 : decode cX5_addBetween 22 = .ok (.aload_n 0, 1) := by decide +kernel
theorem dX5_addBetween_23 : decode cX5_addBetween 23 = .ok (.iconst (-1), 1) := by decide +kernel
theorem dX5_addBetween_24 : decode cX5_addBetween 24 = .ok (.aload_n 0, 1) := by decide +kernel
theorem dX5_addBetween_25 : decode cX5_addBetween 25 = .ok (.getfield 45, 3) := by decide +kernel
theorem dX5_addBetween_28 : decode cX5_addBetween 28 = .ok (.isub, 1) := by decide +kernel
theorem dX5_addBetween_29 : decode cX5_addBetween 29 = .ok (.invokevirtual 71, 3) := by decide +kernel
theorem dX5_addBetween_32 : decode cX5_addBetween 32 = .ok (.aload_n 0, 1) := by decide +kernel
theorem dX5_addBetween_33 : decode cX5_addBetween 33 = .ok (.dup, 1) := by decide +kernel
theorem dX5_addBetween_34 : decode cX5_addBetween 34 = .ok (.getfield 45, 3) := by decide +kernel
theorem dX5_addBetween_37 : decode cX5_addBetween 37 = .ok (.iconst 1, 1) := by decide +kernel
theorem dX5_addBetween_38 : decode cX5_addBetween 38 = .ok (.iadd, 1) := by decide +kernel
theorem dX5_addBetween_39 : decode cX5_addBetween 39 = .ok (.putfield 45, 3) := by decide +kernel
theorem dX5_addBetween_42 : decode cX5_addBetween 42 = .ok (.aload_n 0, 1) := by decide +kernel
theorem dX5_addBetween_43 : decode cX5_addBetween 43 = .ok (.getfield 45, 3) := by decide +kernel
theorem dX5_addBetween_46 : decode cX5_addBetween 46 = .ok (.ireturn, 1) := by decide +kernel
theorem dX5_putItem_0 : decode cX5_putItem 0 = .ok (.aload_n 0, 1) := by decide +kernel
theorem dX5_putItem_1 : decode cX5_putItem 1 = .ok (.getfield 30, 3) := by decide +kernel
theorem dX5_putItem_4 : decode cX5_putItem 4 = .ok (.aload_n 0, 1) := by decide +kernel
theorem dX5_putItem_5 : decode cX5_putItem 5 = .ok (.getfield 48, 3) := by decide +kernel
theorem dX5_putItem_8 : decode cX5_putItem 8 = .ok (.iload_n 1, 1) := by decide +kernel
theorem dX5_putItem_9 : decode cX5_putItem 9 = .ok (.iastore, 1) := by decide +kernel
theorem dX5_putItem_10 : decode cX5_putItem 10 = .ok (.aload_n 0, 1) := by decide +kernel
theorem dX5_putItem_11 : decode cX5_putItem 11 = .ok (.dup, 1) := by decide +kernel
theorem dX5_putItem_12 : decode cX5_putItem 12 = .ok (.getfield 48, 3) := by decide +kernel
theorem dX5_putItem_15 : decode cX5_putItem 15 = .ok (.iconst 1, 1) := by decide +kernel
theorem dX5_putItem_16 : decode cX5_putItem 16 = .ok (.iadd, 1) := by decide +kernel
theorem dX5_putItem_17 : decode cX5_putItem 17 = .ok (.putfield 48, 3) := by decide +kernel
theorem dX5_putItem_20 : decode cX5_putItem 20 = .ok (.return_, 1) := by decide +kernel
theorem dX5_closeRow_0 : decode cX5_closeRow 0 = .ok (.aload_n 0, 1) := by decide +kernel
theorem dX5_closeRow_1 : decode cX5_closeRow 1 = .ok (.getfield 51, 3) := by decide +kernel
theorem dX5_closeRow_4 : decode cX5_closeRow 4 = .ok (.ifCond .ne 6, 3) := by decide +kernel
theorem dX5_closeRow_7 : decode cX5_closeRow 7 = .ok (.bipush (-3), 2) := by decide +kernel
theorem dX5_closeRow_9 : decode cX5_closeRow 9 = .ok (.ireturn, 1) := by decide +kernel
theorem dX5_closeRow_10 : decode cX5_closeRow 10 = .ok (.aload_n 0, 1) := by decide +kernel
theorem dX5_closeRow_11 : decode cX5_closeRow 11 = .ok (.iconst 0, 1) := by decide +kernel
theorem dX5_closeRow_12 : decode cX5_closeRow 12 = .ok (.putfield 51, 3) := by decide +kernel
theorem dX5_closeRow_15 : decode cX5_closeRow 15 = .ok (.aload_n 0, 1) := by decide +kernel
theorem dX5_closeRow_16 : decode cX5_closeRow 16 = .ok (.getfield 26, 3) := by decide +kernel
theorem dX5_closeRow_19 : decode cX5_closeRow 19 = .ok (.aload_n 0, 1) := by decide +kernel
theorem dX5_closeRow_20 : decode cX5_closeRow 20 = .ok (.getfield 41, 3) := by decide +kernel
theorem dX5_closeRow_23 : decode cX5_closeRow 23 = .ok (.iconst 1, 1) := by decide +kernel
theorem dX5_closeRow_24 : decode cX5_closeRow 24 = .ok (.isub, 1) := by decide +kernel
theorem dX5_closeRow_25 : decode cX5_closeRow 25 = .ok (.aaload, 1) := by decide +kernel
theorem dX5_closeRow_26 : decode cX5_closeRow 26 = .ok (.getfield 75, 3) := by decide +kernel
theorem dX5_closeRow_29 : decode cX5_closeRow 29 = .ok (.ireturn, 1) := by decide +kernel
theorem dX5_addEntry_0 : decode cX5_addEntry 0 = .ok (.iload_n 2, 1) := by decide +kernel
theorem dX5_addEntry_1 : decode cX5_addEntry 1 = .ok (.iconst 1, 1) := by decide +kernel
theorem dX5_addEntry_2 : decode cX5_addEntry 2 = .ok (.bipush 8, 2) := by decide +kernel
theorem dX5_addEntry_4 : decode cX5_addEntry 4 = .ok (.invokestatic 63, 3) := by decide +kernel
theorem dX5_addEntry_7 : decode cX5_addEntry 7 = .ok (.ifCond .ne 6, 3) := by decide +kernel
theorem dX5_addEntry_10 : decode cX5_addEntry 10 = .ok (.bipush (-2), 2) := by decide +kernel
theorem dX5_addEntry_12 : decode cX5_addEntry 12 = .ok (.ireturn, 1) := by decide +kernel
theorem dX5_addEntry_13 : decode cX5_addEntry 13 = .ok (.aload_n 0, 1) := by decide +kernel
theorem dX5_addEntry_14 : decode cX5_addEntry 14 = .ok (.getfield 26, 3) := by decide +kernel
theorem dX5_addEntry_17 : decode cX5_addEntry 17 = .ok (.aload_n 0, 1) := by decide +kernel
theorem dX5_addEntry_18 : decode cX5_addEntry 18 = .ok (.getfield 41, 3) := by decide +kernel
theorem dX5_addEntry_21 : decode cX5_addEntry 21 = .ok (.iconst 1, 1) := by decide +kernel
theorem dX5_addEntry_22 : decode cX5_addEntry 22 = .ok (.isub, 1) := by decide +kernel
theorem dX5_addEntry_23 : decode cX5_addEntry 23 = .ok (.aaload, 1) := by decide +kernel
theorem dX5_addEntry_24 : decode cX5_addEntry 24 = .ok (.astore 4, 2) := by decide +kernel
theorem dX5_addEntry_26 : decode cX5_addEntry 26 = .ok (.aload 4, 2) := by decide +kernel
theorem dX5_addEntry_28 : decode cX5_addEntry 28 = .ok (.getfield 78, 3) := by decide +kernel
theorem dX5_addEntry_31 : decode cX5_addEntry 31 = .ok (.istore 5, 2) := by decide +kernel
theorem dX5_addEntry_33 : decode cX5_addEntry 33 = .ok (.iload 5, 2) := by decide +kernel
theorem dX5_addEntry_35 : decode cX5_addEntry 35 = .ok (.iload_n 2, 1) := by decide +kernel
theorem dX5_addEntry_36 : decode cX5_addEntry 36 = .ok (.iadd, 1) := by decide +kernel
theorem dX5_addEntry_37 : decode cX5_addEntry 37 = .ok (.iconst 1, 1) := by decide +kernel
theorem dX5_addEntry_38 : decode cX5_addEntry 38 = .ok (.isub, 1) := by decide +kernel
theorem dX5_addEntry_39 : decode cX5_addEntry 39 = .ok (.istore 6, 2) := by decide +kernel
theorem dX5_addEntry_41 : decode cX5_addEntry 41 = .ok (.iload 6, 2) := by decide +kernel
theorem dX5_addEntry_43 : decode cX5_addEntry 43 = .ok (.aload_n 0, 1) := by decide +kernel
theorem dX5_addEntry_44 : decode cX5_addEntry 44 = .ok (.getfield 12, 3) := by decide +kernel
theorem dX5_addEntry_47 : decode cX5_addEntry 47 = .ok (.invokevirtual 81, 3) := by decide +kernel
theorem dX5_addEntry_50 : decode cX5_addEntry 50 = .ok (.if_icmp .lt 5, 3) := by decide +kernel
theorem dX5_addEntry_53 : decode cX5_addEntry 53 = .ok (.iconst (-1), 1) := by decide +kernel
theorem dX5_addEntry_54 : decode cX5_addEntry 54 = .ok (.ireturn, 1) := by decide +kernel
theorem dX5_addEntry_55 : decode cX5_addEntry 55 = .ok (.aload 4, 2) := by decide +kernel
theorem dX5_addEntry_57 : decode cX5_addEntry 57 = .ok (.iload_n 3, 1) := by decide +kernel
theorem dX5_addEntry_58 : decode cX5_addEntry 58 = .ok (.ifCond .eq 7, 3) := by decide +kernel
theorem dX5_addEntry_61 : decode cX5_addEntry 61 = .ok (.iload_n 1, 1) := by decide +kernel
theorem dX5_addEntry_62 : decode cX5_addEntry 62 = .ok (.goto 16, 3) := by decide +kernel
theorem dX5_addEntry_65 : decode cX5_addEntry 65 = .ok (.iload_n 1, 1) := by decide +kernel
theorem dX5_addEntry_66 : decode cX5_addEntry 66 = .ok (.aload_n 0, 1) := by decide +kernel
theorem dX5_addEntry_67 : decode cX5_addEntry 67 = .ok (.getfield 12, 3) := by decide +kernel
theorem dX5_addEntry_70 : decode cX5_addEntry 70 = .ok (.iload 5, 2) := by decide +kernel
theorem dX5_addEntry_72 : decode cX5_addEntry 72 = .ok (.iload 6, 2) := by decide +kernel
theorem dX5_addEntry_74 : decode cX5_addEntry 74 = .ok (.invokevirtual 85, 3) := by decide +kernel
theorem dX5_addEntry_77 : decode cX5_addEntry 77 = .ok (.iadd, 1) := by decide +kernel
theorem dX5_addEntry_78 : decode cX5_addEntry 78 = .ok (.iload_n 2, 1) := by decide +kernel
theorem dX5_addEntry_79 : decode cX5_addEntry 79 = .ok (.invokevirtual 89, 3) := by decide +kernel
theorem dX5_addEntry_82 : decode cX5_addEntry 82 = .ok (.iload 5, 2) := by decide +kernel
theorem dX5_addEntry_84 : decode cX5_addEntry 84 = .ok (.ireturn, 1) := by decide +kernel
theorem dX5_hasEntry_0 : decode cX5_hasEntry 0 = .ok (.iload_n 1, 1) := by decide +kernel
theorem dX5_hasEntry_1 : decode cX5_hasEntry 1 = .ok (.iconst 0, 1) := by decide +kernel
theorem dX5_hasEntry_2 : decode cX5_hasEntry 2 = .ok (.aload_n 0, 1) := by decide +kernel
theorem dX5_hasEntry_3 : decode cX5_hasEntry 3 = .ok (.getfield 41, 3) := by decide +kernel
theorem dX5_hasEntry_6 : decode cX5_hasEntry 6 = .ok (.iconst 1, 1) := by decide +kernel
theorem dX5_hasEntry_7 : decode cX5_hasEntry 7 = .ok (.isub, 1) := by decide +kernel
theorem dX5_hasEntry_8 : decode cX5_hasEntry 8 = .ok (.invokestatic 63, 3) := by decide +kernel
theorem dX5_hasEntry_11 : decode cX5_hasEntry 11 = .ok (.ifCond .eq 26, 3) := by decide +kernel
theorem dX5_hasEntry_14 : decode cX5_hasEntry 14 = .ok (.iload_n 2, 1) := by decide +kernel
theorem dX5_hasEntry_15 : decode cX5_hasEntry 15 = .ok (.iconst 0, 1) := by decide +kernel
theorem dX5_hasEntry_16 : decode cX5_hasEntry 16 = .ok (.aload_n 0, 1) := by decide +kernel
theorem dX5_hasEntry_17 : decode cX5_hasEntry 17 = .ok (.getfield 26, 3) := by decide +kernel
theorem dX5_hasEntry_20 : decode cX5_hasEntry 20 = .ok (.iload_n 1, 1) := by decide +kernel
theorem dX5_hasEntry_21 : decode cX5_hasEntry 21 = .ok (.aaload, 1) := by decide +kernel
theorem dX5_hasEntry_22 : decode cX5_hasEntry 22 = .ok (.getfield 75, 3) := by decide +kernel
theorem dX5_hasEntry_25 : decode cX5_hasEntry 25 = .ok (.iconst 1, 1) := by decide +kernel
theorem dX5_hasEntry_26 : decode cX5_hasEntry 26 = .ok (.isub, 1) := by decide +kernel
theorem dX5_hasEntry_27 : decode cX5_hasEntry 27 = .ok (.invokestatic 63, 3) := by decide +kernel
theorem dX5_hasEntry_30 : decode cX5_hasEntry 30 = .ok (.ifCond .eq 7, 3) := by decide +kernel
theorem dX5_hasEntry_33 : decode cX5_hasEntry 33 = .ok (.iconst 1, 1) := by decide +kernel
theorem dX5_hasEntry_34 : decode cX5_hasEntry 34 = .ok (.goto 4, 3) := by decide +kernel
theorem dX5_hasEntry_37 : decode cX5_hasEntry 37 = .ok (.iconst 0, 1) := by decide +kernel
theorem dX5_hasEntry_38 : decode cX5_hasEntry 38 = .ok (.ireturn, 1) := by decide +kernel
theorem dX5_entriesOfAll_0 : decode cX5_entriesOfAll 0 = .ok (.iconst 0, 1) := by decide +kernel
theorem dX5_entriesOfAll_1 : decode cX5_entriesOfAll 1 = .ok (.istore_n 1, 1) := by decide +kernel
theorem dX5_entriesOfAll_2 : decode cX5_entriesOfAll 2 = .ok (.iconst 0, 1) := by decide +kernel
theorem dX5_entriesOfAll_3 : decode cX5_entriesOfAll 3 = .ok (.istore_n 2, 1) := by decide +kernel
theorem dX5_entriesOfAll_4 : decode cX5_entriesOfAll 4 = .ok (.iload_n 2, 1) := by decide +kernel
theorem dX5_entriesOfAll_5 : decode cX5_entriesOfAll 5 = .ok (.aload_n 0, 1) := by decide +kernel
theorem dX5_entriesOfAll_6 : decode cX5_entriesOfAll 6 = .ok (.getfield 41, 3) := by decide +kernel
theorem dX5_entriesOfAll_9 : decode cX5_entriesOfAll 9 = .ok (.if_icmp .ge 21, 3) := by decide +kernel
theorem dX5_entriesOfAll_12 : decode cX5_entriesOfAll 12 = .ok (.iload_n 1, 1) := by decide +kernel
theorem dX5_entriesOfAll_13 : decode cX5_entriesOfAll 13 = .ok (.aload_n 0, 1) := by decide +kernel
theorem dX5_entriesOfAll_14 : decode cX5_entriesOfAll 14 = .ok (.getfield 26, 3) := by decide +kernel
theorem dX5_entriesOfAll_17 : decode cX5_entriesOfAll 17 = .ok (.iload_n 2, 1) := by decide +kernel
theorem dX5_entriesOfAll_18 : decode cX5_entriesOfAll 18 = .ok (.aaload, 1) := by decide +kernel
theorem dX5_entriesOfAll_19 : decode cX5_entriesOfAll 19 = .ok (.getfield 75, 3) := by decide +kernel
theorem dX5_entriesOfAll_22 : decode cX5_entriesOfAll 22 = .ok (.iadd, 1) := by decide +kernel
theorem dX5_entriesOfAll_23 : decode cX5_entriesOfAll 23 = .ok (.istore_n 1, 1) := by decide +kernel
theorem dX5_entriesOfAll_24 : decode cX5_entriesOfAll 24 = .ok (.iinc 2 1, 3) := by decide +kernel
theorem dX5_entriesOfAll_27 : decode cX5_entriesOfAll 27 = .ok (.goto (-23), 3) := by decide +kernel
theorem dX5_entriesOfAll_30 : decode cX5_entriesOfAll 30 = .ok (.iload_n 1, 1) := by decide +kernel
theorem dX5_entriesOfAll_31 : decode cX5_entriesOfAll 31 = .ok (.ireturn, 1) := by decide +kernel
theorem dX5_glueAt_0 : decode cX5_glueAt 0 = .ok (.iload_n 1, 1) := by decide +kernel
theorem dX5_glueAt_1 : decode cX5_glueAt 1 = .ok (.ifCond .ne 12, 3) := by decide +kernel
theorem dX5_glueAt_4 : decode cX5_glueAt 4 = .ok (.aload_n 0, 1) := by decide +kernel
theorem dX5_glueAt_5 : decode cX5_glueAt 5 = .ok (.getfield 20, 3) := by decide +kernel
theorem dX5_glueAt_8 : decode cX5_glueAt 8 = .ok (.iconst 0, 1) := by decide +kernel
theorem dX5_glueAt_9 : decode cX5_glueAt 9 = .ok (.aaload, 1) := by decide +kernel
theorem dX5_glueAt_10 : decode cX5_glueAt 10 = .ok (.goto 20, 3) := by decide +kernel
theorem dX5_glueAt_13 : decode cX5_glueAt 13 = .ok (.aload_n 0, 1) := by decide +kernel
theorem dX5_glueAt_14 : decode cX5_glueAt 14 = .ok (.getfield 20, 3) := by decide +kernel
theorem dX5_glueAt_17 : decode cX5_glueAt 17 = .ok (.aload_n 0, 1) := by decide +kernel
theorem dX5_glueAt_18 : decode cX5_glueAt 18 = .ok (.getfield 12, 3) := by decide +kernel
theorem dX5_glueAt_21 : decode cX5_glueAt 21 = .ok (.iload_n 1, 1) := by decide +kernel
theorem dX5_glueAt_22 : decode cX5_glueAt 22 = .ok (.iconst 1, 1) := by decide +kernel
theorem dX5_glueAt_23 : decode cX5_glueAt 23 = .ok (.isub, 1) := by decide +kernel
theorem dX5_glueAt_24 : decode cX5_glueAt 24 = .ok (.invokevirtual 93, 3) := by decide +kernel
theorem dX5_glueAt_27 : decode cX5_glueAt 27 = .ok (.iconst 1, 1) := by decide +kernel
theorem dX5_glueAt_28 : decode cX5_glueAt 28 = .ok (.iadd, 1) := by decide +kernel
theorem dX5_glueAt_29 : decode cX5_glueAt 29 = .ok (.aaload, 1) := by decide +kernel
theorem dX5_glueAt_30 : decode cX5_glueAt 30 = .ok (.areturn, 1) := by decide +kernel
theorem dX5_tell_0 : decode cX5_tell 0 = .ok (.iload_n 1, 1) := by decide +kernel
theorem dX5_tell_1 : decode cX5_tell 1 = .ok (.tableswitch 78 0 4 #[35, 44, 53, 59, 65], 35) := by decide +kernel
theorem dX5_tell_36 : decode cX5_tell 36 = .ok (.aload_n 0, 1) := by decide +kernel
theorem dX5_tell_37 : decode cX5_tell 37 = .ok (.getfield 12, 3) := by decide +kernel
theorem dX5_tell_40 : decode cX5_tell 40 = .ok (.getfield 60, 3) := by decide +kernel
theorem dX5_tell_43 : decode cX5_tell 43 = .ok (.i2l, 1) := by decide +kernel
theorem dX5_tell_44 : decode cX5_tell 44 = .ok (.lreturn, 1) := by decide +kernel
theorem dX5_tell_45 : decode cX5_tell 45 = .ok (.aload_n 0, 1) := by decide +kernel
theorem dX5_tell_46 : decode cX5_tell 46 = .ok (.getfield 12, 3) := by decide +kernel
theorem dX5_tell_49 : decode cX5_tell 49 = .ok (.getfield 97, 3) := by decide +kernel
theorem dX5_tell_52 : decode cX5_tell 52 = .ok (.i2l, 1) := by decide +kernel
theorem dX5_tell_53 : decode cX5_tell 53 = .ok (.lreturn, 1) := by decide +kernel
theorem dX5_tell_54 : decode cX5_tell 54 = .ok (.aload_n 0, 1) := by decide +kernel
theorem dX5_tell_55 : decode cX5_tell 55 = .ok (.getfield 41, 3) := by decide +kernel
theorem dX5_tell_58 : decode cX5_tell 58 = .ok (.i2l, 1) := by decide +kernel
theorem dX5_tell_59 : decode cX5_tell 59 = .ok (.lreturn, 1) := by decide +kernel
theorem dX5_tell_60 : decode cX5_tell 60 = .ok (.aload_n 0, 1) := by decide +kernel
theorem dX5_tell_61 : decode cX5_tell 61 = .ok (.invokevirtual 100, 3) := by decide +kernel
theorem dX5_tell_64 : decode cX5_tell 64 = .ok (.i2l, 1) := by decide +kernel
theorem dX5_tell_65 : decode cX5_tell 65 = .ok (.lreturn, 1) := by decide +kernel
theorem dX5_tell_66 : decode cX5_tell 66 = .ok (.aload_n 0, 1) := by decide +kernel
theorem dX5_tell_67 : decode cX5_tell 67 = .ok (.getfield 51, 3) := by decide +kernel
theorem dX5_tell_70 : decode cX5_tell 70 = .ok (.ifCond .eq 7, 3) := by decide +kernel
theorem dX5_tell_73 : decode cX5_tell 73 = .ok (.lconst 1, 1) := by decide +kernel
theorem dX5_tell_74 : decode cX5_tell 74 = .ok (.goto 4, 3) := by decide +kernel
theorem dX5_tell_77 : decode cX5_tell 77 = .ok (.lconst 0, 1) := by decide +kernel
theorem dX5_tell_78 : decode cX5_tell 78 = .ok (.lreturn, 1) := by decide +kernel
theorem dX5_tell_79 : decode cX5_tell 79 = .ok (.aload_n 0, 1) := by decide +kernel
theorem dX5_tell_80 : decode cX5_tell 80 = .ok (.getfield 12, 3) := by decide +kernel
theorem dX5_tell_83 : decode cX5_tell 83 = .ok (.getfield 103, 3) := by decide +kernel
theorem dX5_tell_86 : decode cX5_tell 86 = .ok (.i2l, 1) := by decide +kernel
theorem dX5_tell_87 : decode cX5_tell 87 = .ok (.lreturn, 1) := by decide +kernel
theorem dX6_init_0 : decode cX6_init 0 = .ok (.aload_n 0, 1) := by decide +kernel
theorem dX6_init_1 : decode cX6_init 1 = .ok (.invokespecial 1, 3) := by decide +kernel
theorem dX6_init_4 : decode cX6_init 4 = .ok (.aload_n 0, 1) := by decide +kernel
theorem dX6_init_5 : decode cX6_init 5 = .ok (.bipush 6, 2) := by decide +kernel
theorem dX6_init_7 : decode cX6_init 7 = .ok (.anewarray 9, 3) := by decide +kernel
theorem dX6_init_10 : decode cX6_init 10 = .ok (.putfield 11, 3) := by decide +kernel
theorem dX6_init_13 : decode cX6_init 13 = .ok (.aload_n 0, 1) := by decide +kernel
theorem dX6_init_14 : decode cX6_init 14 = .ok (.iconst 0, 1) := by decide +kernel
theorem dX6_init_15 : decode cX6_init 15 = .ok (.putfield 15, 3) := by decide +kernel
theorem dX6_init_18 : decode cX6_init 18 = .ok (.return_, 1) := by decide +kernel
theorem dX6_table_0 : decode cX6_table 0 = .ok (.aload_n 0, 1) := by decide +kernel
theorem dX6_table_1 : decode cX6_table 1 = .ok (.getfield 15, 3) := by decide +kernel
theorem dX6_table_4 : decode cX6_table 4 = .ok (.bipush 6, 2) := by decide +kernel
theorem dX6_table_6 : decode cX6_table 6 = .ok (.if_icmp .lt 6, 3) := by decide +kernel
theorem dX6_table_9 : decode cX6_table 9 = .ok (.bipush (-4), 2) := by decide +kernel
theorem dX6_table_11 : decode cX6_table 11 = .ok (.ireturn, 1) := by decide +kernel
theorem dX6_table_12 : decode cX6_table 12 = .ok (.aload_n 0, 1) := by decide +kernel
theorem dX6_table_13 : decode cX6_table 13 = .ok (.getfield 11, 3) := by decide +kernel
theorem dX6_table_16 : decode cX6_table 16 = .ok (.aload_n 0, 1) := by decide +kernel
theorem dX6_table_17 : decode cX6_table 17 = .ok (.getfield 15, 3) := by decide +kernel
theorem dX6_table_20 : decode cX6_table 20 = .ok (.new 9, 3) := by decide +kernel
theorem dX6_table_23 : decode cX6_table 23 = .ok (.dup, 1) := by decide +kernel
theorem dX6_table_24 : decode cX6_table 24 = .ok (.invokespecial 19, 3) := by decide +kernel
theorem dX6_table_27 : decode cX6_table 27 = .ok (.aastore, 1) := by decide +kernel
theorem dX6_table_28 : decode cX6_table 28 = .ok (.aload_n 0, 1) := by decide +kernel
theorem dX6_table_29 : decode cX6_table 29 = .ok (.dup, 1) := by decide +kernel
theorem dX6_table_30 : decode cX6_table 30 = .ok (.getfield 15, 3) := by decide +kernel
theorem dX6_table_33 : decode cX6_table 33 = .ok (.iconst 1, 1) := by decide +kernel
theorem dX6_table_34 : decode cX6_table 34 = .ok (.iadd, 1) := by decide +kernel
theorem dX6_table_35 : decode cX6_table 35 = .ok (.putfield 15, 3) := by decide +kernel
theorem dX6_table_38 : decode cX6_table 38 = .ok (.aload_n 0, 1) := by decide +kernel
theorem dX6_table_39 : decode cX6_table 39 = .ok (.getfield 15, 3) := by decide +kernel
theorem dX6_table_42 : decode cX6_table 42 = .ok (.iconst 1, 1) := by decide +kernel
theorem dX6_table_43 : decode cX6_table 43 = .ok (.isub, 1) := by decide +kernel
theorem dX6_table_44 : decode cX6_table 44 = .ok (.ireturn, 1) := by decide +kernel
theorem dX6_type_0 : decode cX6_type 0 = .ok (.aload_n 0, 1) := by decide +kernel
theorem dX6_type_1 : decode cX6_type 1 = .ok (.iload_n 1, 1) := by decide +kernel
theorem dX6_type_2 : decode cX6_type 2 = .ok (.invokevirtual 20, 3) := by decide +kernel
theorem dX6_type_5 : decode cX6_type 5 = .ok (.astore 5, 2) := by decide +kernel
theorem dX6_type_7 : decode cX6_type 7 = .ok (.aload 5, 2) := by decide +kernel
theorem dX6_type_9 : decode cX6_type 9 = .ok (.ifnonnull 5, 3) := by decide +kernel
theorem dX6_type_12 : decode cX6_type 12 = .ok (.iconst (-1), 1) := by decide +kernel
theorem dX6_type_13 : decode cX6_type 13 = .ok (.ireturn, 1) := by decide +kernel
theorem dX6_type_14 : decode cX6_type 14 = .ok (.aload 5, 2) := by decide +kernel
theorem dX6_type_16 : decode cX6_type 16 = .ok (.getfield 24, 3) := by decide +kernel
theorem dX6_type_19 : decode cX6_type 19 = .ok (.iload_n 2, 1) := by decide +kernel
theorem dX6_type_20 : decode cX6_type 20 = .ok (.iload_n 3, 1) := by decide +kernel
theorem dX6_type_21 : decode cX6_type 21 = .ok (.iload 4, 2) := by decide +kernel
theorem dX6_type_23 : decode cX6_type 23 = .ok (.invokevirtual 28, 3) := by decide +kernel
theorem dX6_type_26 : decode cX6_type 26 = .ok (.ireturn, 1) := by decide +kernel
theorem dX6_lay_0 : decode cX6_lay 0 = .ok (.aload_n 0, 1) := by decide +kernel
theorem dX6_lay_1 : decode cX6_lay 1 = .ok (.iload_n 1, 1) := by decide +kernel
theorem dX6_lay_2 : decode cX6_lay 2 = .ok (.invokevirtual 20, 3) := by decide +kernel
theorem dX6_lay_5 : decode cX6_lay 5 = .ok (.astore_n 2, 1) := by decide +kernel
theorem dX6_lay_6 : decode cX6_lay 6 = .ok (.aload_n 2, 1) := by decide +kernel
theorem dX6_lay_7 : decode cX6_lay 7 = .ok (.ifnonnull 5, 3) := by decide +kernel
theorem dX6_lay_10 : decode cX6_lay 10 = .ok (.iconst (-1), 1) := by decide +kernel
theorem dX6_lay_11 : decode cX6_lay 11 = .ok (.ireturn, 1) := by decide +kernel
theorem dX6_lay_12 : decode cX6_lay 12 = .ok (.aload_n 2, 1) := by decide +kernel
theorem dX6_lay_13 : decode cX6_lay 13 = .ok (.getfield 24, 3) := by decide +kernel
theorem dX6_lay_16 : decode cX6_lay 16 = .ok (.invokevirtual 34, 3) := by decide +kernel
theorem dX6_lay_19 : decode cX6_lay 19 = .ok (.ireturn, 1) := by decide +kernel
theorem dX6_glue_0 : decode cX6_glue 0 = .ok (.aload_n 0, 1) := by decide +kernel
theorem dX6_glue_1 : decode cX6_glue 1 = .ok (.iload_n 1, 1) := by decide +kernel
theorem dX6_glue_2 : decode cX6_glue 2 = .ok (.invokevirtual 20, 3) := by decide +kernel
theorem dX6_glue_5 : decode cX6_glue 5 = .ok (.astore 6, 2) := by decide +kernel
theorem dX6_glue_7 : decode cX6_glue 7 = .ok (.aload 6, 2) := by decide +kernel
theorem dX6_glue_9 : decode cX6_glue 9 = .ok (.ifnonnull 5, 3) := by decide +kernel
theorem dX6_glue_12 : decode cX6_glue 12 = .ok (.iconst (-1), 1) := by decide +kernel
theorem dX6_glue_13 : decode cX6_glue 13 = .ok (.ireturn, 1) := by decide +kernel
theorem dX6_glue_14 : decode cX6_glue 14 = .ok (.aload 6, 2) := by decide +kernel
theorem dX6_glue_16 : decode cX6_glue 16 = .ok (.iload_n 2, 1) := by decide +kernel
theorem dX6_glue_17 : decode cX6_glue 17 = .ok (.invokevirtual 38, 3) := by decide +kernel
theorem dX6_glue_20 : decode cX6_glue 20 = .ok (.istore 7, 2) := by decide +kernel
theorem dX6_glue_22 : decode cX6_glue 22 = .ok (.iload 7, 2) := by decide +kernel
theorem dX6_glue_24 : decode cX6_glue 24 = .ok (.ifCond .eq 6, 3) := by decide +kernel
theorem dX6_glue_27 : decode cX6_glue 27 = .ok (.iload 7, 2) := by decide +kernel
theorem dX6_glue_29 : decode cX6_glue 29 = .ok (.ireturn, 1) := by decide +kernel
theorem dX6_glue_30 : decode cX6_glue 30 = .ok (.iload_n 3, 1) := by decide +kernel
theorem dX6_glue_31 : decode cX6_glue 31 = .ok (.sipush (-10000), 3) := by decide +kernel
theorem dX6_glue_34 : decode cX6_glue 34 = .ok (.sipush 10000, 3) := by decide +kernel
theorem dX6_glue_37 : decode cX6_glue 37 = .ok (.invokestatic 42, 3) := by decide +kernel
theorem dX6_glue_40 : decode cX6_glue 40 = .ok (.ifCond .eq 25, 3) := by decide +kernel
theorem dX6_glue_43 : decode cX6_glue 43 = .ok (.iload 4, 2) := by decide +kernel
theorem dX6_glue_45 : decode cX6_glue 45 = .ok (.iconst 0, 1) := by decide +kernel
theorem dX6_glue_46 : decode cX6_glue 46 = .ok (.sipush 10000, 3) := by decide +kernel
theorem dX6_glue_49 : decode cX6_glue 49 = .ok (.invokestatic 42, 3) := by decide +kernel
theorem dX6_glue_52 : decode cX6_glue 52 = .ok (.ifCond .eq 13, 3) := by decide +kernel
theorem dX6_glue_55 : decode cX6_glue 55 = .ok (.iload 5, 2) := by decide +kernel
theorem dX6_glue_57 : decode cX6_glue 57 = .ok (.iconst 0, 1) := by decide +kernel
theorem dX6_glue_58 : decode cX6_glue 58 = .ok (.iconst 3, 1) := by decide +kernel
theorem dX6_glue_59 : decode cX6_glue 59 = .ok (.invokestatic 42, 3) := by decide +kernel
theorem dX6_glue_62 : decode cX6_glue 62 = .ok (.ifCond .ne 6, 3) := by decide +kernel
theorem dX6_glue_65 : decode cX6_glue 65 = .ok (.bipush (-2), 2) := by decide +kernel
theorem dX6_glue_67 : decode cX6_glue 67 = .ok (.ireturn, 1) := by decide +kernel
theorem dX6_glue_68 : decode cX6_glue 68 = .ok (.aload 6, 2) := by decide +kernel
theorem dX6_glue_70 : decode cX6_glue 70 = .ok (.getfield 46, 3) := by decide +kernel
theorem dX6_glue_73 : decode cX6_glue 73 = .ok (.iload_n 2, 1) := by decide +kernel
theorem dX6_glue_74 : decode cX6_glue 74 = .ok (.aaload, 1) := by decide +kernel
theorem dX6_glue_75 : decode cX6_glue 75 = .ok (.iload_n 3, 1) := by decide +kernel
theorem dX6_glue_76 : decode cX6_glue 76 = .ok (.iload 4, 2) := by decide +kernel
theorem dX6_glue_78 : decode cX6_glue 78 = .ok (.iload 5, 2) := by decide +kernel
theorem dX6_glue_80 : decode cX6_glue 80 = .ok (.invokevirtual 50, 3) := by decide +kernel
theorem dX6_glue_83 : decode cX6_glue 83 = .ok (.iconst 1, 1) := by decide +kernel
theorem dX6_glue_84 : decode cX6_glue 84 = .ok (.ireturn, 1) := by decide +kernel
theorem dX6_shrink_0 : decode cX6_shrink 0 = .ok (.aload_n 0, 1) := by decide +kernel
theorem dX6_shrink_1 : decode cX6_shrink 1 = .ok (.iload_n 1, 1) := by decide +kernel
theorem dX6_shrink_2 : decode cX6_shrink 2 = .ok (.invokevirtual 20, 3) := by decide +kernel
theorem dX6_shrink_5 : decode cX6_shrink 5 = .ok (.astore 5, 2) := by decide +kernel
theorem dX6_shrink_7 : decode cX6_shrink 7 = .ok (.aload 5, 2) := by decide +kernel
theorem dX6_shrink_9 : decode cX6_shrink 9 = .ok (.ifnonnull 5, 3) := by decide +kernel
theorem dX6_shrink_12 : decode cX6_shrink 12 = .ok (.iconst (-1), 1) := by decide +kernel
theorem dX6_shrink_13 : decode cX6_shrink 13 = .ok (.ireturn, 1) := by decide +kernel
theorem dX6_shrink_14 : decode cX6_shrink 14 = .ok (.aload 5, 2) := by decide +kernel
theorem dX6_shrink_16 : decode cX6_shrink 16 = .ok (.iload_n 2, 1) := by decide +kernel
theorem dX6_shrink_17 : decode cX6_shrink 17 = .ok (.invokevirtual 38, 3) := by decide +kernel
theorem dX6_shrink_20 : decode cX6_shrink 20 = .ok (.istore 6, 2) := by decide +kernel
theorem dX6_shrink_22 : decode cX6_shrink 22 = .ok (.iload 6, 2) := by decide +kernel
theorem dX6_shrink_24 : decode cX6_shrink 24 = .ok (.ifCond .eq 6, 3) := by decide +kernel
theorem dX6_shrink_27 : decode cX6_shrink 27 = .ok (.iload 6, 2) := by decide +kernel
theorem dX6_shrink_29 : decode cX6_shrink 29 = .ok (.ireturn, 1) := by decide +kernel
theorem dX6_shrink_30 : decode cX6_shrink 30 = .ok (.iload_n 3, 1) := by decide +kernel
theorem dX6_shrink_31 : decode cX6_shrink 31 = .ok (.iconst 0, 1) := by decide +kernel
theorem dX6_shrink_32 : decode cX6_shrink 32 = .ok (.sipush 10000, 3) := by decide +kernel
theorem dX6_shrink_35 : decode cX6_shrink 35 = .ok (.invokestatic 42, 3) := by decide +kernel
theorem dX6_shrink_38 : decode cX6_shrink 38 = .ok (.ifCond .eq 13, 3) := by decide +kernel
theorem dX6_shrink_41 : decode cX6_shrink 41 = .ok (.iload 4, 2) := by decide +kernel
theorem dX6_shrink_43 : decode cX6_shrink 43 = .ok (.iconst 0, 1) := by decide +kernel
theorem dX6_shrink_44 : decode cX6_shrink 44 = .ok (.iconst 3, 1) := by decide +kernel
theorem dX6_shrink_45 : decode cX6_shrink 45 = .ok (.invokestatic 42, 3) := by decide +kernel
theorem dX6_shrink_48 : decode cX6_shrink 48 = .ok (.ifCond .ne 6, 3) := by decide +kernel
theorem dX6_shrink_51 : decode cX6_shrink 51 = .ok (.bipush (-2), 2) := by decide +kernel
theorem dX6_shrink_53 : decode cX6_shrink 53 = .ok (.ireturn, 1) := by decide +kernel
theorem dX6_shrink_54 : decode cX6_shrink 54 = .ok (.aload 5, 2) := by decide +kernel
theorem dX6_shrink_56 : decode cX6_shrink 56 = .ok (.getfield 46, 3) := by decide +kernel
theorem dX6_shrink_59 : decode cX6_shrink 59 = .ok (.iload_n 2, 1) := by decide +kernel
theorem dX6_shrink_60 : decode cX6_shrink 60 = .ok (.aaload, 1) := by decide +kernel
theorem dX6_shrink_61 : decode cX6_shrink 61 = .ok (.iload_n 3, 1) := by decide +kernel
theorem dX6_shrink_62 : decode cX6_shrink 62 = .ok (.iload 4, 2) := by decide +kernel
theorem dX6_shrink_64 : decode cX6_shrink 64 = .ok (.invokevirtual 56, 3) := by decide +kernel
theorem dX6_shrink_67 : decode cX6_shrink 67 = .ok (.iconst 1, 1) := by decide +kernel
theorem dX6_shrink_68 : decode cX6_shrink 68 = .ok (.ireturn, 1) := by decide +kernel
theorem dX6_row_0 : decode cX6_row 0 = .ok (.aload_n 0, 1) := by decide +kernel
theorem dX6_row_1 : decode cX6_row 1 = .ok (.iload_n 1, 1) := by decide +kernel
theorem dX6_row_2 : decode cX6_row 2 = .ok (.invokevirtual 20, 3) := by decide +kernel
theorem dX6_row_5 : decode cX6_row 5 = .ok (.astore_n 2, 1) := by decide +kernel
theorem dX6_row_6 : decode cX6_row 6 = .ok (.aload_n 2, 1) := by decide +kernel
theorem dX6_row_7 : decode cX6_row 7 = .ok (.ifnonnull 5, 3) := by decide +kernel
theorem dX6_row_10 : decode cX6_row 10 = .ok (.iconst (-1), 1) := by decide +kernel
theorem dX6_row_11 : decode cX6_row 11 = .ok (.ireturn, 1) := by decide +kernel
theorem dX6_row_12 : decode cX6_row 12 = .ok (.aload_n 2, 1) := by decide +kernel
theorem dX6_row_13 : decode cX6_row 13 = .ok (.invokevirtual 60, 3) := by decide +kernel
theorem dX6_row_16 : decode cX6_row 16 = .ok (.ireturn, 1) := by decide +kernel
theorem dX6_entry_0 : decode cX6_entry 0 = .ok (.aload_n 0, 1) := by decide +kernel
theorem dX6_entry_1 : decode cX6_entry 1 = .ok (.iload_n 1, 1) := by decide +kernel
theorem dX6_entry_2 : decode cX6_entry 2 = .ok (.invokevirtual 20, 3) := by decide +kernel
theorem dX6_entry_5 : decode cX6_entry 5 = .ok (.astore 5, 2) := by decide +kernel
theorem dX6_entry_7 : decode cX6_entry 7 = .ok (.aload 5, 2) := by decide +kernel
theorem dX6_entry_9 : decode cX6_entry 9 = .ok (.ifnonnull 5, 3) := by decide +kernel
theorem dX6_entry_12 : decode cX6_entry 12 = .ok (.iconst (-1), 1) := by decide +kernel
theorem dX6_entry_13 : decode cX6_entry 13 = .ok (.ireturn, 1) := by decide +kernel
theorem dX6_entry_14 : decode cX6_entry 14 = .ok (.aload 5, 2) := by decide +kernel
theorem dX6_entry_16 : decode cX6_entry 16 = .ok (.getfield 63, 3) := by decide +kernel
theorem dX6_entry_19 : decode cX6_entry 19 = .ok (.ifCond .ne 6, 3) := by decide +kernel
theorem dX6_entry_22 : decode cX6_entry 22 = .ok (.bipush (-3), 2) := by decide +kernel
theorem dX6_entry_24 : decode cX6_entry 24 = .ok (.ireturn, 1) := by decide +kernel
theorem dX6_entry_25 : decode cX6_entry 25 = .ok (.iload_n 2, 1) := by decide +kernel
theorem dX6_entry_26 : decode cX6_entry 26 = .ok (.iconst 0, 1) := by decide +kernel
theorem dX6_entry_27 : decode cX6_entry 27 = .ok (.ldc 67, 2) := by decide +kernel
theorem dX6_entry_29 : decode cX6_entry 29 = .ok (.invokestatic 42, 3) := by decide +kernel
theorem dX6_entry_32 : decode cX6_entry 32 = .ok (.ifCond .ne 6, 3) := by decide +kernel
theorem dX6_entry_35 : decode cX6_entry 35 = .ok (.bipush (-2), 2) := by decide +kernel
theorem dX6_entry_37 : decode cX6_entry 37 = .ok (.ireturn, 1) := by decide +kernel
theorem dX6_entry_38 : decode cX6_entry 38 = .ok (.aload 5, 2) := by decide +kernel
theorem dX6_entry_40 : decode cX6_entry 40 = .ok (.iload_n 2, 1) := by decide +kernel
theorem dX6_entry_41 : decode cX6_entry 41 = .ok (.iload_n 3, 1) := by decide +kernel
theorem dX6_entry_42 : decode cX6_entry 42 = .ok (.iload 4, 2) := by decide +kernel
theorem dX6_entry_44 : decode cX6_entry 44 = .ok (.invokevirtual 68, 3) := by decide +kernel
theorem dX6_entry_47 : decode cX6_entry 47 = .ok (.ireturn, 1) := by decide +kernel
theorem dX6_nest_0 : decode cX6_nest 0 = .ok (.aload_n 0, 1) := by decide +kernel
theorem dX6_nest_1 : decode cX6_nest 1 = .ok (.iload_n 1, 1) := by decide +kernel
theorem dX6_nest_2 : decode cX6_nest 2 = .ok (.invokevirtual 20, 3) := by decide +kernel
theorem dX6_nest_5 : decode cX6_nest 5 = .ok (.astore 4, 2) := by decide +kernel
theorem dX6_nest_7 : decode cX6_nest 7 = .ok (.aload_n 0, 1) := by decide +kernel
theorem dX6_nest_8 : decode cX6_nest 8 = .ok (.iload_n 2, 1) := by decide +kernel
theorem dX6_nest_9 : decode cX6_nest 9 = .ok (.invokevirtual 20, 3) := by decide +kernel
theorem dX6_nest_12 : decode cX6_nest 12 = .ok (.astore 5, 2) := by decide +kernel
theorem dX6_nest_14 : decode cX6_nest 14 = .ok (.aload 4, 2) := by decide +kernel
theorem dX6_nest_16 : decode cX6_nest 16 = .ok (.ifnull 8, 3) := by decide +kernel
theorem dX6_nest_19 : decode cX6_nest 19 = .ok (.aload 5, 2) := by decide +kernel
theorem dX6_nest_21 : decode cX6_nest 21 = .ok (.ifnonnull 5, 3) := by decide +kernel
theorem dX6_nest_24 : decode cX6_nest 24 = .ok (.iconst (-1), 1) := by decide +kernel
theorem dX6_nest_25 : decode cX6_nest 25 = .ok (.ireturn, 1) := by decide +kernel
theorem dX6_nest_26 : decode cX6_nest 26 = .ok (.aload 4, 2) := by decide +kernel
theorem dX6_nest_28 : decode cX6_nest 28 = .ok (.getfield 63, 3) := by decide +kernel
theorem dX6_nest_31 : decode cX6_nest 31 = .ok (.ifCond .eq 19, 3) := by decide +kernel
theorem dX6_nest_34 : decode cX6_nest 34 = .ok (.iload_n 1, 1) := by decide +kernel
theorem dX6_nest_35 : decode cX6_nest 35 = .ok (.iload_n 2, 1) := by decide +kernel
theorem dX6_nest_36 : decode cX6_nest 36 = .ok (.if_icmp .eq 14, 3) := by decide +kernel
theorem dX6_nest_39 : decode cX6_nest 39 = .ok (.aload 5, 2) := by decide +kernel
theorem dX6_nest_41 : decode cX6_nest 41 = .ok (.getfield 72, 3) := by decide +kernel
theorem dX6_nest_44 : decode cX6_nest 44 = .ok (.invokevirtual 76, 3) := by decide +kernel
theorem dX6_nest_47 : decode cX6_nest 47 = .ok (.ifCond .ne 6, 3) := by decide +kernel
theorem dX6_nest_50 : decode cX6_nest 50 = .ok (.bipush (-3), 2) := by decide +kernel
theorem dX6_nest_52 : decode cX6_nest 52 = .ok (.ireturn, 1) := by decide +kernel
theorem dX6_nest_53 : decode cX6_nest 53 = .ok (.aload 4, 2) := by decide +kernel
theorem dX6_nest_55 : decode cX6_nest 55 = .ok (.aload 5, 2) := by decide +kernel
theorem dX6_nest_57 : decode cX6_nest 57 = .ok (.getfield 72, 3) := by decide +kernel
theorem dX6_nest_60 : decode cX6_nest 60 = .ok (.invokevirtual 82, 3) := by decide +kernel
theorem dX6_nest_63 : decode cX6_nest 63 = .ok (.l2i, 1) := by decide +kernel
theorem dX6_nest_64 : decode cX6_nest 64 = .ok (.iload_n 3, 1) := by decide +kernel
theorem dX6_nest_65 : decode cX6_nest 65 = .ok (.iconst 1, 1) := by decide +kernel
theorem dX6_nest_66 : decode cX6_nest 66 = .ok (.invokevirtual 68, 3) := by decide +kernel
theorem dX6_nest_69 : decode cX6_nest 69 = .ok (.ireturn, 1) := by decide +kernel
theorem dX6_end_0 : decode cX6_end 0 = .ok (.aload_n 0, 1) := by decide +kernel
theorem dX6_end_1 : decode cX6_end 1 = .ok (.iload_n 1, 1) := by decide +kernel
theorem dX6_end_2 : decode cX6_end 2 = .ok (.invokevirtual 20, 3) := by decide +kernel
theorem dX6_end_5 : decode cX6_end 5 = .ok (.astore_n 2, 1) := by decide +kernel
theorem dX6_end_6 : decode cX6_end 6 = .ok (.aload_n 2, 1) := by decide +kernel
theorem dX6_end_7 : decode cX6_end 7 = .ok (.ifnonnull 5, 3) := by decide +kernel
theorem dX6_end_10 : decode cX6_end 10 = .ok (.iconst (-1), 1) := by decide +kernel
theorem dX6_end_11 : decode cX6_end 11 = .ok (.ireturn, 1) := by decide +kernel
theorem dX6_end_12 : decode cX6_end 12 = .ok (.aload_n 2, 1) := by decide +kernel
theorem dX6_end_13 : decode cX6_end 13 = .ok (.invokevirtual 86, 3) := by decide +kernel
theorem dX6_end_16 : decode cX6_end 16 = .ok (.ireturn, 1) := by decide +kernel
theorem dX6_between_0 : decode cX6_between 0 = .ok (.aload_n 0, 1) := by decide +kernel
theorem dX6_between_1 : decode cX6_between 1 = .ok (.iload_n 1, 1) := by decide +kernel
theorem dX6_between_2 : decode cX6_between 2 = .ok (.invokevirtual 20, 3) := by decide +kernel
theorem dX6_between_5 : decode cX6_between 5 = .ok (.astore_n 2, 1) := by decide +kernel
theorem dX6_between_6 : decode cX6_between 6 = .ok (.aload_n 2, 1) := by decide +kernel
theorem dX6_between_7 : decode cX6_between 7 = .ok (.ifnonnull 5, 3) := by decide +kernel
theorem dX6_between_10 : decode cX6_between 10 = .ok (.iconst (-1), 1) := by decide +kernel
theorem dX6_between_11 : decode cX6_between 11 = .ok (.ireturn, 1) := by decide +kernel
theorem dX6_between_12 : decode cX6_between 12 = .ok (.aload_n 2, 1) := by decide +kernel
theorem dX6_between_13 : decode cX6_between 13 = .ok (.invokevirtual 89, 3) := by decide +kernel
theorem dX6_between_16 : decode cX6_between 16 = .ok (.ireturn, 1) := by decide +kernel
theorem dX6_run_0 : decode cX6_run 0 = .ok (.aload_n 0, 1) := by decide +kernel
theorem dX6_run_1 : decode cX6_run 1 = .ok (.iload_n 1, 1) := by decide +kernel
theorem dX6_run_2 : decode cX6_run 2 = .ok (.invokevirtual 20, 3) := by decide +kernel
theorem dX6_run_5 : decode cX6_run 5 = .ok (.astore 4, 2) := by decide +kernel
theorem dX6_run_7 : decode cX6_run 7 = .ok (.aload 4, 2) := by decide +kernel
theorem dX6_run_9 : decode cX6_run 9 = .ok (.ifnonnull 7, 3) := by decide +kernel
theorem dX6_run_12 : decode cX6_run 12 = .ok (.ldc2_w 92, 3) := by decide +kernel
theorem dX6_run_15 : decode cX6_run 15 = .ok (.lreturn, 1) := by decide +kernel
theorem dX6_run_16 : decode cX6_run 16 = .ok (.aload 4, 2) := by decide +kernel
theorem dX6_run_18 : decode cX6_run 18 = .ok (.invokevirtual 94, 3) := by decide +kernel
theorem dX6_run_21 : decode cX6_run 21 = .ok (.ifCond .ne 7, 3) := by decide +kernel
theorem dX6_run_24 : decode cX6_run 24 = .ok (.ldc2_w 97, 3) := by decide +kernel
theorem dX6_run_27 : decode cX6_run 27 = .ok (.lreturn, 1) := by decide +kernel
theorem dX6_run_28 : decode cX6_run 28 = .ok (.iload_n 2, 1) := by decide +kernel
theorem dX6_run_29 : decode cX6_run 29 = .ok (.iconst 0, 1) := by decide +kernel
theorem dX6_run_30 : decode cX6_run 30 = .ok (.iconst 2, 1) := by decide +kernel
theorem dX6_run_31 : decode cX6_run 31 = .ok (.invokestatic 42, 3) := by decide +kernel
theorem dX6_run_34 : decode cX6_run 34 = .ok (.ifCond .eq 18, 3) := by decide +kernel
theorem dX6_run_37 : decode cX6_run 37 = .ok (.iload_n 2, 1) := by decide +kernel
theorem dX6_run_38 : decode cX6_run 38 = .ok (.ifCond .eq 18, 3) := by decide +kernel
theorem dX6_run_41 : decode cX6_run 41 = .ok (.iload_n 3, 1) := by decide +kernel
theorem dX6_run_42 : decode cX6_run 42 = .ok (.ldc 99, 2) := by decide +kernel
theorem dX6_run_44 : decode cX6_run 44 = .ok (.ldc 100, 2) := by decide +kernel
theorem dX6_run_46 : decode cX6_run 46 = .ok (.invokestatic 42, 3) := by decide +kernel
theorem dX6_run_49 : decode cX6_run 49 = .ok (.ifCond .ne 7, 3) := by decide +kernel
theorem dX6_run_52 : decode cX6_run 52 = .ok (.ldc2_w 101, 3) := by decide +kernel
theorem dX6_run_55 : decode cX6_run 55 = .ok (.lreturn, 1) := by decide +kernel
theorem dX6_run_56 : decode cX6_run 56 = .ok (.aload 4, 2) := by decide +kernel
theorem dX6_run_58 : decode cX6_run 58 = .ok (.getfield 72, 3) := by decide +kernel
theorem dX6_run_61 : decode cX6_run 61 = .ok (.aload 4, 2) := by decide +kernel
theorem dX6_run_63 : decode cX6_run 63 = .ok (.iload_n 2, 1) := by decide +kernel
theorem dX6_run_64 : decode cX6_run 64 = .ok (.iload_n 3, 1) := by decide +kernel
theorem dX6_run_65 : decode cX6_run 65 = .ok (.invokevirtual 103, 3) := by decide +kernel
theorem dX6_run_68 : decode cX6_run 68 = .ok (.lreturn, 1) := by decide +kernel
theorem dX6_width_0 : decode cX6_width 0 = .ok (.aload_n 0, 1) := by decide +kernel
theorem dX6_width_1 : decode cX6_width 1 = .ok (.iload_n 1, 1) := by decide +kernel
theorem dX6_width_2 : decode cX6_width 2 = .ok (.invokevirtual 20, 3) := by decide +kernel
theorem dX6_width_5 : decode cX6_width 5 = .ok (.astore_n 3, 1) := by decide +kernel
theorem dX6_width_6 : decode cX6_width 6 = .ok (.aload_n 3, 1) := by decide +kernel
theorem dX6_width_7 : decode cX6_width 7 = .ok (.ifnull 14, 3) := by decide +kernel
theorem dX6_width_10 : decode cX6_width 10 = .ok (.aload_n 3, 1) := by decide +kernel
theorem dX6_width_11 : decode cX6_width 11 = .ok (.getfield 72, 3) := by decide +kernel
theorem dX6_width_14 : decode cX6_width 14 = .ok (.iload_n 2, 1) := by decide +kernel
theorem dX6_width_15 : decode cX6_width 15 = .ok (.invokevirtual 107, 3) := by decide +kernel
theorem dX6_width_18 : decode cX6_width 18 = .ok (.ifCond .ne 5, 3) := by decide +kernel
theorem dX6_width_21 : decode cX6_width 21 = .ok (.iconst (-1), 1) := by decide +kernel
theorem dX6_width_22 : decode cX6_width 22 = .ok (.ireturn, 1) := by decide +kernel
theorem dX6_width_23 : decode cX6_width 23 = .ok (.aload_n 3, 1) := by decide +kernel
theorem dX6_width_24 : decode cX6_width 24 = .ok (.getfield 72, 3) := by decide +kernel
theorem dX6_width_27 : decode cX6_width 27 = .ok (.getfield 111, 3) := by decide +kernel
theorem dX6_width_30 : decode cX6_width 30 = .ok (.iload_n 2, 1) := by decide +kernel
theorem dX6_width_31 : decode cX6_width 31 = .ok (.iaload, 1) := by decide +kernel
theorem dX6_width_32 : decode cX6_width 32 = .ok (.ireturn, 1) := by decide +kernel
theorem dX6_isVoid_0 : decode cX6_isVoid 0 = .ok (.aload_n 0, 1) := by decide +kernel
theorem dX6_isVoid_1 : decode cX6_isVoid 1 = .ok (.iload_n 1, 1) := by decide +kernel
theorem dX6_isVoid_2 : decode cX6_isVoid 2 = .ok (.invokevirtual 20, 3) := by decide +kernel
theorem dX6_isVoid_5 : decode cX6_isVoid 5 = .ok (.astore_n 3, 1) := by decide +kernel
theorem dX6_isVoid_6 : decode cX6_isVoid 6 = .ok (.aload_n 3, 1) := by decide +kernel
theorem dX6_isVoid_7 : decode cX6_isVoid 7 = .ok (.ifnull 30, 3) := by decide +kernel
theorem dX6_isVoid_10 : decode cX6_isVoid 10 = .ok (.aload_n 3, 1) := by decide +kernel
theorem dX6_isVoid_11 : decode cX6_isVoid 11 = .ok (.getfield 72, 3) := by decide +kernel
theorem dX6_isVoid_14 : decode cX6_isVoid 14 = .ok (.iload_n 2, 1) := by decide +kernel
theorem dX6_isVoid_15 : decode cX6_isVoid 15 = .ok (.invokevirtual 107, 3) := by decide +kernel
theorem dX6_isVoid_18 : decode cX6_isVoid 18 = .ok (.ifCond .eq 19, 3) := by decide +kernel
theorem dX6_isVoid_21 : decode cX6_isVoid 21 = .ok (.aload_n 3, 1) := by decide +kernel
theorem dX6_isVoid_22 : decode cX6_isVoid 22 = .ok (.getfield 72, 3) := by decide +kernel
theorem dX6_isVoid_25 : decode cX6_isVoid 25 = .ok (.getfield 115, 3) := by decide +kernel
theorem dX6_isVoid_28 : decode cX6_isVoid 28 = .ok (.iload_n 2, 1) := by decide +kernel
theorem dX6_isVoid_29 : decode cX6_isVoid 29 = .ok (.baload, 1) := by decide +kernel
theorem dX6_isVoid_30 : decode cX6_isVoid 30 = .ok (.ifCond .eq 7, 3) := by decide +kernel
theorem dX6_isVoid_33 : decode cX6_isVoid 33 = .ok (.iconst 1, 1) := by decide +kernel
theorem dX6_isVoid_34 : decode cX6_isVoid 34 = .ok (.goto 4, 3) := by decide +kernel
theorem dX6_isVoid_37 : decode cX6_isVoid 37 = .ok (.iconst 0, 1) := by decide +kernel
theorem dX6_isVoid_38 : decode cX6_isVoid 38 = .ok (.ireturn, 1) := by decide +kernel
theorem dX6_place_0 : decode cX6_place 0 = .ok (.aload_n 0, 1) := by decide +kernel
theorem dX6_place_1 : decode cX6_place 1 = .ok (.iload_n 1, 1) := by decide +kernel
theorem dX6_place_2 : decode cX6_place 2 = .ok (.invokevirtual 20, 3) := by decide +kernel
theorem dX6_place_5 : decode cX6_place 5 = .ok (.astore_n 3, 1) := by decide +kernel
theorem dX6_place_6 : decode cX6_place 6 = .ok (.aload_n 3, 1) := by decide +kernel
theorem dX6_place_7 : decode cX6_place 7 = .ok (.ifnull 14, 3) := by decide +kernel
theorem dX6_place_10 : decode cX6_place 10 = .ok (.aload_n 3, 1) := by decide +kernel
theorem dX6_place_11 : decode cX6_place 11 = .ok (.getfield 72, 3) := by decide +kernel
theorem dX6_place_14 : decode cX6_place 14 = .ok (.iload_n 2, 1) := by decide +kernel
theorem dX6_place_15 : decode cX6_place 15 = .ok (.invokevirtual 107, 3) := by decide +kernel
theorem dX6_place_18 : decode cX6_place 18 = .ok (.ifCond .ne 11, 3) := by decide +kernel
theorem dX6_place_21 : decode cX6_place 21 = .ok (.new 119, 3) := by decide +kernel
theorem dX6_place_24 : decode cX6_place 24 = .ok (.dup, 1) := by decide +kernel
theorem dX6_place_25 : decode cX6_place 25 = .ok (.invokespecial 121, 3) := by decide +kernel
theorem dX6_place_28 : decode cX6_place 28 = .ok (.athrow, 1) := by decide +kernel
theorem dX6_place_29 : decode cX6_place 29 = .ok (.aload_n 3, 1) := by decide +kernel
theorem dX6_place_30 : decode cX6_place 30 = .ok (.getfield 72, 3) := by decide +kernel
theorem dX6_place_33 : decode cX6_place 33 = .ok (.getfield 122, 3) := by decide +kernel
theorem dX6_place_36 : decode cX6_place 36 = .ok (.iload_n 2, 1) := by decide +kernel
theorem dX6_place_37 : decode cX6_place 37 = .ok (.laload, 1) := by decide +kernel
theorem dX6_place_38 : decode cX6_place 38 = .ok (.lreturn, 1) := by decide +kernel
theorem dX6_at_0 : decode cX6_at 0 = .ok (.aload_n 0, 1) := by decide +kernel
theorem dX6_at_1 : decode cX6_at 1 = .ok (.iload_n 1, 1) := by decide +kernel
theorem dX6_at_2 : decode cX6_at 2 = .ok (.invokevirtual 20, 3) := by decide +kernel
theorem dX6_at_5 : decode cX6_at 5 = .ok (.astore 5, 2) := by decide +kernel
theorem dX6_at_7 : decode cX6_at 7 = .ok (.aload 5, 2) := by decide +kernel
theorem dX6_at_9 : decode cX6_at 9 = .ok (.ifnull 13, 3) := by decide +kernel
theorem dX6_at_12 : decode cX6_at 12 = .ok (.aload 5, 2) := by decide +kernel
theorem dX6_at_14 : decode cX6_at 14 = .ok (.iload_n 2, 1) := by decide +kernel
theorem dX6_at_15 : decode cX6_at 15 = .ok (.iload_n 3, 1) := by decide +kernel
theorem dX6_at_16 : decode cX6_at 16 = .ok (.invokevirtual 126, 3) := by decide +kernel
theorem dX6_at_19 : decode cX6_at 19 = .ok (.ifCond .ne 11, 3) := by decide +kernel
theorem dX6_at_22 : decode cX6_at 22 = .ok (.new 119, 3) := by decide +kernel
theorem dX6_at_25 : decode cX6_at 25 = .ok (.dup, 1) := by decide +kernel
theorem dX6_at_26 : decode cX6_at 26 = .ok (.invokespecial 121, 3) := by decide +kernel
theorem dX6_at_29 : decode cX6_at 29 = .ok (.athrow, 1) := by decide +kernel
theorem dX6_at_30 : decode cX6_at 30 = .ok (.aload 5, 2) := by decide +kernel
theorem dX6_at_32 : decode cX6_at 32 = .ok (.getfield 130, 3) := by decide +kernel
theorem dX6_at_35 : decode cX6_at 35 = .ok (.iload_n 2, 1) := by decide +kernel
theorem dX6_at_36 : decode cX6_at 36 = .ok (.aaload, 1) := by decide +kernel
theorem dX6_at_37 : decode cX6_at 37 = .ok (.astore 6, 2) := by decide +kernel
theorem dX6_at_39 : decode cX6_at 39 = .ok (.iload 4, 2) := by decide +kernel
theorem dX6_at_41 : decode cX6_at 41 = .ok (.tableswitch 108 0 4 #[35, 44, 53, 62, 85], 35) := by decide +kernel
theorem dX6_at_76 : decode cX6_at 76 = .ok (.aload 6, 2) := by decide +kernel
theorem dX6_at_78 : decode cX6_at 78 = .ok (.getfield 134, 3) := by decide +kernel
theorem dX6_at_81 : decode cX6_at 81 = .ok (.iload_n 3, 1) := by decide +kernel
theorem dX6_at_82 : decode cX6_at 82 = .ok (.iaload, 1) := by decide +kernel
theorem dX6_at_83 : decode cX6_at 83 = .ok (.i2l, 1) := by decide +kernel
theorem dX6_at_84 : decode cX6_at 84 = .ok (.lreturn, 1) := by decide +kernel
theorem dX6_at_85 : decode cX6_at 85 = .ok (.aload 6, 2) := by decide +kernel
theorem dX6_at_87 : decode cX6_at 87 = .ok (.getfield 137, 3) := by decide +kernel
theorem dX6_at_90 : decode cX6_at 90 = .ok (.iload_n 3, 1) := by decide +kernel
theorem dX6_at_91 : decode cX6_at 91 = .ok (.iaload, 1) := by decide +kernel
theorem dX6_at_92 : decode cX6_at 92 = .ok (.i2l, 1) := by decide +kernel
theorem dX6_at_93 : decode cX6_at 93 = .ok (.lreturn, 1) := by decide +kernel
theorem dX6_at_94 : decode cX6_at 94 = .ok (.aload 6, 2) := by decide +kernel
theorem dX6_at_96 : decode cX6_at 96 = .ok (.getfield 140, 3) := by decide +kernel
theorem dX6_at_99 : decode cX6_at 99 = .ok (.iload_n 3, 1) := by decide +kernel
theorem dX6_at_100 : decode cX6_at 100 = .ok (.iaload, 1) := by decide +kernel
theorem dX6_at_101 : decode cX6_at 101 = .ok (.i2l, 1) := by decide +kernel
theorem dX6_at_102 : decode cX6_at 102 = .ok (.lreturn, 1) := by decide +kernel
theorem dX6_at_103 : decode cX6_at 103 = .ok (.aload 5, 2) := by decide +kernel
theorem dX6_at_105 : decode cX6_at 105 = .ok (.getfield 72, 3) := by decide +kernel
theorem dX6_at_108 : decode cX6_at 108 = .ok (.aload 6, 2) := by decide +kernel
theorem dX6_at_110 : decode cX6_at 110 = .ok (.getfield 137, 3) := by decide +kernel
theorem dX6_at_113 : decode cX6_at 113 = .ok (.iload_n 3, 1) := by decide +kernel
theorem dX6_at_114 : decode cX6_at 114 = .ok (.iaload, 1) := by decide +kernel
theorem dX6_at_115 : decode cX6_at 115 = .ok (.aload 6, 2) := by decide +kernel
theorem dX6_at_117 : decode cX6_at 117 = .ok (.getfield 140, 3) := by decide +kernel
theorem dX6_at_120 : decode cX6_at 120 = .ok (.iload_n 3, 1) := by decide +kernel
theorem dX6_at_121 : decode cX6_at 121 = .ok (.iaload, 1) := by decide +kernel
theorem dX6_at_122 : decode cX6_at 122 = .ok (.invokevirtual 143, 3) := by decide +kernel
theorem dX6_at_125 : decode cX6_at 125 = .ok (.lreturn, 1) := by decide +kernel
theorem dX6_at_126 : decode cX6_at 126 = .ok (.aload 5, 2) := by decide +kernel
theorem dX6_at_128 : decode cX6_at 128 = .ok (.getfield 72, 3) := by decide +kernel
theorem dX6_at_131 : decode cX6_at 131 = .ok (.aload 6, 2) := by decide +kernel
theorem dX6_at_133 : decode cX6_at 133 = .ok (.getfield 137, 3) := by decide +kernel
theorem dX6_at_136 : decode cX6_at 136 = .ok (.iload_n 3, 1) := by decide +kernel
theorem dX6_at_137 : decode cX6_at 137 = .ok (.iaload, 1) := by decide +kernel
theorem dX6_at_138 : decode cX6_at 138 = .ok (.aload 6, 2) := by decide +kernel
theorem dX6_at_140 : decode cX6_at 140 = .ok (.getfield 140, 3) := by decide +kernel
theorem dX6_at_143 : decode cX6_at 143 = .ok (.iload_n 3, 1) := by decide +kernel
theorem dX6_at_144 : decode cX6_at 144 = .ok (.iaload, 1) := by decide +kernel
theorem dX6_at_145 : decode cX6_at 145 = .ok (.invokevirtual 147, 3) := by decide +kernel
theorem dX6_at_148 : decode cX6_at 148 = .ok (.lreturn, 1) := by decide +kernel
theorem dX6_at_149 : decode cX6_at 149 = .ok (.new 119, 3) := by decide +kernel
theorem dX6_at_152 : decode cX6_at 152 = .ok (.dup, 1) := by decide +kernel
theorem dX6_at_153 : decode cX6_at 153 = .ok (.invokespecial 121, 3) := by decide +kernel
theorem dX6_at_156 : decode cX6_at 156 = .ok (.athrow, 1) := by decide +kernel
theorem dX6_item_0 : decode cX6_item 0 = .ok (.aload_n 0, 1) := by decide +kernel
theorem dX6_item_1 : decode cX6_item 1 = .ok (.iload_n 1, 1) := by decide +kernel
theorem dX6_item_2 : decode cX6_item 2 = .ok (.invokevirtual 20, 3) := by decide +kernel
theorem dX6_item_5 : decode cX6_item 5 = .ok (.astore_n 3, 1) := by decide +kernel
theorem dX6_item_6 : decode cX6_item 6 = .ok (.aload_n 3, 1) := by decide +kernel
theorem dX6_item_7 : decode cX6_item 7 = .ok (.ifnull 17, 3) := by decide +kernel
theorem dX6_item_10 : decode cX6_item 10 = .ok (.iload_n 2, 1) := by decide +kernel
theorem dX6_item_11 : decode cX6_item 11 = .ok (.iconst 0, 1) := by decide +kernel
theorem dX6_item_12 : decode cX6_item 12 = .ok (.aload_n 3, 1) := by decide +kernel
theorem dX6_item_13 : decode cX6_item 13 = .ok (.getfield 150, 3) := by decide +kernel
theorem dX6_item_16 : decode cX6_item 16 = .ok (.iconst 1, 1) := by decide +kernel
theorem dX6_item_17 : decode cX6_item 17 = .ok (.isub, 1) := by decide +kernel
theorem dX6_item_18 : decode cX6_item 18 = .ok (.invokestatic 42, 3) := by decide +kernel
theorem dX6_item_21 : decode cX6_item 21 = .ok (.ifCond .ne 11, 3) := by decide +kernel
theorem dX6_item_24 : decode cX6_item 24 = .ok (.new 119, 3) := by decide +kernel
theorem dX6_item_27 : decode cX6_item 27 = .ok (.dup, 1) := by decide +kernel
theorem dX6_item_28 : decode cX6_item 28 = .ok (.invokespecial 121, 3) := by decide +kernel
theorem dX6_item_31 : decode cX6_item 31 = .ok (.athrow, 1) := by decide +kernel
theorem dX6_item_32 : decode cX6_item 32 = .ok (.aload_n 3, 1) := by decide +kernel
theorem dX6_item_33 : decode cX6_item 33 = .ok (.getfield 153, 3) := by decide +kernel
theorem dX6_item_36 : decode cX6_item 36 = .ok (.iload_n 2, 1) := by decide +kernel
theorem dX6_item_37 : decode cX6_item 37 = .ok (.iaload, 1) := by decide +kernel
theorem dX6_item_38 : decode cX6_item 38 = .ok (.ireturn, 1) := by decide +kernel
theorem dX6_count_0 : decode cX6_count 0 = .ok (.aload_n 0, 1) := by decide +kernel
theorem dX6_count_1 : decode cX6_count 1 = .ok (.iload_n 1, 1) := by decide +kernel
theorem dX6_count_2 : decode cX6_count 2 = .ok (.invokevirtual 20, 3) := by decide +kernel
theorem dX6_count_5 : decode cX6_count 5 = .ok (.astore_n 3, 1) := by decide +kernel
theorem dX6_count_6 : decode cX6_count 6 = .ok (.aload_n 3, 1) := by decide +kernel
theorem dX6_count_7 : decode cX6_count 7 = .ok (.ifnull 13, 3) := by decide +kernel
theorem dX6_count_10 : decode cX6_count 10 = .ok (.iload_n 2, 1) := by decide +kernel
theorem dX6_count_11 : decode cX6_count 11 = .ok (.iconst 0, 1) := by decide +kernel
theorem dX6_count_12 : decode cX6_count 12 = .ok (.bipush 11, 2) := by decide +kernel
theorem dX6_count_14 : decode cX6_count 14 = .ok (.invokestatic 42, 3) := by decide +kernel
theorem dX6_count_17 : decode cX6_count 17 = .ok (.ifCond .ne 11, 3) := by decide +kernel
theorem dX6_count_20 : decode cX6_count 20 = .ok (.new 119, 3) := by decide +kernel
theorem dX6_count_23 : decode cX6_count 23 = .ok (.dup, 1) := by decide +kernel
theorem dX6_count_24 : decode cX6_count 24 = .ok (.invokespecial 121, 3) := by decide +kernel
theorem dX6_count_27 : decode cX6_count 27 = .ok (.athrow, 1) := by decide +kernel
theorem dX6_count_28 : decode cX6_count 28 = .ok (.iload_n 2, 1) := by decide +kernel
theorem dX6_count_29 : decode cX6_count 29 = .ok (.bipush 6, 2) := by decide +kernel
theorem dX6_count_31 : decode cX6_count 31 = .ok (.if_icmp .ge 11, 3) := by decide +kernel
theorem dX6_count_34 : decode cX6_count 34 = .ok (.aload_n 3, 1) := by decide +kernel
theorem dX6_count_35 : decode cX6_count 35 = .ok (.iload_n 2, 1) := by decide +kernel
theorem dX6_count_36 : decode cX6_count 36 = .ok (.invokevirtual 156, 3) := by decide +kernel
theorem dX6_count_39 : decode cX6_count 39 = .ok (.goto 11, 3) := by decide +kernel
theorem dX6_count_42 : decode cX6_count 42 = .ok (.aload_n 3, 1) := by decide +kernel
theorem dX6_count_43 : decode cX6_count 43 = .ok (.getfield 72, 3) := by decide +kernel
theorem dX6_count_46 : decode cX6_count 46 = .ok (.iload_n 2, 1) := by decide +kernel
theorem dX6_count_47 : decode cX6_count 47 = .ok (.invokevirtual 160, 3) := by decide +kernel
theorem dX6_count_50 : decode cX6_count 50 = .ok (.lreturn, 1) := by decide +kernel
theorem dX6_find_0 : decode cX6_find 0 = .ok (.iload_n 1, 1) := by decide +kernel
theorem dX6_find_1 : decode cX6_find 1 = .ok (.iconst 0, 1) := by decide +kernel
theorem dX6_find_2 : decode cX6_find 2 = .ok (.aload_n 0, 1) := by decide +kernel
theorem dX6_find_3 : decode cX6_find 3 = .ok (.getfield 15, 3) := by decide +kernel
theorem dX6_find_6 : decode cX6_find 6 = .ok (.iconst 1, 1) := by decide +kernel
theorem dX6_find_7 : decode cX6_find 7 = .ok (.isub, 1) := by decide +kernel
theorem dX6_find_8 : decode cX6_find 8 = .ok (.invokestatic 42, 3) := by decide +kernel
theorem dX6_find_11 : decode cX6_find 11 = .ok (.ifCond .eq 12, 3) := by decide +kernel
theorem dX6_find_14 : decode cX6_find 14 = .ok (.aload_n 0, 1) := by decide +kernel
theorem dX6_find_15 : decode cX6_find 15 = .ok (.getfield 11, 3) := by decide +kernel
theorem dX6_find_18 : decode cX6_find 18 = .ok (.iload_n 1, 1) := by decide +kernel
theorem dX6_find_19 : decode cX6_find 19 = .ok (.aaload, 1) := by decide +kernel
theorem dX6_find_20 : decode cX6_find 20 = .ok (.goto 4, 3) := by decide +kernel
theorem dX6_find_23 : decode cX6_find 23 = .ok (.aconst_null, 1) := by decide +kernel
theorem dX6_find_24 : decode cX6_find 24 = .ok (.areturn, 1) := by decide +kernel
theorem dX6_isIn_0 : decode cX6_isIn 0 = .ok (.iload_n 0, 1) := by decide +kernel
theorem dX6_isIn_1 : decode cX6_isIn 1 = .ok (.iload_n 1, 1) := by decide +kernel
theorem dX6_isIn_2 : decode cX6_isIn 2 = .ok (.if_icmp .lt 12, 3) := by decide +kernel
theorem dX6_isIn_5 : decode cX6_isIn 5 = .ok (.iload_n 0, 1) := by decide +kernel
theorem dX6_isIn_6 : decode cX6_isIn 6 = .ok (.iload_n 2, 1) := by decide +kernel
theorem dX6_isIn_7 : decode cX6_isIn 7 = .ok (.if_icmp .gt 7, 3) := by decide +kernel
theorem dX6_isIn_10 : decode cX6_isIn 10 = .ok (.iconst 1, 1) := by decide +kernel
theorem dX6_isIn_11 : decode cX6_isIn 11 = .ok (.goto 4, 3) := by decide +kernel
theorem dX6_isIn_14 : decode cX6_isIn 14 = .ok (.iconst 0, 1) := by decide +kernel
theorem dX6_isIn_15 : decode cX6_isIn 15 = .ok (.ireturn, 1) := by decide +kernel
theorem dJx00060_init_da8c8_0 : decode cJx00060_init_da8c8 0 = .ok (.aload_n 0, 1) := by decide +kernel
theorem dJx00060_init_da8c8_1 : decode cJx00060_init_da8c8 1 = .ok (.invokespecial 1, 3) := by decide +kernel
theorem dJx00060_init_da8c8_4 : decode cJx00060_init_da8c8 4 = .ok (.return_, 1) := by decide +kernel
theorem dJx00060_init_a7421_0 : decode cJx00060_init_a7421 0 = .ok (.aload_n 0, 1) := by decide +kernel
theorem dJx00060_init_a7421_1 : decode cJx00060_init_a7421 1 = .ok (.aload_n 1, 1) := by decide +kernel
theorem dJx00060_init_a7421_2 : decode cJx00060_init_a7421 2 = .ok (.invokespecial 7, 3) := by decide +kernel
theorem dJx00060_init_a7421_5 : decode cJx00060_init_a7421 5 = .ok (.return_, 1) := by decide +kernel
theorem dJ9_abs_067f4_0 : decode cJ9_abs_067f4 0 = .ok (.lload_n 0, 1) := by decide +kernel
theorem dJ9_abs_067f4_1 : decode cJ9_abs_067f4 1 = .ok (.lconst 0, 1) := by decide +kernel
theorem dJ9_abs_067f4_2 : decode cJ9_abs_067f4 2 = .ok (.lcmp, 1) := by decide +kernel
theorem dJ9_abs_067f4_3 : decode cJ9_abs_067f4 3 = .ok (.ifCond .ge 8, 3) := by decide +kernel
theorem dJ9_abs_067f4_6 : decode cJ9_abs_067f4 6 = .ok (.lload_n 0, 1) := by decide +kernel
theorem dJ9_abs_067f4_7 : decode cJ9_abs_067f4 7 = .ok (.lneg, 1) := by decide +kernel
theorem dJ9_abs_067f4_8 : decode cJ9_abs_067f4 8 = .ok (.goto 4, 3) := by decide +kernel
theorem dJ9_abs_067f4_11 : decode cJ9_abs_067f4 11 = .ok (.lload_n 0, 1) := by decide +kernel
theorem dJ9_abs_067f4_12 : decode cJ9_abs_067f4 12 = .ok (.lreturn, 1) := by decide +kernel
theorem dJ9_max_7cf53_0 : decode cJ9_max_7cf53 0 = .ok (.iload_n 0, 1) := by decide +kernel
theorem dJ9_max_7cf53_1 : decode cJ9_max_7cf53 1 = .ok (.iload_n 1, 1) := by decide +kernel
theorem dJ9_max_7cf53_2 : decode cJ9_max_7cf53 2 = .ok (.if_icmp .lt 7, 3) := by decide +kernel
theorem dJ9_max_7cf53_5 : decode cJ9_max_7cf53 5 = .ok (.iload_n 0, 1) := by decide +kernel
theorem dJ9_max_7cf53_6 : decode cJ9_max_7cf53 6 = .ok (.goto 4, 3) := by decide +kernel
theorem dJ9_max_7cf53_9 : decode cJ9_max_7cf53 9 = .ok (.iload_n 1, 1) := by decide +kernel
theorem dJ9_max_7cf53_10 : decode cJ9_max_7cf53 10 = .ok (.ireturn, 1) := by decide +kernel
theorem dJ9_min_f86c9_0 : decode cJ9_min_f86c9 0 = .ok (.lload_n 0, 1) := by decide +kernel
theorem dJ9_min_f86c9_1 : decode cJ9_min_f86c9 1 = .ok (.lload_n 2, 1) := by decide +kernel
theorem dJ9_min_f86c9_2 : decode cJ9_min_f86c9 2 = .ok (.lcmp, 1) := by decide +kernel
theorem dJ9_min_f86c9_3 : decode cJ9_min_f86c9 3 = .ok (.ifCond .gt 7, 3) := by decide +kernel
theorem dJ9_min_f86c9_6 : decode cJ9_min_f86c9 6 = .ok (.lload_n 0, 1) := by decide +kernel
theorem dJ9_min_f86c9_7 : decode cJ9_min_f86c9 7 = .ok (.goto 4, 3) := by decide +kernel
theorem dJ9_min_f86c9_10 : decode cJ9_min_f86c9 10 = .ok (.lload_n 2, 1) := by decide +kernel
theorem dJ9_min_f86c9_11 : decode cJ9_min_f86c9 11 = .ok (.lreturn, 1) := by decide +kernel
theorem dJ7_fill_53178_0 : decode cJ7_fill_53178 0 = .ok (.iconst 0, 1) := by decide +kernel
theorem dJ7_fill_53178_1 : decode cJ7_fill_53178 1 = .ok (.istore_n 2, 1) := by decide +kernel
theorem dJ7_fill_53178_2 : decode cJ7_fill_53178 2 = .ok (.aload_n 0, 1) := by decide +kernel
theorem dJ7_fill_53178_3 : decode cJ7_fill_53178 3 = .ok (.arraylength, 1) := by decide +kernel
theorem dJ7_fill_53178_4 : decode cJ7_fill_53178 4 = .ok (.istore_n 3, 1) := by decide +kernel
theorem dJ7_fill_53178_5 : decode cJ7_fill_53178 5 = .ok (.iload_n 2, 1) := by decide +kernel
theorem dJ7_fill_53178_6 : decode cJ7_fill_53178 6 = .ok (.iload_n 3, 1) := by decide +kernel
theorem dJ7_fill_53178_7 : decode cJ7_fill_53178 7 = .ok (.if_icmp .ge 13, 3) := by decide +kernel
theorem dJ7_fill_53178_10 : decode cJ7_fill_53178 10 = .ok (.aload_n 0, 1) := by decide +kernel
theorem dJ7_fill_53178_11 : decode cJ7_fill_53178 11 = .ok (.iload_n 2, 1) := by decide +kernel
theorem dJ7_fill_53178_12 : decode cJ7_fill_53178 12 = .ok (.iload_n 1, 1) := by decide +kernel
theorem dJ7_fill_53178_13 : decode cJ7_fill_53178 13 = .ok (.iastore, 1) := by decide +kernel
theorem dJ7_fill_53178_14 : decode cJ7_fill_53178 14 = .ok (.iinc 2 1, 3) := by decide +kernel
theorem dJ7_fill_53178_17 : decode cJ7_fill_53178 17 = .ok (.goto (-12), 3) := by decide +kernel
theorem dJ7_fill_53178_20 : decode cJ7_fill_53178 20 = .ok (.return_, 1) := by decide +kernel

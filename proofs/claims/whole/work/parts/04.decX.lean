theorem dX1_init_0 : decode cX1_init 0 = .ok (.aload_n 0, 1) := by decide +kernel
theorem dX1_init_1 : decode cX1_init 1 = .ok (.invokespecial 1, 3) := by decide +kernel
theorem dX1_init_4 : decode cX1_init 4 = .ok (.aload_n 0, 1) := by decide +kernel
theorem dX1_init_5 : decode cX1_init 5 = .ok (.bipush 64, 2) := by decide +kernel
theorem dX1_init_7 : decode cX1_init 7 = .ok (.newarray .long, 2) := by decide +kernel
theorem dX1_init_9 : decode cX1_init 9 = .ok (.putfield 9, 3) := by decide +kernel
theorem dX1_init_12 : decode cX1_init 12 = .ok (.return_, 1) := by decide +kernel
theorem dX1_hasCell_0 : decode cX1_hasCell 0 = .ok (.iload_n 0, 1) := by decide +kernel
theorem dX1_hasCell_1 : decode cX1_hasCell 1 = .ok (.iconst 0, 1) := by decide +kernel
theorem dX1_hasCell_2 : decode cX1_hasCell 2 = .ok (.bipush 7, 2) := by decide +kernel
theorem dX1_hasCell_4 : decode cX1_hasCell 4 = .ok (.invokestatic 13, 3) := by decide +kernel
theorem dX1_hasCell_7 : decode cX1_hasCell 7 = .ok (.ifCond .eq 17, 3) := by decide +kernel
theorem dX1_hasCell_10 : decode cX1_hasCell 10 = .ok (.iload_n 1, 1) := by decide +kernel
theorem dX1_hasCell_11 : decode cX1_hasCell 11 = .ok (.iconst 0, 1) := by decide +kernel
theorem dX1_hasCell_12 : decode cX1_hasCell 12 = .ok (.bipush 7, 2) := by decide +kernel
theorem dX1_hasCell_14 : decode cX1_hasCell 14 = .ok (.invokestatic 13, 3) := by decide +kernel
theorem dX1_hasCell_17 : decode cX1_hasCell 17 = .ok (.ifCond .eq 7, 3) := by decide +kernel
theorem dX1_hasCell_20 : decode cX1_hasCell 20 = .ok (.iconst 1, 1) := by decide +kernel
theorem dX1_hasCell_21 : decode cX1_hasCell 21 = .ok (.goto 4, 3) := by decide +kernel
theorem dX1_hasCell_24 : decode cX1_hasCell 24 = .ok (.iconst 0, 1) := by decide +kernel
theorem dX1_hasCell_25 : decode cX1_hasCell 25 = .ok (.ireturn, 1) := by decide +kernel
theorem dX1_cell_0 : decode cX1_cell 0 = .ok (.lconst 1, 1) := by decide +kernel
theorem dX1_cell_1 : decode cX1_cell 1 = .ok (.iload_n 0, 1) := by decide +kernel
theorem dX1_cell_2 : decode cX1_cell 2 = .ok (.bipush 8, 2) := by decide +kernel
theorem dX1_cell_4 : decode cX1_cell 4 = .ok (.imul, 1) := by decide +kernel
theorem dX1_cell_5 : decode cX1_cell 5 = .ok (.iload_n 1, 1) := by decide +kernel
theorem dX1_cell_6 : decode cX1_cell 6 = .ok (.iadd, 1) := by decide +kernel
theorem dX1_cell_7 : decode cX1_cell 7 = .ok (.lshl, 1) := by decide +kernel
theorem dX1_cell_8 : decode cX1_cell 8 = .ok (.lreturn, 1) := by decide +kernel
theorem dX1_neighbours_0 : decode cX1_neighbours 0 = .ok (.lload_n 0, 1) := by decide +kernel
theorem dX1_neighbours_1 : decode cX1_neighbours 1 = .ok (.bipush 8, 2) := by decide +kernel
theorem dX1_neighbours_3 : decode cX1_neighbours 3 = .ok (.lshl, 1) := by decide +kernel
theorem dX1_neighbours_4 : decode cX1_neighbours 4 = .ok (.lload_n 0, 1) := by decide +kernel
theorem dX1_neighbours_5 : decode cX1_neighbours 5 = .ok (.bipush 8, 2) := by decide +kernel
theorem dX1_neighbours_7 : decode cX1_neighbours 7 = .ok (.lushr, 1) := by decide +kernel
theorem dX1_neighbours_8 : decode cX1_neighbours 8 = .ok (.lor, 1) := by decide +kernel
theorem dX1_neighbours_9 : decode cX1_neighbours 9 = .ok (.lload_n 0, 1) := by decide +kernel
theorem dX1_neighbours_10 : decode cX1_neighbours 10 = .ok (.ldc2_w 19, 3) := by decide +kernel
theorem dX1_neighbours_13 : decode cX1_neighbours 13 = .ok (.land, 1) := by decide +kernel
theorem dX1_neighbours_14 : decode cX1_neighbours 14 = .ok (.iconst 1, 1) := by decide +kernel
theorem dX1_neighbours_15 : decode cX1_neighbours 15 = .ok (.lushr, 1) := by decide +kernel
theorem dX1_neighbours_16 : decode cX1_neighbours 16 = .ok (.lor, 1) := by decide +kernel
theorem dX1_neighbours_17 : decode cX1_neighbours 17 = .ok (.lload_n 0, 1) := by decide +kernel
theorem dX1_neighbours_18 : decode cX1_neighbours 18 = .ok (.ldc2_w 21, 3) := by decide +kernel
theorem dX1_neighbours_21 : decode cX1_neighbours 21 = .ok (.land, 1) := by decide +kernel
theorem dX1_neighbours_22 : decode cX1_neighbours 22 = .ok (.iconst 1, 1) := by decide +kernel
theorem dX1_neighbours_23 : decode cX1_neighbours 23 = .ok (.lshl, 1) := by decide +kernel
theorem dX1_neighbours_24 : decode cX1_neighbours 24 = .ok (.lor, 1) := by decide +kernel
theorem dX1_neighbours_25 : decode cX1_neighbours 25 = .ok (.lreturn, 1) := by decide +kernel
theorem dX1_firstOf_0 : decode cX1_firstOf 0 = .ok (.lload_n 0, 1) := by decide +kernel
theorem dX1_firstOf_1 : decode cX1_firstOf 1 = .ok (.lload_n 0, 1) := by decide +kernel
theorem dX1_firstOf_2 : decode cX1_firstOf 2 = .ok (.lneg, 1) := by decide +kernel
theorem dX1_firstOf_3 : decode cX1_firstOf 3 = .ok (.land, 1) := by decide +kernel
theorem dX1_firstOf_4 : decode cX1_firstOf 4 = .ok (.lreturn, 1) := by decide +kernel
theorem dX1_wetAt_0 : decode cX1_wetAt 0 = .ok (.aload_n 0, 1) := by decide +kernel
theorem dX1_wetAt_1 : decode cX1_wetAt 1 = .ok (.getfield 23, 3) := by decide +kernel
theorem dX1_wetAt_4 : decode cX1_wetAt 4 = .ok (.iload_n 1, 1) := by decide +kernel
theorem dX1_wetAt_5 : decode cX1_wetAt 5 = .ok (.iload_n 2, 1) := by decide +kernel
theorem dX1_wetAt_6 : decode cX1_wetAt 6 = .ok (.invokestatic 27, 3) := by decide +kernel
theorem dX1_wetAt_9 : decode cX1_wetAt 9 = .ok (.land, 1) := by decide +kernel
theorem dX1_wetAt_10 : decode cX1_wetAt 10 = .ok (.lreturn, 1) := by decide +kernel
theorem dX1_spread_0 : decode cX1_spread 0 = .ok (.iload_n 3, 1) := by decide +kernel
theorem dX1_spread_1 : decode cX1_spread 1 = .ok (.istore 4, 2) := by decide +kernel
theorem dX1_spread_3 : decode cX1_spread 3 = .ok (.iconst 0, 1) := by decide +kernel
theorem dX1_spread_4 : decode cX1_spread 4 = .ok (.istore 5, 2) := by decide +kernel
theorem dX1_spread_6 : decode cX1_spread 6 = .ok (.iload 5, 2) := by decide +kernel
theorem dX1_spread_8 : decode cX1_spread 8 = .ok (.bipush 14, 2) := by decide +kernel
theorem dX1_spread_10 : decode cX1_spread 10 = .ok (.if_icmp .gt 76, 3) := by decide +kernel
theorem dX1_spread_13 : decode cX1_spread 13 = .ok (.iconst 0, 1) := by decide +kernel
theorem dX1_spread_14 : decode cX1_spread 14 = .ok (.istore 6, 2) := by decide +kernel
theorem dX1_spread_16 : decode cX1_spread 16 = .ok (.iload 6, 2) := by decide +kernel
theorem dX1_spread_18 : decode cX1_spread 18 = .ok (.bipush 8, 2) := by decide +kernel
theorem dX1_spread_20 : decode cX1_spread 20 = .ok (.if_icmp .ge 60, 3) := by decide +kernel
theorem dX1_spread_23 : decode cX1_spread 23 = .ok (.iload 5, 2) := by decide +kernel
theorem dX1_spread_25 : decode cX1_spread 25 = .ok (.iload 6, 2) := by decide +kernel
theorem dX1_spread_27 : decode cX1_spread 27 = .ok (.iload_n 1, 1) := by decide +kernel
theorem dX1_spread_28 : decode cX1_spread 28 = .ok (.isub, 1) := by decide +kernel
theorem dX1_spread_29 : decode cX1_spread 29 = .ok (.invokestatic 31, 3) := by decide +kernel
theorem dX1_spread_32 : decode cX1_spread 32 = .ok (.isub, 1) := by decide +kernel
theorem dX1_spread_33 : decode cX1_spread 33 = .ok (.istore 7, 2) := by decide +kernel
theorem dX1_spread_35 : decode cX1_spread 35 = .ok (.iload 7, 2) := by decide +kernel
theorem dX1_spread_37 : decode cX1_spread 37 = .ok (.ifCond .lt 37, 3) := by decide +kernel
theorem dX1_spread_40 : decode cX1_spread 40 = .ok (.iload 4, 2) := by decide +kernel
theorem dX1_spread_42 : decode cX1_spread 42 = .ok (.aload_n 0, 1) := by decide +kernel
theorem dX1_spread_43 : decode cX1_spread 43 = .ok (.iload 6, 2) := by decide +kernel
theorem dX1_spread_45 : decode cX1_spread 45 = .ok (.iload_n 2, 1) := by decide +kernel
theorem dX1_spread_46 : decode cX1_spread 46 = .ok (.iload 7, 2) := by decide +kernel
theorem dX1_spread_48 : decode cX1_spread 48 = .ok (.isub, 1) := by decide +kernel
theorem dX1_spread_49 : decode cX1_spread 49 = .ok (.iload 4, 2) := by decide +kernel
theorem dX1_spread_51 : decode cX1_spread 51 = .ok (.invokevirtual 37, 3) := by decide +kernel
theorem dX1_spread_54 : decode cX1_spread 54 = .ok (.isub, 1) := by decide +kernel
theorem dX1_spread_55 : decode cX1_spread 55 = .ok (.istore 4, 2) := by decide +kernel
theorem dX1_spread_57 : decode cX1_spread 57 = .ok (.iload 4, 2) := by decide +kernel
theorem dX1_spread_59 : decode cX1_spread 59 = .ok (.aload_n 0, 1) := by decide +kernel
theorem dX1_spread_60 : decode cX1_spread 60 = .ok (.iload 6, 2) := by decide +kernel
theorem dX1_spread_62 : decode cX1_spread 62 = .ok (.iload_n 2, 1) := by decide +kernel
theorem dX1_spread_63 : decode cX1_spread 63 = .ok (.iload 7, 2) := by decide +kernel
theorem dX1_spread_65 : decode cX1_spread 65 = .ok (.iadd, 1) := by decide +kernel
theorem dX1_spread_66 : decode cX1_spread 66 = .ok (.iload 4, 2) := by decide +kernel
theorem dX1_spread_68 : decode cX1_spread 68 = .ok (.invokevirtual 37, 3) := by decide +kernel
theorem dX1_spread_71 : decode cX1_spread 71 = .ok (.isub, 1) := by decide +kernel
theorem dX1_spread_72 : decode cX1_spread 72 = .ok (.istore 4, 2) := by decide +kernel
theorem dX1_spread_74 : decode cX1_spread 74 = .ok (.iinc 6 1, 3) := by decide +kernel
theorem dX1_spread_77 : decode cX1_spread 77 = .ok (.goto (-61), 3) := by decide +kernel
theorem dX1_spread_80 : decode cX1_spread 80 = .ok (.iinc 5 1, 3) := by decide +kernel
theorem dX1_spread_83 : decode cX1_spread 83 = .ok (.goto (-77), 3) := by decide +kernel
theorem dX1_spread_86 : decode cX1_spread 86 = .ok (.return_, 1) := by decide +kernel
theorem dX1_moisten_0 : decode cX1_moisten 0 = .ok (.iload_n 3, 1) := by decide +kernel
theorem dX1_moisten_1 : decode cX1_moisten 1 = .ok (.ifCond .le 22, 3) := by decide +kernel
theorem dX1_moisten_4 : decode cX1_moisten 4 = .ok (.iload_n 1, 1) := by decide +kernel
theorem dX1_moisten_5 : decode cX1_moisten 5 = .ok (.iload_n 2, 1) := by decide +kernel
theorem dX1_moisten_6 : decode cX1_moisten 6 = .ok (.invokestatic 41, 3) := by decide +kernel
theorem dX1_moisten_9 : decode cX1_moisten 9 = .ok (.ifCond .eq 14, 3) := by decide +kernel
theorem dX1_moisten_12 : decode cX1_moisten 12 = .ok (.aload_n 0, 1) := by decide +kernel
theorem dX1_moisten_13 : decode cX1_moisten 13 = .ok (.iload_n 1, 1) := by decide +kernel
theorem dX1_moisten_14 : decode cX1_moisten 14 = .ok (.iload_n 2, 1) := by decide +kernel
theorem dX1_moisten_15 : decode cX1_moisten 15 = .ok (.invokevirtual 45, 3) := by decide +kernel
theorem dX1_moisten_18 : decode cX1_moisten 18 = .ok (.lconst 0, 1) := by decide +kernel
theorem dX1_moisten_19 : decode cX1_moisten 19 = .ok (.lcmp, 1) := by decide +kernel
theorem dX1_moisten_20 : decode cX1_moisten 20 = .ok (.ifCond .eq 5, 3) := by decide +kernel
theorem dX1_moisten_23 : decode cX1_moisten 23 = .ok (.iconst 0, 1) := by decide +kernel
theorem dX1_moisten_24 : decode cX1_moisten 24 = .ok (.ireturn, 1) := by decide +kernel
theorem dX1_moisten_25 : decode cX1_moisten 25 = .ok (.aload_n 0, 1) := by decide +kernel
theorem dX1_moisten_26 : decode cX1_moisten 26 = .ok (.dup, 1) := by decide +kernel
theorem dX1_moisten_27 : decode cX1_moisten 27 = .ok (.getfield 23, 3) := by decide +kernel
theorem dX1_moisten_30 : decode cX1_moisten 30 = .ok (.iload_n 1, 1) := by decide +kernel
theorem dX1_moisten_31 : decode cX1_moisten 31 = .ok (.iload_n 2, 1) := by decide +kernel
theorem dX1_moisten_32 : decode cX1_moisten 32 = .ok (.invokestatic 27, 3) := by decide +kernel
theorem dX1_moisten_35 : decode cX1_moisten 35 = .ok (.lor, 1) := by decide +kernel
theorem dX1_moisten_36 : decode cX1_moisten 36 = .ok (.putfield 23, 3) := by decide +kernel
theorem dX1_moisten_39 : decode cX1_moisten 39 = .ok (.iconst 1, 1) := by decide +kernel
theorem dX1_moisten_40 : decode cX1_moisten 40 = .ok (.ireturn, 1) := by decide +kernel
theorem dX1_dry_0 : decode cX1_dry 0 = .ok (.aload_n 0, 1) := by decide +kernel
theorem dX1_dry_1 : decode cX1_dry 1 = .ok (.lload_n 1, 1) := by decide +kernel
theorem dX1_dry_2 : decode cX1_dry 2 = .ok (.invokevirtual 48, 3) := by decide +kernel
theorem dX1_dry_5 : decode cX1_dry 5 = .ok (.lstore_n 3, 1) := by decide +kernel
theorem dX1_dry_6 : decode cX1_dry 6 = .ok (.aload_n 0, 1) := by decide +kernel
theorem dX1_dry_7 : decode cX1_dry 7 = .ok (.dup, 1) := by decide +kernel
theorem dX1_dry_8 : decode cX1_dry 8 = .ok (.getfield 23, 3) := by decide +kernel
theorem dX1_dry_11 : decode cX1_dry 11 = .ok (.lload_n 3, 1) := by decide +kernel
theorem dX1_dry_12 : decode cX1_dry 12 = .ok (.ldc2_w 52, 3) := by decide +kernel
theorem dX1_dry_15 : decode cX1_dry 15 = .ok (.lxor, 1) := by decide +kernel
theorem dX1_dry_16 : decode cX1_dry 16 = .ok (.land, 1) := by decide +kernel
theorem dX1_dry_17 : decode cX1_dry 17 = .ok (.putfield 23, 3) := by decide +kernel
theorem dX1_dry_20 : decode cX1_dry 20 = .ok (.lload_n 3, 1) := by decide +kernel
theorem dX1_dry_21 : decode cX1_dry 21 = .ok (.invokestatic 54, 3) := by decide +kernel
theorem dX1_dry_24 : decode cX1_dry 24 = .ok (.ireturn, 1) := by decide +kernel
theorem dX1_walkFrom_0 : decode cX1_walkFrom 0 = .ok (.lconst 0, 1) := by decide +kernel
theorem dX1_walkFrom_1 : decode cX1_walkFrom 1 = .ok (.lstore_n 3, 1) := by decide +kernel
theorem dX1_walkFrom_2 : decode cX1_walkFrom 2 = .ok (.aload_n 0, 1) := by decide +kernel
theorem dX1_walkFrom_3 : decode cX1_walkFrom 3 = .ok (.getfield 23, 3) := by decide +kernel
theorem dX1_walkFrom_6 : decode cX1_walkFrom 6 = .ok (.lload_n 1, 1) := by decide +kernel
theorem dX1_walkFrom_7 : decode cX1_walkFrom 7 = .ok (.land, 1) := by decide +kernel
theorem dX1_walkFrom_8 : decode cX1_walkFrom 8 = .ok (.lstore 5, 2) := by decide +kernel
theorem dX1_walkFrom_10 : decode cX1_walkFrom 10 = .ok (.iconst 0, 1) := by decide +kernel
theorem dX1_walkFrom_11 : decode cX1_walkFrom 11 = .ok (.istore 7, 2) := by decide +kernel
theorem dX1_walkFrom_13 : decode cX1_walkFrom 13 = .ok (.iload 7, 2) := by decide +kernel
theorem dX1_walkFrom_15 : decode cX1_walkFrom 15 = .ok (.bipush 64, 2) := by decide +kernel
theorem dX1_walkFrom_17 : decode cX1_walkFrom 17 = .ok (.if_icmp .ge 49, 3) := by decide +kernel
theorem dX1_walkFrom_20 : decode cX1_walkFrom 20 = .ok (.lload 5, 2) := by decide +kernel
theorem dX1_walkFrom_22 : decode cX1_walkFrom 22 = .ok (.lconst 0, 1) := by decide +kernel
theorem dX1_walkFrom_23 : decode cX1_walkFrom 23 = .ok (.lcmp, 1) := by decide +kernel
theorem dX1_walkFrom_24 : decode cX1_walkFrom 24 = .ok (.ifCond .eq 42, 3) := by decide +kernel
theorem dX1_walkFrom_27 : decode cX1_walkFrom 27 = .ok (.lload 5, 2) := by decide +kernel
theorem dX1_walkFrom_29 : decode cX1_walkFrom 29 = .ok (.invokestatic 60, 3) := by decide +kernel
theorem dX1_walkFrom_32 : decode cX1_walkFrom 32 = .ok (.lstore 8, 2) := by decide +kernel
theorem dX1_walkFrom_34 : decode cX1_walkFrom 34 = .ok (.lload_n 3, 1) := by decide +kernel
theorem dX1_walkFrom_35 : decode cX1_walkFrom 35 = .ok (.lload 8, 2) := by decide +kernel
theorem dX1_walkFrom_37 : decode cX1_walkFrom 37 = .ok (.lor, 1) := by decide +kernel
theorem dX1_walkFrom_38 : decode cX1_walkFrom 38 = .ok (.lstore_n 3, 1) := by decide +kernel
theorem dX1_walkFrom_39 : decode cX1_walkFrom 39 = .ok (.lload 5, 2) := by decide +kernel
theorem dX1_walkFrom_41 : decode cX1_walkFrom 41 = .ok (.lload 8, 2) := by decide +kernel
theorem dX1_walkFrom_43 : decode cX1_walkFrom 43 = .ok (.invokestatic 63, 3) := by decide +kernel
theorem dX1_walkFrom_46 : decode cX1_walkFrom 46 = .ok (.lor, 1) := by decide +kernel
theorem dX1_walkFrom_47 : decode cX1_walkFrom 47 = .ok (.aload_n 0, 1) := by decide +kernel
theorem dX1_walkFrom_48 : decode cX1_walkFrom 48 = .ok (.getfield 23, 3) := by decide +kernel
theorem dX1_walkFrom_51 : decode cX1_walkFrom 51 = .ok (.land, 1) := by decide +kernel
theorem dX1_walkFrom_52 : decode cX1_walkFrom 52 = .ok (.lload_n 3, 1) := by decide +kernel
theorem dX1_walkFrom_53 : decode cX1_walkFrom 53 = .ok (.ldc2_w 52, 3) := by decide +kernel
theorem dX1_walkFrom_56 : decode cX1_walkFrom 56 = .ok (.lxor, 1) := by decide +kernel
theorem dX1_walkFrom_57 : decode cX1_walkFrom 57 = .ok (.land, 1) := by decide +kernel
theorem dX1_walkFrom_58 : decode cX1_walkFrom 58 = .ok (.lstore 5, 2) := by decide +kernel
theorem dX1_walkFrom_60 : decode cX1_walkFrom 60 = .ok (.iinc 7 1, 3) := by decide +kernel
theorem dX1_walkFrom_63 : decode cX1_walkFrom 63 = .ok (.goto (-50), 3) := by decide +kernel
theorem dX1_walkFrom_66 : decode cX1_walkFrom 66 = .ok (.lload_n 3, 1) := by decide +kernel
theorem dX1_walkFrom_67 : decode cX1_walkFrom 67 = .ok (.lreturn, 1) := by decide +kernel
theorem dX1_largestSize_0 : decode cX1_largestSize 0 = .ok (.iconst 0, 1) := by decide +kernel
theorem dX1_largestSize_1 : decode cX1_largestSize 1 = .ok (.istore_n 1, 1) := by decide +kernel
theorem dX1_largestSize_2 : decode cX1_largestSize 2 = .ok (.aload_n 0, 1) := by decide +kernel
theorem dX1_largestSize_3 : decode cX1_largestSize 3 = .ok (.getfield 23, 3) := by decide +kernel
theorem dX1_largestSize_6 : decode cX1_largestSize 6 = .ok (.lstore_n 2, 1) := by decide +kernel
theorem dX1_largestSize_7 : decode cX1_largestSize 7 = .ok (.iconst 0, 1) := by decide +kernel
theorem dX1_largestSize_8 : decode cX1_largestSize 8 = .ok (.istore 4, 2) := by decide +kernel
theorem dX1_largestSize_10 : decode cX1_largestSize 10 = .ok (.iload 4, 2) := by decide +kernel
theorem dX1_largestSize_12 : decode cX1_largestSize 12 = .ok (.bipush 64, 2) := by decide +kernel
theorem dX1_largestSize_14 : decode cX1_largestSize 14 = .ok (.if_icmp .ge 44, 3) := by decide +kernel
theorem dX1_largestSize_17 : decode cX1_largestSize 17 = .ok (.lload_n 2, 1) := by decide +kernel
theorem dX1_largestSize_18 : decode cX1_largestSize 18 = .ok (.lconst 0, 1) := by decide +kernel
theorem dX1_largestSize_19 : decode cX1_largestSize 19 = .ok (.lcmp, 1) := by decide +kernel
theorem dX1_largestSize_20 : decode cX1_largestSize 20 = .ok (.ifCond .eq 38, 3) := by decide +kernel
theorem dX1_largestSize_23 : decode cX1_largestSize 23 = .ok (.aload_n 0, 1) := by decide +kernel
theorem dX1_largestSize_24 : decode cX1_largestSize 24 = .ok (.lload_n 2, 1) := by decide +kernel
theorem dX1_largestSize_25 : decode cX1_largestSize 25 = .ok (.invokestatic 60, 3) := by decide +kernel
theorem dX1_largestSize_28 : decode cX1_largestSize 28 = .ok (.invokevirtual 48, 3) := by decide +kernel
theorem dX1_largestSize_31 : decode cX1_largestSize 31 = .ok (.lstore 5, 2) := by decide +kernel
theorem dX1_largestSize_33 : decode cX1_largestSize 33 = .ok (.lload_n 2, 1) := by decide +kernel
theorem dX1_largestSize_34 : decode cX1_largestSize 34 = .ok (.lload 5, 2) := by decide +kernel
theorem dX1_largestSize_36 : decode cX1_largestSize 36 = .ok (.ldc2_w 52, 3) := by decide +kernel
theorem dX1_largestSize_39 : decode cX1_largestSize 39 = .ok (.lxor, 1) := by decide +kernel
theorem dX1_largestSize_40 : decode cX1_largestSize 40 = .ok (.land, 1) := by decide +kernel
theorem dX1_largestSize_41 : decode cX1_largestSize 41 = .ok (.lstore_n 2, 1) := by decide +kernel
theorem dX1_largestSize_42 : decode cX1_largestSize 42 = .ok (.iload_n 1, 1) := by decide +kernel
theorem dX1_largestSize_43 : decode cX1_largestSize 43 = .ok (.lload 5, 2) := by decide +kernel
theorem dX1_largestSize_45 : decode cX1_largestSize 45 = .ok (.invokestatic 54, 3) := by decide +kernel
theorem dX1_largestSize_48 : decode cX1_largestSize 48 = .ok (.invokestatic 66, 3) := by decide +kernel
theorem dX1_largestSize_51 : decode cX1_largestSize 51 = .ok (.istore_n 1, 1) := by decide +kernel
theorem dX1_largestSize_52 : decode cX1_largestSize 52 = .ok (.iinc 4 1, 3) := by decide +kernel
theorem dX1_largestSize_55 : decode cX1_largestSize 55 = .ok (.goto (-45), 3) := by decide +kernel
theorem dX1_largestSize_58 : decode cX1_largestSize 58 = .ok (.iload_n 1, 1) := by decide +kernel
theorem dX1_largestSize_59 : decode cX1_largestSize 59 = .ok (.ireturn, 1) := by decide +kernel
theorem dX1_countPuddles_0 : decode cX1_countPuddles 0 = .ok (.iconst 0, 1) := by decide +kernel
theorem dX1_countPuddles_1 : decode cX1_countPuddles 1 = .ok (.istore_n 1, 1) := by decide +kernel
theorem dX1_countPuddles_2 : decode cX1_countPuddles 2 = .ok (.aload_n 0, 1) := by decide +kernel
theorem dX1_countPuddles_3 : decode cX1_countPuddles 3 = .ok (.getfield 23, 3) := by decide +kernel
theorem dX1_countPuddles_6 : decode cX1_countPuddles 6 = .ok (.lstore_n 2, 1) := by decide +kernel
theorem dX1_countPuddles_7 : decode cX1_countPuddles 7 = .ok (.iconst 0, 1) := by decide +kernel
theorem dX1_countPuddles_8 : decode cX1_countPuddles 8 = .ok (.istore 4, 2) := by decide +kernel
theorem dX1_countPuddles_10 : decode cX1_countPuddles 10 = .ok (.iload 4, 2) := by decide +kernel
theorem dX1_countPuddles_12 : decode cX1_countPuddles 12 = .ok (.bipush 64, 2) := by decide +kernel
theorem dX1_countPuddles_14 : decode cX1_countPuddles 14 = .ok (.if_icmp .ge 33, 3) := by decide +kernel
theorem dX1_countPuddles_17 : decode cX1_countPuddles 17 = .ok (.lload_n 2, 1) := by decide +kernel
theorem dX1_countPuddles_18 : decode cX1_countPuddles 18 = .ok (.lconst 0, 1) := by decide +kernel
theorem dX1_countPuddles_19 : decode cX1_countPuddles 19 = .ok (.lcmp, 1) := by decide +kernel
theorem dX1_countPuddles_20 : decode cX1_countPuddles 20 = .ok (.ifCond .eq 27, 3) := by decide +kernel
theorem dX1_countPuddles_23 : decode cX1_countPuddles 23 = .ok (.lload_n 2, 1) := by decide +kernel
theorem dX1_countPuddles_24 : decode cX1_countPuddles 24 = .ok (.aload_n 0, 1) := by decide +kernel
theorem dX1_countPuddles_25 : decode cX1_countPuddles 25 = .ok (.lload_n 2, 1) := by decide +kernel
theorem dX1_countPuddles_26 : decode cX1_countPuddles 26 = .ok (.invokestatic 60, 3) := by decide +kernel
theorem dX1_countPuddles_29 : decode cX1_countPuddles 29 = .ok (.invokevirtual 48, 3) := by decide +kernel
theorem dX1_countPuddles_32 : decode cX1_countPuddles 32 = .ok (.ldc2_w 52, 3) := by decide +kernel
theorem dX1_countPuddles_35 : decode cX1_countPuddles 35 = .ok (.lxor, 1) := by decide +kernel
theorem dX1_countPuddles_36 : decode cX1_countPuddles 36 = .ok (.land, 1) := by decide +kernel
theorem dX1_countPuddles_37 : decode cX1_countPuddles 37 = .ok (.lstore_n 2, 1) := by decide +kernel
theorem dX1_countPuddles_38 : decode cX1_countPuddles 38 = .ok (.iinc 1 1, 3) := by decide +kernel
theorem dX1_countPuddles_41 : decode cX1_countPuddles 41 = .ok (.iinc 4 1, 3) := by decide +kernel
theorem dX1_countPuddles_44 : decode cX1_countPuddles 44 = .ok (.goto (-34), 3) := by decide +kernel
theorem dX1_countPuddles_47 : decode cX1_countPuddles 47 = .ok (.iload_n 1, 1) := by decide +kernel
theorem dX1_countPuddles_48 : decode cX1_countPuddles 48 = .ok (.ireturn, 1) := by decide +kernel
theorem dX1_joinGroups_0 : decode cX1_joinGroups 0 = .ok (.aload_n 0, 1) := by decide +kernel
theorem dX1_joinGroups_1 : decode cX1_joinGroups 1 = .ok (.iconst 0, 1) := by decide +kernel
theorem dX1_joinGroups_2 : decode cX1_joinGroups 2 = .ok (.putfield 70, 3) := by decide +kernel
theorem dX1_joinGroups_5 : decode cX1_joinGroups 5 = .ok (.iconst 0, 1) := by decide +kernel
theorem dX1_joinGroups_6 : decode cX1_joinGroups 6 = .ok (.istore_n 1, 1) := by decide +kernel
theorem dX1_joinGroups_7 : decode cX1_joinGroups 7 = .ok (.iload_n 1, 1) := by decide +kernel
theorem dX1_joinGroups_8 : decode cX1_joinGroups 8 = .ok (.bipush 8, 2) := by decide +kernel
theorem dX1_joinGroups_10 : decode cX1_joinGroups 10 = .ok (.if_icmp .ge 43, 3) := by decide +kernel
theorem dX1_joinGroups_13 : decode cX1_joinGroups 13 = .ok (.iconst 0, 1) := by decide +kernel
theorem dX1_joinGroups_14 : decode cX1_joinGroups 14 = .ok (.istore_n 2, 1) := by decide +kernel
theorem dX1_joinGroups_15 : decode cX1_joinGroups 15 = .ok (.iload_n 2, 1) := by decide +kernel
theorem dX1_joinGroups_16 : decode cX1_joinGroups 16 = .ok (.bipush 8, 2) := by decide +kernel
theorem dX1_joinGroups_18 : decode cX1_joinGroups 18 = .ok (.if_icmp .ge 29, 3) := by decide +kernel
theorem dX1_joinGroups_21 : decode cX1_joinGroups 21 = .ok (.aload_n 0, 1) := by decide +kernel
theorem dX1_joinGroups_22 : decode cX1_joinGroups 22 = .ok (.iload_n 1, 1) := by decide +kernel
theorem dX1_joinGroups_23 : decode cX1_joinGroups 23 = .ok (.iload_n 2, 1) := by decide +kernel
theorem dX1_joinGroups_24 : decode cX1_joinGroups 24 = .ok (.invokevirtual 45, 3) := by decide +kernel
theorem dX1_joinGroups_27 : decode cX1_joinGroups 27 = .ok (.lconst 0, 1) := by decide +kernel
theorem dX1_joinGroups_28 : decode cX1_joinGroups 28 = .ok (.lcmp, 1) := by decide +kernel
theorem dX1_joinGroups_29 : decode cX1_joinGroups 29 = .ok (.ifCond .eq 12, 3) := by decide +kernel
theorem dX1_joinGroups_32 : decode cX1_joinGroups 32 = .ok (.aload_n 0, 1) := by decide +kernel
theorem dX1_joinGroups_33 : decode cX1_joinGroups 33 = .ok (.iload_n 1, 1) := by decide +kernel
theorem dX1_joinGroups_34 : decode cX1_joinGroups 34 = .ok (.iload_n 2, 1) := by decide +kernel
theorem dX1_joinGroups_35 : decode cX1_joinGroups 35 = .ok (.invokestatic 27, 3) := by decide +kernel
theorem dX1_joinGroups_38 : decode cX1_joinGroups 38 = .ok (.invokevirtual 74, 3) := by decide +kernel
theorem dX1_joinGroups_41 : decode cX1_joinGroups 41 = .ok (.iinc 2 1, 3) := by decide +kernel
theorem dX1_joinGroups_44 : decode cX1_joinGroups 44 = .ok (.goto (-29), 3) := by decide +kernel
theorem dX1_joinGroups_47 : decode cX1_joinGroups 47 = .ok (.iinc 1 1, 3) := by decide +kernel
theorem dX1_joinGroups_50 : decode cX1_joinGroups 50 = .ok (.goto (-43), 3) := by decide +kernel
theorem dX1_joinGroups_53 : decode cX1_joinGroups 53 = .ok (.return_, 1) := by decide +kernel
theorem dX1_joinCell_0 : decode cX1_joinCell 0 = .ok (.lload_n 1, 1) := by decide +kernel
theorem dX1_joinCell_1 : decode cX1_joinCell 1 = .ok (.invokestatic 63, 3) := by decide +kernel
theorem dX1_joinCell_4 : decode cX1_joinCell 4 = .ok (.lstore_n 3, 1) := by decide +kernel
theorem dX1_joinCell_5 : decode cX1_joinCell 5 = .ok (.lload_n 1, 1) := by decide +kernel
theorem dX1_joinCell_6 : decode cX1_joinCell 6 = .ok (.lstore 5, 2) := by decide +kernel
theorem dX1_joinCell_8 : decode cX1_joinCell 8 = .ok (.iconst 0, 1) := by decide +kernel
theorem dX1_joinCell_9 : decode cX1_joinCell 9 = .ok (.istore 7, 2) := by decide +kernel
theorem dX1_joinCell_11 : decode cX1_joinCell 11 = .ok (.iconst 0, 1) := by decide +kernel
theorem dX1_joinCell_12 : decode cX1_joinCell 12 = .ok (.istore 8, 2) := by decide +kernel
theorem dX1_joinCell_14 : decode cX1_joinCell 14 = .ok (.iload 8, 2) := by decide +kernel
theorem dX1_joinCell_16 : decode cX1_joinCell 16 = .ok (.aload_n 0, 1) := by decide +kernel
theorem dX1_joinCell_17 : decode cX1_joinCell 17 = .ok (.getfield 70, 3) := by decide +kernel
theorem dX1_joinCell_20 : decode cX1_joinCell 20 = .ok (.if_icmp .ge 55, 3) := by decide +kernel
theorem dX1_joinCell_23 : decode cX1_joinCell 23 = .ok (.aload_n 0, 1) := by decide +kernel
theorem dX1_joinCell_24 : decode cX1_joinCell 24 = .ok (.getfield 9, 3) := by decide +kernel
theorem dX1_joinCell_27 : decode cX1_joinCell 27 = .ok (.iload 8, 2) := by decide +kernel
theorem dX1_joinCell_29 : decode cX1_joinCell 29 = .ok (.laload, 1) := by decide +kernel
theorem dX1_joinCell_30 : decode cX1_joinCell 30 = .ok (.lload_n 3, 1) := by decide +kernel
theorem dX1_joinCell_31 : decode cX1_joinCell 31 = .ok (.land, 1) := by decide +kernel
theorem dX1_joinCell_32 : decode cX1_joinCell 32 = .ok (.lconst 0, 1) := by decide +kernel
theorem dX1_joinCell_33 : decode cX1_joinCell 33 = .ok (.lcmp, 1) := by decide +kernel
theorem dX1_joinCell_34 : decode cX1_joinCell 34 = .ok (.ifCond .eq 18, 3) := by decide +kernel
theorem dX1_joinCell_37 : decode cX1_joinCell 37 = .ok (.lload 5, 2) := by decide +kernel
theorem dX1_joinCell_39 : decode cX1_joinCell 39 = .ok (.aload_n 0, 1) := by decide +kernel
theorem dX1_joinCell_40 : decode cX1_joinCell 40 = .ok (.getfield 9, 3) := by decide +kernel
theorem dX1_joinCell_43 : decode cX1_joinCell 43 = .ok (.iload 8, 2) := by decide +kernel
theorem dX1_joinCell_45 : decode cX1_joinCell 45 = .ok (.laload, 1) := by decide +kernel
theorem dX1_joinCell_46 : decode cX1_joinCell 46 = .ok (.lor, 1) := by decide +kernel
theorem dX1_joinCell_47 : decode cX1_joinCell 47 = .ok (.lstore 5, 2) := by decide +kernel
theorem dX1_joinCell_49 : decode cX1_joinCell 49 = .ok (.goto 20, 3) := by decide +kernel
theorem dX1_joinCell_52 : decode cX1_joinCell 52 = .ok (.aload_n 0, 1) := by decide +kernel
theorem dX1_joinCell_53 : decode cX1_joinCell 53 = .ok (.getfield 9, 3) := by decide +kernel
theorem dX1_joinCell_56 : decode cX1_joinCell 56 = .ok (.iload 7, 2) := by decide +kernel
theorem dX1_joinCell_58 : decode cX1_joinCell 58 = .ok (.aload_n 0, 1) := by decide +kernel
theorem dX1_joinCell_59 : decode cX1_joinCell 59 = .ok (.getfield 9, 3) := by decide +kernel
theorem dX1_joinCell_62 : decode cX1_joinCell 62 = .ok (.iload 8, 2) := by decide +kernel
theorem dX1_joinCell_64 : decode cX1_joinCell 64 = .ok (.laload, 1) := by decide +kernel
theorem dX1_joinCell_65 : decode cX1_joinCell 65 = .ok (.lastore, 1) := by decide +kernel
theorem dX1_joinCell_66 : decode cX1_joinCell 66 = .ok (.iinc 7 1, 3) := by decide +kernel
theorem dX1_joinCell_69 : decode cX1_joinCell 69 = .ok (.iinc 8 1, 3) := by decide +kernel
theorem dX1_joinCell_72 : decode cX1_joinCell 72 = .ok (.goto (-58), 3) := by decide +kernel
theorem dX1_joinCell_75 : decode cX1_joinCell 75 = .ok (.iload 7, 2) := by decide +kernel
theorem dX1_joinCell_77 : decode cX1_joinCell 77 = .ok (.bipush 64, 2) := by decide +kernel
theorem dX1_joinCell_79 : decode cX1_joinCell 79 = .ok (.if_icmp .ge 15, 3) := by decide +kernel
theorem dX1_joinCell_82 : decode cX1_joinCell 82 = .ok (.aload_n 0, 1) := by decide +kernel
theorem dX1_joinCell_83 : decode cX1_joinCell 83 = .ok (.getfield 9, 3) := by decide +kernel
theorem dX1_joinCell_86 : decode cX1_joinCell 86 = .ok (.iload 7, 2) := by decide +kernel
theorem dX1_joinCell_88 : decode cX1_joinCell 88 = .ok (.lload 5, 2) := by decide +kernel
theorem dX1_joinCell_90 : decode cX1_joinCell 90 = .ok (.lastore, 1) := by decide +kernel
theorem dX1_joinCell_91 : decode cX1_joinCell 91 = .ok (.iinc 7 1, 3) := by decide +kernel
theorem dX1_joinCell_94 : decode cX1_joinCell 94 = .ok (.aload_n 0, 1) := by decide +kernel
theorem dX1_joinCell_95 : decode cX1_joinCell 95 = .ok (.iload 7, 2) := by decide +kernel
theorem dX1_joinCell_97 : decode cX1_joinCell 97 = .ok (.putfield 70, 3) := by decide +kernel
theorem dX1_joinCell_100 : decode cX1_joinCell 100 = .ok (.return_, 1) := by decide +kernel
theorem dX1_groupOf_0 : decode cX1_groupOf 0 = .ok (.iconst 0, 1) := by decide +kernel
theorem dX1_groupOf_1 : decode cX1_groupOf 1 = .ok (.istore_n 3, 1) := by decide +kernel
theorem dX1_groupOf_2 : decode cX1_groupOf 2 = .ok (.iload_n 3, 1) := by decide +kernel
theorem dX1_groupOf_3 : decode cX1_groupOf 3 = .ok (.aload_n 0, 1) := by decide +kernel
theorem dX1_groupOf_4 : decode cX1_groupOf 4 = .ok (.getfield 70, 3) := by decide +kernel
theorem dX1_groupOf_7 : decode cX1_groupOf 7 = .ok (.if_icmp .ge 29, 3) := by decide +kernel
theorem dX1_groupOf_10 : decode cX1_groupOf 10 = .ok (.aload_n 0, 1) := by decide +kernel
theorem dX1_groupOf_11 : decode cX1_groupOf 11 = .ok (.getfield 9, 3) := by decide +kernel
theorem dX1_groupOf_14 : decode cX1_groupOf 14 = .ok (.iload_n 3, 1) := by decide +kernel
theorem dX1_groupOf_15 : decode cX1_groupOf 15 = .ok (.laload, 1) := by decide +kernel
theorem dX1_groupOf_16 : decode cX1_groupOf 16 = .ok (.lload_n 1, 1) := by decide +kernel
theorem dX1_groupOf_17 : decode cX1_groupOf 17 = .ok (.land, 1) := by decide +kernel
theorem dX1_groupOf_18 : decode cX1_groupOf 18 = .ok (.lconst 0, 1) := by decide +kernel
theorem dX1_groupOf_19 : decode cX1_groupOf 19 = .ok (.lcmp, 1) := by decide +kernel
theorem dX1_groupOf_20 : decode cX1_groupOf 20 = .ok (.ifCond .eq 10, 3) := by decide +kernel
theorem dX1_groupOf_23 : decode cX1_groupOf 23 = .ok (.aload_n 0, 1) := by decide +kernel
theorem dX1_groupOf_24 : decode cX1_groupOf 24 = .ok (.getfield 9, 3) := by decide +kernel
theorem dX1_groupOf_27 : decode cX1_groupOf 27 = .ok (.iload_n 3, 1) := by decide +kernel
theorem dX1_groupOf_28 : decode cX1_groupOf 28 = .ok (.laload, 1) := by decide +kernel
theorem dX1_groupOf_29 : decode cX1_groupOf 29 = .ok (.lreturn, 1) := by decide +kernel
theorem dX1_groupOf_30 : decode cX1_groupOf 30 = .ok (.iinc 3 1, 3) := by decide +kernel
theorem dX1_groupOf_33 : decode cX1_groupOf 33 = .ok (.goto (-31), 3) := by decide +kernel
theorem dX1_groupOf_36 : decode cX1_groupOf 36 = .ok (.lconst 0, 1) := by decide +kernel
theorem dX1_groupOf_37 : decode cX1_groupOf 37 = .ok (.lreturn, 1) := by decide +kernel
theorem dX1_puddleWaysAgree_0 : decode cX1_puddleWaysAgree 0 = .ok (.aload_n 0, 1) := by decide +kernel
theorem dX1_puddleWaysAgree_1 : decode cX1_puddleWaysAgree 1 = .ok (.invokevirtual 78, 3) := by decide +kernel
theorem dX1_puddleWaysAgree_4 : decode cX1_puddleWaysAgree 4 = .ok (.aload_n 0, 1) := by decide +kernel
theorem dX1_puddleWaysAgree_5 : decode cX1_puddleWaysAgree 5 = .ok (.getfield 23, 3) := by decide +kernel
theorem dX1_puddleWaysAgree_8 : decode cX1_puddleWaysAgree 8 = .ok (.lstore_n 1, 1) := by decide +kernel
theorem dX1_puddleWaysAgree_9 : decode cX1_puddleWaysAgree 9 = .ok (.iconst 0, 1) := by decide +kernel
theorem dX1_puddleWaysAgree_10 : decode cX1_puddleWaysAgree 10 = .ok (.istore_n 3, 1) := by decide +kernel
theorem dX1_puddleWaysAgree_11 : decode cX1_puddleWaysAgree 11 = .ok (.iload_n 3, 1) := by decide +kernel
theorem dX1_puddleWaysAgree_12 : decode cX1_puddleWaysAgree 12 = .ok (.bipush 64, 2) := by decide +kernel
theorem dX1_puddleWaysAgree_14 : decode cX1_puddleWaysAgree 14 = .ok (.if_icmp .ge 52, 3) := by decide +kernel
theorem dX1_puddleWaysAgree_17 : decode cX1_puddleWaysAgree 17 = .ok (.lload_n 1, 1) := by decide +kernel
theorem dX1_puddleWaysAgree_18 : decode cX1_puddleWaysAgree 18 = .ok (.lconst 0, 1) := by decide +kernel
theorem dX1_puddleWaysAgree_19 : decode cX1_puddleWaysAgree 19 = .ok (.lcmp, 1) := by decide +kernel
theorem dX1_puddleWaysAgree_20 : decode cX1_puddleWaysAgree 20 = .ok (.ifCond .eq 46, 3) := by decide +kernel
theorem dX1_puddleWaysAgree_23 : decode cX1_puddleWaysAgree 23 = .ok (.lload_n 1, 1) := by decide +kernel
theorem dX1_puddleWaysAgree_24 : decode cX1_puddleWaysAgree 24 = .ok (.invokestatic 60, 3) := by decide +kernel
theorem dX1_puddleWaysAgree_27 : decode cX1_puddleWaysAgree 27 = .ok (.lstore 4, 2) := by decide +kernel
theorem dX1_puddleWaysAgree_29 : decode cX1_puddleWaysAgree 29 = .ok (.aload_n 0, 1) := by decide +kernel
theorem dX1_puddleWaysAgree_30 : decode cX1_puddleWaysAgree 30 = .ok (.lload 4, 2) := by decide +kernel
theorem dX1_puddleWaysAgree_32 : decode cX1_puddleWaysAgree 32 = .ok (.invokevirtual 48, 3) := by decide +kernel
theorem dX1_puddleWaysAgree_35 : decode cX1_puddleWaysAgree 35 = .ok (.lstore 6, 2) := by decide +kernel
theorem dX1_puddleWaysAgree_37 : decode cX1_puddleWaysAgree 37 = .ok (.lload 6, 2) := by decide +kernel
theorem dX1_puddleWaysAgree_39 : decode cX1_puddleWaysAgree 39 = .ok (.aload_n 0, 1) := by decide +kernel
theorem dX1_puddleWaysAgree_40 : decode cX1_puddleWaysAgree 40 = .ok (.lload 4, 2) := by decide +kernel
theorem dX1_puddleWaysAgree_42 : decode cX1_puddleWaysAgree 42 = .ok (.invokevirtual 81, 3) := by decide +kernel
theorem dX1_puddleWaysAgree_45 : decode cX1_puddleWaysAgree 45 = .ok (.lcmp, 1) := by decide +kernel
theorem dX1_puddleWaysAgree_46 : decode cX1_puddleWaysAgree 46 = .ok (.ifCond .eq 5, 3) := by decide +kernel
theorem dX1_puddleWaysAgree_49 : decode cX1_puddleWaysAgree 49 = .ok (.iconst 0, 1) := by decide +kernel
theorem dX1_puddleWaysAgree_50 : decode cX1_puddleWaysAgree 50 = .ok (.ireturn, 1) := by decide +kernel
theorem dX1_puddleWaysAgree_51 : decode cX1_puddleWaysAgree 51 = .ok (.lload_n 1, 1) := by decide +kernel
theorem dX1_puddleWaysAgree_52 : decode cX1_puddleWaysAgree 52 = .ok (.lload 6, 2) := by decide +kernel
theorem dX1_puddleWaysAgree_54 : decode cX1_puddleWaysAgree 54 = .ok (.ldc2_w 52, 3) := by decide +kernel
theorem dX1_puddleWaysAgree_57 : decode cX1_puddleWaysAgree 57 = .ok (.lxor, 1) := by decide +kernel
theorem dX1_puddleWaysAgree_58 : decode cX1_puddleWaysAgree 58 = .ok (.land, 1) := by decide +kernel
theorem dX1_puddleWaysAgree_59 : decode cX1_puddleWaysAgree 59 = .ok (.lstore_n 1, 1) := by decide +kernel
theorem dX1_puddleWaysAgree_60 : decode cX1_puddleWaysAgree 60 = .ok (.iinc 3 1, 3) := by decide +kernel
theorem dX1_puddleWaysAgree_63 : decode cX1_puddleWaysAgree 63 = .ok (.goto (-52), 3) := by decide +kernel
theorem dX1_puddleWaysAgree_66 : decode cX1_puddleWaysAgree 66 = .ok (.iconst 1, 1) := by decide +kernel
theorem dX1_puddleWaysAgree_67 : decode cX1_puddleWaysAgree 67 = .ok (.ireturn, 1) := by decide +kernel
theorem dX3_init_0 : decode cX3_init 0 = .ok (.aload_n 0, 1) := by decide +kernel
theorem dX3_init_1 : decode cX3_init 1 = .ok (.invokespecial 1, 3) := by decide +kernel
theorem dX3_init_4 : decode cX3_init 4 = .ok (.aload_n 0, 1) := by decide +kernel
theorem dX3_init_5 : decode cX3_init 5 = .ok (.bipush 8, 2) := by decide +kernel
theorem dX3_init_7 : decode cX3_init 7 = .ok (.anewarray 9, 3) := by decide +kernel
theorem dX3_init_10 : decode cX3_init 10 = .ok (.putfield 11, 3) := by decide +kernel
theorem dX3_init_13 : decode cX3_init 13 = .ok (.iconst 0, 1) := by decide +kernel
theorem dX3_init_14 : decode cX3_init 14 = .ok (.istore_n 1, 1) := by decide +kernel
theorem dX3_init_15 : decode cX3_init 15 = .ok (.iload_n 1, 1) := by decide +kernel
theorem dX3_init_16 : decode cX3_init 16 = .ok (.bipush 8, 2) := by decide +kernel
theorem dX3_init_18 : decode cX3_init 18 = .ok (.if_icmp .ge 22, 3) := by decide +kernel
theorem dX3_init_21 : decode cX3_init 21 = .ok (.aload_n 0, 1) := by decide +kernel
theorem dX3_init_22 : decode cX3_init 22 = .ok (.getfield 11, 3) := by decide +kernel
theorem dX3_init_25 : decode cX3_init 25 = .ok (.iload_n 1, 1) := by decide +kernel
theorem dX3_init_26 : decode cX3_init 26 = .ok (.new 9, 3) := by decide +kernel
theorem dX3_init_29 : decode cX3_init 29 = .ok (.dup, 1) := by decide +kernel
theorem dX3_init_30 : decode cX3_init 30 = .ok (.invokespecial 15, 3) := by decide +kernel
theorem dX3_init_33 : decode cX3_init 33 = .ok (.aastore, 1) := by decide +kernel
theorem dX3_init_34 : decode cX3_init 34 = .ok (.iinc 1 1, 3) := by decide +kernel
theorem dX3_init_37 : decode cX3_init 37 = .ok (.goto (-22), 3) := by decide +kernel
theorem dX3_init_40 : decode cX3_init 40 = .ok (.return_, 1) := by decide +kernel
theorem dX3_remember_0 : decode cX3_remember 0 = .ok (.aload_n 0, 1) := by decide +kernel
theorem dX3_remember_1 : decode cX3_remember 1 = .ok (.getfield 11, 3) := by decide +kernel
theorem dX3_remember_4 : decode cX3_remember 4 = .ok (.aload_n 0, 1) := by decide +kernel
theorem dX3_remember_5 : decode cX3_remember 5 = .ok (.getfield 16, 3) := by decide +kernel
theorem dX3_remember_8 : decode cX3_remember 8 = .ok (.bipush 8, 2) := by decide +kernel
theorem dX3_remember_10 : decode cX3_remember 10 = .ok (.invokestatic 20, 3) := by decide +kernel
theorem dX3_remember_13 : decode cX3_remember 13 = .ok (.aaload, 1) := by decide +kernel
theorem dX3_remember_14 : decode cX3_remember 14 = .ok (.astore_n 2, 1) := by decide +kernel
theorem dX3_remember_15 : decode cX3_remember 15 = .ok (.aload_n 2, 1) := by decide +kernel
theorem dX3_remember_16 : decode cX3_remember 16 = .ok (.ifnull 38, 3) := by decide +kernel
theorem dX3_remember_19 : decode cX3_remember 19 = .ok (.aload_n 2, 1) := by decide +kernel
theorem dX3_remember_20 : decode cX3_remember 20 = .ok (.aload_n 1, 1) := by decide +kernel
theorem dX3_remember_21 : decode cX3_remember 21 = .ok (.invokevirtual 26, 3) := by decide +kernel
theorem dX3_remember_24 : decode cX3_remember 24 = .ok (.aload_n 0, 1) := by decide +kernel
theorem dX3_remember_25 : decode cX3_remember 25 = .ok (.aload_n 0, 1) := by decide +kernel
theorem dX3_remember_26 : decode cX3_remember 26 = .ok (.getfield 16, 3) := by decide +kernel
theorem dX3_remember_29 : decode cX3_remember 29 = .ok (.iconst 1, 1) := by decide +kernel
theorem dX3_remember_30 : decode cX3_remember 30 = .ok (.iadd, 1) := by decide +kernel
theorem dX3_remember_31 : decode cX3_remember 31 = .ok (.bipush 8, 2) := by decide +kernel
theorem dX3_remember_33 : decode cX3_remember 33 = .ok (.invokestatic 20, 3) := by decide +kernel
theorem dX3_remember_36 : decode cX3_remember 36 = .ok (.putfield 16, 3) := by decide +kernel
theorem dX3_remember_39 : decode cX3_remember 39 = .ok (.aload_n 0, 1) := by decide +kernel
theorem dX3_remember_40 : decode cX3_remember 40 = .ok (.aload_n 0, 1) := by decide +kernel
theorem dX3_remember_41 : decode cX3_remember 41 = .ok (.getfield 30, 3) := by decide +kernel
theorem dX3_remember_44 : decode cX3_remember 44 = .ok (.iconst 1, 1) := by decide +kernel
theorem dX3_remember_45 : decode cX3_remember 45 = .ok (.iadd, 1) := by decide +kernel
theorem dX3_remember_46 : decode cX3_remember 46 = .ok (.bipush 8, 2) := by decide +kernel
theorem dX3_remember_48 : decode cX3_remember 48 = .ok (.invokestatic 33, 3) := by decide +kernel
theorem dX3_remember_51 : decode cX3_remember 51 = .ok (.putfield 30, 3) := by decide +kernel
theorem dX3_remember_54 : decode cX3_remember 54 = .ok (.return_, 1) := by decide +kernel
theorem dX3_stepBack_0 : decode cX3_stepBack 0 = .ok (.aload_n 0, 1) := by decide +kernel
theorem dX3_stepBack_1 : decode cX3_stepBack 1 = .ok (.getfield 11, 3) := by decide +kernel
theorem dX3_stepBack_4 : decode cX3_stepBack 4 = .ok (.aload_n 0, 1) := by decide +kernel
theorem dX3_stepBack_5 : decode cX3_stepBack 5 = .ok (.getfield 16, 3) := by decide +kernel
theorem dX3_stepBack_8 : decode cX3_stepBack 8 = .ok (.iconst 1, 1) := by decide +kernel
theorem dX3_stepBack_9 : decode cX3_stepBack 9 = .ok (.isub, 1) := by decide +kernel
theorem dX3_stepBack_10 : decode cX3_stepBack 10 = .ok (.bipush 8, 2) := by decide +kernel
theorem dX3_stepBack_12 : decode cX3_stepBack 12 = .ok (.invokestatic 20, 3) := by decide +kernel
theorem dX3_stepBack_15 : decode cX3_stepBack 15 = .ok (.aaload, 1) := by decide +kernel
theorem dX3_stepBack_16 : decode cX3_stepBack 16 = .ok (.astore_n 2, 1) := by decide +kernel
theorem dX3_stepBack_17 : decode cX3_stepBack 17 = .ok (.aload_n 2, 1) := by decide +kernel
theorem dX3_stepBack_18 : decode cX3_stepBack 18 = .ok (.ifnull 40, 3) := by decide +kernel
theorem dX3_stepBack_21 : decode cX3_stepBack 21 = .ok (.aload_n 0, 1) := by decide +kernel
theorem dX3_stepBack_22 : decode cX3_stepBack 22 = .ok (.getfield 30, 3) := by decide +kernel
theorem dX3_stepBack_25 : decode cX3_stepBack 25 = .ok (.ifCond .le 33, 3) := by decide +kernel
theorem dX3_stepBack_28 : decode cX3_stepBack 28 = .ok (.aload_n 1, 1) := by decide +kernel
theorem dX3_stepBack_29 : decode cX3_stepBack 29 = .ok (.aload_n 2, 1) := by decide +kernel
theorem dX3_stepBack_30 : decode cX3_stepBack 30 = .ok (.invokevirtual 26, 3) := by decide +kernel
theorem dX3_stepBack_33 : decode cX3_stepBack 33 = .ok (.aload_n 0, 1) := by decide +kernel
theorem dX3_stepBack_34 : decode cX3_stepBack 34 = .ok (.aload_n 0, 1) := by decide +kernel
theorem dX3_stepBack_35 : decode cX3_stepBack 35 = .ok (.getfield 16, 3) := by decide +kernel
theorem dX3_stepBack_38 : decode cX3_stepBack 38 = .ok (.iconst 1, 1) := by decide +kernel
theorem dX3_stepBack_39 : decode cX3_stepBack 39 = .ok (.isub, 1) := by decide +kernel
theorem dX3_stepBack_40 : decode cX3_stepBack 40 = .ok (.bipush 8, 2) := by decide +kernel
theorem dX3_stepBack_42 : decode cX3_stepBack 42 = .ok (.invokestatic 20, 3) := by decide +kernel
theorem dX3_stepBack_45 : decode cX3_stepBack 45 = .ok (.putfield 16, 3) := by decide +kernel
theorem dX3_stepBack_48 : decode cX3_stepBack 48 = .ok (.aload_n 0, 1) := by decide +kernel
theorem dX3_stepBack_49 : decode cX3_stepBack 49 = .ok (.dup, 1) := by decide +kernel
theorem dX3_stepBack_50 : decode cX3_stepBack 50 = .ok (.getfield 30, 3) := by decide +kernel
theorem dX3_stepBack_53 : decode cX3_stepBack 53 = .ok (.iconst 1, 1) := by decide +kernel
theorem dX3_stepBack_54 : decode cX3_stepBack 54 = .ok (.isub, 1) := by decide +kernel
theorem dX3_stepBack_55 : decode cX3_stepBack 55 = .ok (.putfield 30, 3) := by decide +kernel
theorem dX3_stepBack_58 : decode cX3_stepBack 58 = .ok (.return_, 1) := by decide +kernel
theorem dX3_forgetAll_0 : decode cX3_forgetAll 0 = .ok (.aload_n 0, 1) := by decide +kernel
theorem dX3_forgetAll_1 : decode cX3_forgetAll 1 = .ok (.iconst 0, 1) := by decide +kernel
theorem dX3_forgetAll_2 : decode cX3_forgetAll 2 = .ok (.putfield 30, 3) := by decide +kernel
theorem dX3_forgetAll_5 : decode cX3_forgetAll 5 = .ok (.return_, 1) := by decide +kernel
theorem dX4_init_0 : decode cX4_init 0 = .ok (.aload_n 0, 1) := by decide +kernel
theorem dX4_init_1 : decode cX4_init 1 = .ok (.invokespecial 3, 3) := by decide +kernel
theorem dX4_init_4 : decode cX4_init 4 = .ok (.aload_n 0, 1) := by decide +kernel
theorem dX4_init_5 : decode cX4_init 5 = .ok (.bipush 6, 2) := by decide +kernel
theorem dX4_init_7 : decode cX4_init 7 = .ok (.newarray .int, 2) := by decide +kernel
theorem dX4_init_9 : decode cX4_init 9 = .ok (.putfield 11, 3) := by decide +kernel
theorem dX4_init_12 : decode cX4_init 12 = .ok (.aload_n 0, 1) := by decide +kernel
theorem dX4_init_13 : decode cX4_init 13 = .ok (.bipush 6, 2) := by decide +kernel
theorem dX4_init_15 : decode cX4_init 15 = .ok (.newarray .int, 2) := by decide +kernel
theorem dX4_init_17 : decode cX4_init 17 = .ok (.putfield 15, 3) := by decide +kernel
theorem dX4_init_20 : decode cX4_init 20 = .ok (.return_, 1) := by decide +kernel
theorem dX4_copyFrom_0 : decode cX4_copyFrom 0 = .ok (.aload_n 1, 1) := by decide +kernel
theorem dX4_copyFrom_1 : decode cX4_copyFrom 1 = .ok (.getfield 11, 3) := by decide +kernel
theorem dX4_copyFrom_4 : decode cX4_copyFrom 4 = .ok (.aload_n 0, 1) := by decide +kernel
theorem dX4_copyFrom_5 : decode cX4_copyFrom 5 = .ok (.getfield 11, 3) := by decide +kernel
theorem dX4_copyFrom_8 : decode cX4_copyFrom 8 = .ok (.invokestatic 18, 3) := by decide +kernel
theorem dX4_copyFrom_11 : decode cX4_copyFrom 11 = .ok (.aload_n 1, 1) := by decide +kernel
theorem dX4_copyFrom_12 : decode cX4_copyFrom 12 = .ok (.getfield 15, 3) := by decide +kernel
theorem dX4_copyFrom_15 : decode cX4_copyFrom 15 = .ok (.aload_n 0, 1) := by decide +kernel
theorem dX4_copyFrom_16 : decode cX4_copyFrom 16 = .ok (.getfield 15, 3) := by decide +kernel
theorem dX4_copyFrom_19 : decode cX4_copyFrom 19 = .ok (.invokestatic 18, 3) := by decide +kernel
theorem dX4_copyFrom_22 : decode cX4_copyFrom 22 = .ok (.aload_n 0, 1) := by decide +kernel
theorem dX4_copyFrom_23 : decode cX4_copyFrom 23 = .ok (.aload_n 1, 1) := by decide +kernel
theorem dX4_copyFrom_24 : decode cX4_copyFrom 24 = .ok (.getfield 22, 3) := by decide +kernel
theorem dX4_copyFrom_27 : decode cX4_copyFrom 27 = .ok (.putfield 22, 3) := by decide +kernel
theorem dX4_copyFrom_30 : decode cX4_copyFrom 30 = .ok (.aload_n 0, 1) := by decide +kernel
theorem dX4_copyFrom_31 : decode cX4_copyFrom 31 = .ok (.aload_n 1, 1) := by decide +kernel
theorem dX4_copyFrom_32 : decode cX4_copyFrom 32 = .ok (.getfield 26, 3) := by decide +kernel
theorem dX4_copyFrom_35 : decode cX4_copyFrom 35 = .ok (.putfield 26, 3) := by decide +kernel
theorem dX4_copyFrom_38 : decode cX4_copyFrom 38 = .ok (.return_, 1) := by decide +kernel
theorem dX4_placeOf_0 : decode cX4_placeOf 0 = .ok (.iconst 0, 1) := by decide +kernel
theorem dX4_placeOf_1 : decode cX4_placeOf 1 = .ok (.istore_n 2, 1) := by decide +kernel
theorem dX4_placeOf_2 : decode cX4_placeOf 2 = .ok (.iload_n 2, 1) := by decide +kernel
theorem dX4_placeOf_3 : decode cX4_placeOf 3 = .ok (.aload_n 0, 1) := by decide +kernel
theorem dX4_placeOf_4 : decode cX4_placeOf 4 = .ok (.getfield 22, 3) := by decide +kernel
theorem dX4_placeOf_7 : decode cX4_placeOf 7 = .ok (.if_icmp .ge 21, 3) := by decide +kernel
theorem dX4_placeOf_10 : decode cX4_placeOf 10 = .ok (.aload_n 0, 1) := by decide +kernel
theorem dX4_placeOf_11 : decode cX4_placeOf 11 = .ok (.getfield 11, 3) := by decide +kernel
theorem dX4_placeOf_14 : decode cX4_placeOf 14 = .ok (.iload_n 2, 1) := by decide +kernel
theorem dX4_placeOf_15 : decode cX4_placeOf 15 = .ok (.iaload, 1) := by decide +kernel
theorem dX4_placeOf_16 : decode cX4_placeOf 16 = .ok (.iload_n 1, 1) := by decide +kernel
theorem dX4_placeOf_17 : decode cX4_placeOf 17 = .ok (.if_icmp .ne 5, 3) := by decide +kernel
theorem dX4_placeOf_20 : decode cX4_placeOf 20 = .ok (.iload_n 2, 1) := by decide +kernel
theorem dX4_placeOf_21 : decode cX4_placeOf 21 = .ok (.ireturn, 1) := by decide +kernel
theorem dX4_placeOf_22 : decode cX4_placeOf 22 = .ok (.iinc 2 1, 3) := by decide +kernel
theorem dX4_placeOf_25 : decode cX4_placeOf 25 = .ok (.goto (-23), 3) := by decide +kernel
theorem dX4_placeOf_28 : decode cX4_placeOf 28 = .ok (.iconst (-1), 1) := by decide +kernel
theorem dX4_placeOf_29 : decode cX4_placeOf 29 = .ok (.ireturn, 1) := by decide +kernel
theorem dX4_positionOf_0 : decode cX4_positionOf 0 = .ok (.aload_n 0, 1) := by decide +kernel
theorem dX4_positionOf_1 : decode cX4_positionOf 1 = .ok (.iload_n 1, 1) := by decide +kernel
theorem dX4_positionOf_2 : decode cX4_positionOf 2 = .ok (.invokevirtual 29, 3) := by decide +kernel
theorem dX4_positionOf_5 : decode cX4_positionOf 5 = .ok (.istore_n 2, 1) := by decide +kernel
theorem dX4_positionOf_6 : decode cX4_positionOf 6 = .ok (.iload_n 2, 1) := by decide +kernel
theorem dX4_positionOf_7 : decode cX4_positionOf 7 = .ok (.iconst (-1), 1) := by decide +kernel
theorem dX4_positionOf_8 : decode cX4_positionOf 8 = .ok (.if_icmp .ne 7, 3) := by decide +kernel
theorem dX4_positionOf_11 : decode cX4_positionOf 11 = .ok (.iconst 0, 1) := by decide +kernel
theorem dX4_positionOf_12 : decode cX4_positionOf 12 = .ok (.goto 9, 3) := by decide +kernel
theorem dX4_positionOf_15 : decode cX4_positionOf 15 = .ok (.aload_n 0, 1) := by decide +kernel
theorem dX4_positionOf_16 : decode cX4_positionOf 16 = .ok (.getfield 15, 3) := by decide +kernel
theorem dX4_positionOf_19 : decode cX4_positionOf 19 = .ok (.iload_n 2, 1) := by decide +kernel
theorem dX4_positionOf_20 : decode cX4_positionOf 20 = .ok (.iaload, 1) := by decide +kernel
theorem dX4_positionOf_21 : decode cX4_positionOf 21 = .ok (.ireturn, 1) := by decide +kernel
theorem dX4_setPosition_0 : decode cX4_setPosition 0 = .ok (.aload_n 0, 1) := by decide +kernel
theorem dX4_setPosition_1 : decode cX4_setPosition 1 = .ok (.iload_n 1, 1) := by decide +kernel
theorem dX4_setPosition_2 : decode cX4_setPosition 2 = .ok (.invokevirtual 29, 3) := by decide +kernel
theorem dX4_setPosition_5 : decode cX4_setPosition 5 = .ok (.istore_n 3, 1) := by decide +kernel
theorem dX4_setPosition_6 : decode cX4_setPosition 6 = .ok (.iload_n 3, 1) := by decide +kernel
theorem dX4_setPosition_7 : decode cX4_setPosition 7 = .ok (.iconst (-1), 1) := by decide +kernel
theorem dX4_setPosition_8 : decode cX4_setPosition 8 = .ok (.if_icmp .eq 10, 3) := by decide +kernel
theorem dX4_setPosition_11 : decode cX4_setPosition 11 = .ok (.aload_n 0, 1) := by decide +kernel
theorem dX4_setPosition_12 : decode cX4_setPosition 12 = .ok (.getfield 15, 3) := by decide +kernel
theorem dX4_setPosition_15 : decode cX4_setPosition 15 = .ok (.iload_n 3, 1) := by decide +kernel
theorem dX4_setPosition_16 : decode cX4_setPosition 16 = .ok (.iload_n 2, 1) := by decide +kernel
theorem dX4_setPosition_17 : decode cX4_setPosition 17 = .ok (.iastore, 1) := by decide +kernel
theorem dX4_setPosition_18 : decode cX4_setPosition 18 = .ok (.return_, 1) := by decide +kernel
theorem dX4_add_0 : decode cX4_add 0 = .ok (.aload_n 0, 1) := by decide +kernel
theorem dX4_add_1 : decode cX4_add 1 = .ok (.getfield 26, 3) := by decide +kernel
theorem dX4_add_4 : decode cX4_add 4 = .ok (.istore_n 2, 1) := by decide +kernel
theorem dX4_add_5 : decode cX4_add 5 = .ok (.aload_n 0, 1) := by decide +kernel
theorem dX4_add_6 : decode cX4_add 6 = .ok (.dup, 1) := by decide +kernel
theorem dX4_add_7 : decode cX4_add 7 = .ok (.getfield 26, 3) := by decide +kernel
theorem dX4_add_10 : decode cX4_add 10 = .ok (.iconst 1, 1) := by decide +kernel
theorem dX4_add_11 : decode cX4_add 11 = .ok (.iadd, 1) := by decide +kernel
theorem dX4_add_12 : decode cX4_add 12 = .ok (.putfield 26, 3) := by decide +kernel
theorem dX4_add_15 : decode cX4_add 15 = .ok (.aload_n 0, 1) := by decide +kernel
theorem dX4_add_16 : decode cX4_add 16 = .ok (.iload_n 2, 1) := by decide +kernel
theorem dX4_add_17 : decode cX4_add 17 = .ok (.iload_n 1, 1) := by decide +kernel
theorem dX4_add_18 : decode cX4_add 18 = .ok (.invokevirtual 33, 3) := by decide +kernel
theorem dX4_add_21 : decode cX4_add 21 = .ok (.iload_n 2, 1) := by decide +kernel
theorem dX4_add_22 : decode cX4_add 22 = .ok (.ireturn, 1) := by decide +kernel
theorem dX4_append_0 : decode cX4_append 0 = .ok (.aload_n 0, 1) := by decide +kernel
theorem dX4_append_1 : decode cX4_append 1 = .ok (.getfield 22, 3) := by decide +kernel
theorem dX4_append_4 : decode cX4_append 4 = .ok (.bipush 6, 2) := by decide +kernel
theorem dX4_append_6 : decode cX4_append 6 = .ok (.if_icmp .ge 33, 3) := by decide +kernel
theorem dX4_append_9 : decode cX4_append 9 = .ok (.aload_n 0, 1) := by decide +kernel
theorem dX4_append_10 : decode cX4_append 10 = .ok (.getfield 11, 3) := by decide +kernel
theorem dX4_append_13 : decode cX4_append 13 = .ok (.aload_n 0, 1) := by decide +kernel
theorem dX4_append_14 : decode cX4_append 14 = .ok (.getfield 22, 3) := by decide +kernel
theorem dX4_append_17 : decode cX4_append 17 = .ok (.iload_n 1, 1) := by decide +kernel
theorem dX4_append_18 : decode cX4_append 18 = .ok (.iastore, 1) := by decide +kernel
theorem dX4_append_19 : decode cX4_append 19 = .ok (.aload_n 0, 1) := by decide +kernel
theorem dX4_append_20 : decode cX4_append 20 = .ok (.getfield 15, 3) := by decide +kernel
theorem dX4_append_23 : decode cX4_append 23 = .ok (.aload_n 0, 1) := by decide +kernel
theorem dX4_append_24 : decode cX4_append 24 = .ok (.getfield 22, 3) := by decide +kernel
theorem dX4_append_27 : decode cX4_append 27 = .ok (.iload_n 2, 1) := by decide +kernel
theorem dX4_append_28 : decode cX4_append 28 = .ok (.iastore, 1) := by decide +kernel
theorem dX4_append_29 : decode cX4_append 29 = .ok (.aload_n 0, 1) := by decide +kernel
theorem dX4_append_30 : decode cX4_append 30 = .ok (.dup, 1) := by decide +kernel
theorem dX4_append_31 : decode cX4_append 31 = .ok (.getfield 22, 3) := by decide +kernel
theorem dX4_append_34 : decode cX4_append 34 = .ok (.iconst 1, 1) := by decide +kernel
theorem dX4_append_35 : decode cX4_append 35 = .ok (.iadd, 1) := by decide +kernel
theorem dX4_append_36 : decode cX4_append 36 = .ok (.putfield 22, 3) := by decide +kernel
theorem dX4_append_39 : decode cX4_append 39 = .ok (.return_, 1) := by decide +kernel
theorem dX4_remove_0 : decode cX4_remove 0 = .ok (.aload_n 0, 1) := by decide +kernel
theorem dX4_remove_1 : decode cX4_remove 1 = .ok (.iload_n 1, 1) := by decide +kernel
theorem dX4_remove_2 : decode cX4_remove 2 = .ok (.invokevirtual 29, 3) := by decide +kernel
theorem dX4_remove_5 : decode cX4_remove 5 = .ok (.istore_n 2, 1) := by decide +kernel
theorem dX4_remove_6 : decode cX4_remove 6 = .ok (.iload_n 2, 1) := by decide +kernel
theorem dX4_remove_7 : decode cX4_remove 7 = .ok (.iconst (-1), 1) := by decide +kernel
theorem dX4_remove_8 : decode cX4_remove 8 = .ok (.if_icmp .ne 4, 3) := by decide +kernel
theorem dX4_remove_11 : decode cX4_remove 11 = .ok (.return_, 1) := by decide +kernel
theorem dX4_remove_12 : decode cX4_remove 12 = .ok (.iload_n 2, 1) := by decide +kernel
theorem dX4_remove_13 : decode cX4_remove 13 = .ok (.iconst 1, 1) := by decide +kernel
theorem dX4_remove_14 : decode cX4_remove 14 = .ok (.iadd, 1) := by decide +kernel
theorem dX4_remove_15 : decode cX4_remove 15 = .ok (.istore_n 3, 1) := by decide +kernel
theorem dX4_remove_16 : decode cX4_remove 16 = .ok (.iload_n 3, 1) := by decide +kernel
theorem dX4_remove_17 : decode cX4_remove 17 = .ok (.aload_n 0, 1) := by decide +kernel
theorem dX4_remove_18 : decode cX4_remove 18 = .ok (.getfield 22, 3) := by decide +kernel
theorem dX4_remove_21 : decode cX4_remove 21 = .ok (.if_icmp .ge 37, 3) := by decide +kernel
theorem dX4_remove_24 : decode cX4_remove 24 = .ok (.aload_n 0, 1) := by decide +kernel
theorem dX4_remove_25 : decode cX4_remove 25 = .ok (.getfield 11, 3) := by decide +kernel
theorem dX4_remove_28 : decode cX4_remove 28 = .ok (.iload_n 3, 1) := by decide +kernel
theorem dX4_remove_29 : decode cX4_remove 29 = .ok (.iconst 1, 1) := by decide +kernel
theorem dX4_remove_30 : decode cX4_remove 30 = .ok (.isub, 1) := by decide +kernel
theorem dX4_remove_31 : decode cX4_remove 31 = .ok (.aload_n 0, 1) := by decide +kernel
theorem dX4_remove_32 : decode cX4_remove 32 = .ok (.getfield 11, 3) := by decide +kernel
theorem dX4_remove_35 : decode cX4_remove 35 = .ok (.iload_n 3, 1) := by decide +kernel
theorem dX4_remove_36 : decode cX4_remove 36 = .ok (.iaload, 1) := by decide +kernel
theorem dX4_remove_37 : decode cX4_remove 37 = .ok (.iastore, 1) := by decide +kernel
theorem dX4_remove_38 : decode cX4_remove 38 = .ok (.aload_n 0, 1) := by decide +kernel
theorem dX4_remove_39 : decode cX4_remove 39 = .ok (.getfield 15, 3) := by decide +kernel
theorem dX4_remove_42 : decode cX4_remove 42 = .ok (.iload_n 3, 1) := by decide +kernel
theorem dX4_remove_43 : decode cX4_remove 43 = .ok (.iconst 1, 1) := by decide +kernel
theorem dX4_remove_44 : decode cX4_remove 44 = .ok (.isub, 1) := by decide +kernel
theorem dX4_remove_45 : decode cX4_remove 45 = .ok (.aload_n 0, 1) := by decide +kernel
theorem dX4_remove_46 : decode cX4_remove 46 = .ok (.getfield 15, 3) := by decide +kernel
theorem dX4_remove_49 : decode cX4_remove 49 = .ok (.iload_n 3, 1) := by decide +kernel
theorem dX4_remove_50 : decode cX4_remove 50 = .ok (.iaload, 1) := by decide +kernel
theorem dX4_remove_51 : decode cX4_remove 51 = .ok (.iastore, 1) := by decide +kernel
theorem dX4_remove_52 : decode cX4_remove 52 = .ok (.iinc 3 1, 3) := by decide +kernel
theorem dX4_remove_55 : decode cX4_remove 55 = .ok (.goto (-39), 3) := by decide +kernel
theorem dX4_remove_58 : decode cX4_remove 58 = .ok (.aload_n 0, 1) := by decide +kernel
theorem dX4_remove_59 : decode cX4_remove 59 = .ok (.dup, 1) := by decide +kernel
theorem dX4_remove_60 : decode cX4_remove 60 = .ok (.getfield 22, 3) := by decide +kernel
theorem dX4_remove_63 : decode cX4_remove 63 = .ok (.iconst 1, 1) := by decide +kernel
theorem dX4_remove_64 : decode cX4_remove 64 = .ok (.isub, 1) := by decide +kernel
theorem dX4_remove_65 : decode cX4_remove 65 = .ok (.putfield 22, 3) := by decide +kernel
theorem dX4_remove_68 : decode cX4_remove 68 = .ok (.return_, 1) := by decide +kernel
theorem dX4_moveToEnd_0 : decode cX4_moveToEnd 0 = .ok (.aload_n 0, 1) := by decide +kernel
theorem dX4_moveToEnd_1 : decode cX4_moveToEnd 1 = .ok (.iload_n 1, 1) := by decide +kernel
theorem dX4_moveToEnd_2 : decode cX4_moveToEnd 2 = .ok (.invokevirtual 29, 3) := by decide +kernel
theorem dX4_moveToEnd_5 : decode cX4_moveToEnd 5 = .ok (.iconst (-1), 1) := by decide +kernel
theorem dX4_moveToEnd_6 : decode cX4_moveToEnd 6 = .ok (.if_icmp .eq 20, 3) := by decide +kernel
theorem dX4_moveToEnd_9 : decode cX4_moveToEnd 9 = .ok (.aload_n 0, 1) := by decide +kernel
theorem dX4_moveToEnd_10 : decode cX4_moveToEnd 10 = .ok (.iload_n 1, 1) := by decide +kernel
theorem dX4_moveToEnd_11 : decode cX4_moveToEnd 11 = .ok (.invokevirtual 37, 3) := by decide +kernel
theorem dX4_moveToEnd_14 : decode cX4_moveToEnd 14 = .ok (.istore_n 2, 1) := by decide +kernel
theorem dX4_moveToEnd_15 : decode cX4_moveToEnd 15 = .ok (.aload_n 0, 1) := by decide +kernel
theorem dX4_moveToEnd_16 : decode cX4_moveToEnd 16 = .ok (.iload_n 1, 1) := by decide +kernel
theorem dX4_moveToEnd_17 : decode cX4_moveToEnd 17 = .ok (.invokevirtual 40, 3) := by decide +kernel
theorem dX4_moveToEnd_20 : decode cX4_moveToEnd 20 = .ok (.aload_n 0, 1) := by decide +kernel
theorem dX4_moveToEnd_21 : decode cX4_moveToEnd 21 = .ok (.iload_n 1, 1) := by decide +kernel
theorem dX4_moveToEnd_22 : decode cX4_moveToEnd 22 = .ok (.iload_n 2, 1) := by decide +kernel
theorem dX4_moveToEnd_23 : decode cX4_moveToEnd 23 = .ok (.invokevirtual 33, 3) := by decide +kernel
theorem dX4_moveToEnd_26 : decode cX4_moveToEnd 26 = .ok (.return_, 1) := by decide +kernel
theorem dX5_init_0 : decode cX5_init 0 = .ok (.aload_n 0, 1) := by decide +kernel
theorem dX5_init_1 : decode cX5_init 1 = .ok (.invokespecial 3, 3) := by decide +kernel
theorem dX5_init_4 : decode cX5_init 4 = .ok (.aload_n 0, 1) := by decide +kernel
theorem dX5_init_5 : decode cX5_init 5 = .ok (.bipush 36, 2) := by decide +kernel
theorem dX5_init_7 : decode cX5_init 7 = .ok (.newarray .int, 2) := by decide +kernel
theorem dX5_init_9 : decode cX5_init 9 = .ok (.putfield 11, 3) := by decide +kernel
theorem dX5_init_12 : decode cX5_init 12 = .ok (.aload_n 0, 1) := by decide +kernel
theorem dX5_init_13 : decode cX5_init 13 = .ok (.bipush 64, 2) := by decide +kernel
theorem dX5_init_15 : decode cX5_init 15 = .ok (.newarray .int, 2) := by decide +kernel
theorem dX5_init_17 : decode cX5_init 17 = .ok (.putfield 17, 3) := by decide +kernel
theorem dX5_init_20 : decode cX5_init 20 = .ok (.return_, 1) := by decide +kernel
theorem dX5_isIn_0 : decode cX5_isIn 0 = .ok (.iload_n 1, 1) := by decide +kernel
theorem dX5_isIn_1 : decode cX5_isIn 1 = .ok (.iload_n 0, 1) := by decide +kernel
theorem dX5_isIn_2 : decode cX5_isIn 2 = .ok (.ishr, 1) := by decide +kernel
theorem dX5_isIn_3 : decode cX5_isIn 3 = .ok (.iconst 1, 1) := by decide +kernel
theorem dX5_isIn_4 : decode cX5_isIn 4 = .ok (.iand, 1) := by decide +kernel
theorem dX5_isIn_5 : decode cX5_isIn 5 = .ok (.ifCond .eq 7, 3) := by decide +kernel
theorem dX5_isIn_8 : decode cX5_isIn 8 = .ok (.iconst 1, 1) := by decide +kernel
theorem dX5_isIn_9 : decode cX5_isIn 9 = .ok (.goto 4, 3) := by decide +kernel
theorem dX5_isIn_12 : decode cX5_isIn 12 = .ok (.iconst 0, 1) := by decide +kernel
theorem dX5_isIn_13 : decode cX5_isIn 13 = .ok (.ireturn, 1) := by decide +kernel
theorem dX5_survey_0 : decode cX5_survey 0 = .ok (.aload_n 1, 1) := by decide +kernel
theorem dX5_survey_1 : decode cX5_survey 1 = .ok (.getfield 20, 3) := by decide +kernel
theorem dX5_survey_4 : decode cX5_survey 4 = .ok (.astore_n 2, 1) := by decide +kernel
theorem dX5_survey_5 : decode cX5_survey 5 = .ok (.aload_n 0, 1) := by decide +kernel
theorem dX5_survey_6 : decode cX5_survey 6 = .ok (.aload_n 2, 1) := by decide +kernel
theorem dX5_survey_7 : decode cX5_survey 7 = .ok (.getfield 26, 3) := by decide +kernel
theorem dX5_survey_10 : decode cX5_survey 10 = .ok (.bipush 6, 2) := by decide +kernel
theorem dX5_survey_12 : decode cX5_survey 12 = .ok (.invokestatic 30, 3) := by decide +kernel
theorem dX5_survey_15 : decode cX5_survey 15 = .ok (.putfield 36, 3) := by decide +kernel
theorem dX5_survey_18 : decode cX5_survey 18 = .ok (.iconst 0, 1) := by decide +kernel
theorem dX5_survey_19 : decode cX5_survey 19 = .ok (.istore_n 3, 1) := by decide +kernel
theorem dX5_survey_20 : decode cX5_survey 20 = .ok (.iload_n 3, 1) := by decide +kernel
theorem dX5_survey_21 : decode cX5_survey 21 = .ok (.aload_n 0, 1) := by decide +kernel
theorem dX5_survey_22 : decode cX5_survey 22 = .ok (.getfield 36, 3) := by decide +kernel
theorem dX5_survey_25 : decode cX5_survey 25 = .ok (.if_icmp .ge 59, 3) := by decide +kernel
theorem dX5_survey_28 : decode cX5_survey 28 = .ok (.iconst 0, 1) := by decide +kernel
theorem dX5_survey_29 : decode cX5_survey 29 = .ok (.istore 4, 2) := by decide +kernel
theorem dX5_survey_31 : decode cX5_survey 31 = .ok (.iload 4, 2) := by decide +kernel
theorem dX5_survey_33 : decode cX5_survey 33 = .ok (.aload_n 0, 1) := by decide +kernel
theorem dX5_survey_34 : decode cX5_survey 34 = .ok (.getfield 36, 3) := by decide +kernel
theorem dX5_survey_37 : decode cX5_survey 37 = .ok (.if_icmp .ge 41, 3) := by decide +kernel
theorem dX5_survey_40 : decode cX5_survey 40 = .ok (.aload_n 0, 1) := by decide +kernel
theorem dX5_survey_41 : decode cX5_survey 41 = .ok (.getfield 11, 3) := by decide +kernel
theorem dX5_survey_44 : decode cX5_survey 44 = .ok (.iload_n 3, 1) := by decide +kernel
theorem dX5_survey_45 : decode cX5_survey 45 = .ok (.bipush 6, 2) := by decide +kernel
theorem dX5_survey_47 : decode cX5_survey 47 = .ok (.imul, 1) := by decide +kernel
theorem dX5_survey_48 : decode cX5_survey 48 = .ok (.iload 4, 2) := by decide +kernel
theorem dX5_survey_50 : decode cX5_survey 50 = .ok (.iadd, 1) := by decide +kernel
theorem dX5_survey_51 : decode cX5_survey 51 = .ok (.aload_n 1, 1) := by decide +kernel
theorem dX5_survey_52 : decode cX5_survey 52 = .ok (.getfield 37, 3) := by decide +kernel
theorem dX5_survey_55 : decode cX5_survey 55 = .ok (.aload_n 2, 1) := by decide +kernel
theorem dX5_survey_56 : decode cX5_survey 56 = .ok (.getfield 41, 3) := by decide +kernel
theorem dX5_survey_59 : decode cX5_survey 59 = .ok (.iload_n 3, 1) := by decide +kernel
theorem dX5_survey_60 : decode cX5_survey 60 = .ok (.iaload, 1) := by decide +kernel
theorem dX5_survey_61 : decode cX5_survey 61 = .ok (.aload_n 2, 1) := by decide +kernel
theorem dX5_survey_62 : decode cX5_survey 62 = .ok (.getfield 41, 3) := by decide +kernel
theorem dX5_survey_65 : decode cX5_survey 65 = .ok (.iload 4, 2) := by decide +kernel
theorem dX5_survey_67 : decode cX5_survey 67 = .ok (.iaload, 1) := by decide +kernel
theorem dX5_survey_68 : decode cX5_survey 68 = .ok (.invokevirtual 44, 3) := by decide +kernel
theorem dX5_survey_71 : decode cX5_survey 71 = .ok (.iastore, 1) := by decide +kernel
theorem dX5_survey_72 : decode cX5_survey 72 = .ok (.iinc 4 1, 3) := by decide +kernel
theorem dX5_survey_75 : decode cX5_survey 75 = .ok (.goto (-44), 3) := by decide +kernel
theorem dX5_survey_78 : decode cX5_survey 78 = .ok (.iinc 3 1, 3) := by decide +kernel
theorem dX5_survey_81 : decode cX5_survey 81 = .ok (.goto (-61), 3) := by decide +kernel
theorem dX5_survey_84 : decode cX5_survey 84 = .ok (.return_, 1) := by decide +kernel
theorem dX5_allPlaces_0 : decode cX5_allPlaces 0 = .ok (.iconst 1, 1) := by decide +kernel
theorem dX5_allPlaces_1 : decode cX5_allPlaces 1 = .ok (.aload_n 0, 1) := by decide +kernel
theorem dX5_allPlaces_2 : decode cX5_allPlaces 2 = .ok (.getfield 36, 3) := by decide +kernel
theorem dX5_allPlaces_5 : decode cX5_allPlaces 5 = .ok (.ishl, 1) := by decide +kernel
theorem dX5_allPlaces_6 : decode cX5_allPlaces 6 = .ok (.iconst 1, 1) := by decide +kernel
theorem dX5_allPlaces_7 : decode cX5_allPlaces 7 = .ok (.isub, 1) := by decide +kernel
theorem dX5_allPlaces_8 : decode cX5_allPlaces 8 = .ok (.ireturn, 1) := by decide +kernel
theorem dX5_disagreements_0 : decode cX5_disagreements 0 = .ok (.iconst 0, 1) := by decide +kernel
theorem dX5_disagreements_1 : decode cX5_disagreements 1 = .ok (.istore_n 3, 1) := by decide +kernel
theorem dX5_disagreements_2 : decode cX5_disagreements 2 = .ok (.iconst 0, 1) := by decide +kernel
theorem dX5_disagreements_3 : decode cX5_disagreements 3 = .ok (.istore 4, 2) := by decide +kernel
theorem dX5_disagreements_5 : decode cX5_disagreements 5 = .ok (.iload 4, 2) := by decide +kernel
theorem dX5_disagreements_7 : decode cX5_disagreements 7 = .ok (.bipush 6, 2) := by decide +kernel
theorem dX5_disagreements_9 : decode cX5_disagreements 9 = .ok (.if_icmp .ge 46, 3) := by decide +kernel
theorem dX5_disagreements_12 : decode cX5_disagreements 12 = .ok (.iload 4, 2) := by decide +kernel
theorem dX5_disagreements_14 : decode cX5_disagreements 14 = .ok (.bipush 6, 2) := by decide +kernel
theorem dX5_disagreements_16 : decode cX5_disagreements 16 = .ok (.imul, 1) := by decide +kernel
theorem dX5_disagreements_17 : decode cX5_disagreements 17 = .ok (.iload_n 1, 1) := by decide +kernel
theorem dX5_disagreements_18 : decode cX5_disagreements 18 = .ok (.iadd, 1) := by decide +kernel
theorem dX5_disagreements_19 : decode cX5_disagreements 19 = .ok (.istore 5, 2) := by decide +kernel
theorem dX5_disagreements_21 : decode cX5_disagreements 21 = .ok (.iload 4, 2) := by decide +kernel
theorem dX5_disagreements_23 : decode cX5_disagreements 23 = .ok (.iload_n 2, 1) := by decide +kernel
theorem dX5_disagreements_24 : decode cX5_disagreements 24 = .ok (.invokestatic 49, 3) := by decide +kernel
theorem dX5_disagreements_27 : decode cX5_disagreements 27 = .ok (.ifCond .eq 22, 3) := by decide +kernel
theorem dX5_disagreements_30 : decode cX5_disagreements 30 = .ok (.iload 5, 2) := by decide +kernel
theorem dX5_disagreements_32 : decode cX5_disagreements 32 = .ok (.ifCond .lt 17, 3) := by decide +kernel
theorem dX5_disagreements_35 : decode cX5_disagreements 35 = .ok (.iload 5, 2) := by decide +kernel
theorem dX5_disagreements_37 : decode cX5_disagreements 37 = .ok (.aload_n 0, 1) := by decide +kernel
theorem dX5_disagreements_38 : decode cX5_disagreements 38 = .ok (.arraylength, 1) := by decide +kernel
theorem dX5_disagreements_39 : decode cX5_disagreements 39 = .ok (.if_icmp .ge 10, 3) := by decide +kernel
theorem dX5_disagreements_42 : decode cX5_disagreements 42 = .ok (.iload_n 3, 1) := by decide +kernel
theorem dX5_disagreements_43 : decode cX5_disagreements 43 = .ok (.aload_n 0, 1) := by decide +kernel
theorem dX5_disagreements_44 : decode cX5_disagreements 44 = .ok (.iload 5, 2) := by decide +kernel
theorem dX5_disagreements_46 : decode cX5_disagreements 46 = .ok (.iaload, 1) := by decide +kernel
theorem dX5_disagreements_47 : decode cX5_disagreements 47 = .ok (.iadd, 1) := by decide +kernel
theorem dX5_disagreements_48 : decode cX5_disagreements 48 = .ok (.istore_n 3, 1) := by decide +kernel
theorem dX5_disagreements_49 : decode cX5_disagreements 49 = .ok (.iinc 4 1, 3) := by decide +kernel
theorem dX5_disagreements_52 : decode cX5_disagreements 52 = .ok (.goto (-47), 3) := by decide +kernel
theorem dX5_disagreements_55 : decode cX5_disagreements 55 = .ok (.iload_n 3, 1) := by decide +kernel
theorem dX5_disagreements_56 : decode cX5_disagreements 56 = .ok (.ireturn, 1) := by decide +kernel
theorem dX5_fewestByTable_0 : decode cX5_fewestByTable 0 = .ok (.iconst 0, 1) := by decide +kernel
theorem dX5_fewestByTable_1 : decode cX5_fewestByTable 1 = .ok (.istore_n 1, 1) := by decide +kernel
theorem dX5_fewestByTable_2 : decode cX5_fewestByTable 2 = .ok (.iload_n 1, 1) := by decide +kernel
theorem dX5_fewestByTable_3 : decode cX5_fewestByTable 3 = .ok (.aload_n 0, 1) := by decide +kernel
theorem dX5_fewestByTable_4 : decode cX5_fewestByTable 4 = .ok (.invokevirtual 53, 3) := by decide +kernel
theorem dX5_fewestByTable_7 : decode cX5_fewestByTable 7 = .ok (.if_icmp .gt 37, 3) := by decide +kernel
theorem dX5_fewestByTable_10 : decode cX5_fewestByTable 10 = .ok (.iload_n 1, 1) := by decide +kernel
theorem dX5_fewestByTable_11 : decode cX5_fewestByTable 11 = .ok (.aload_n 0, 1) := by decide +kernel
theorem dX5_fewestByTable_12 : decode cX5_fewestByTable 12 = .ok (.getfield 17, 3) := by decide +kernel
theorem dX5_fewestByTable_15 : decode cX5_fewestByTable 15 = .ok (.arraylength, 1) := by decide +kernel
theorem dX5_fewestByTable_16 : decode cX5_fewestByTable 16 = .ok (.if_icmp .ge 28, 3) := by decide +kernel
theorem dX5_fewestByTable_19 : decode cX5_fewestByTable 19 = .ok (.aload_n 0, 1) := by decide +kernel
theorem dX5_fewestByTable_20 : decode cX5_fewestByTable 20 = .ok (.getfield 17, 3) := by decide +kernel
theorem dX5_fewestByTable_23 : decode cX5_fewestByTable 23 = .ok (.iload_n 1, 1) := by decide +kernel
theorem dX5_fewestByTable_24 : decode cX5_fewestByTable 24 = .ok (.iload_n 1, 1) := by decide +kernel
theorem dX5_fewestByTable_25 : decode cX5_fewestByTable 25 = .ok (.ifCond .ne 7, 3) := by decide +kernel
theorem dX5_fewestByTable_28 : decode cX5_fewestByTable 28 = .ok (.iconst 0, 1) := by decide +kernel
theorem dX5_fewestByTable_29 : decode cX5_fewestByTable 29 = .ok (.goto 8, 3) := by decide +kernel
theorem dX5_fewestByTable_32 : decode cX5_fewestByTable 32 = .ok (.aload_n 0, 1) := by decide +kernel
theorem dX5_fewestByTable_33 : decode cX5_fewestByTable 33 = .ok (.iload_n 1, 1) := by decide +kernel
theorem dX5_fewestByTable_34 : decode cX5_fewestByTable 34 = .ok (.invokevirtual 57, 3) := by decide +kernel
theorem dX5_fewestByTable_37 : decode cX5_fewestByTable 37 = .ok (.iastore, 1) := by decide +kernel
theorem dX5_fewestByTable_38 : decode cX5_fewestByTable 38 = .ok (.iinc 1 1, 3) := by decide +kernel
theorem dX5_fewestByTable_41 : decode cX5_fewestByTable 41 = .ok (.goto (-39), 3) := by decide +kernel
theorem dX5_fewestByTable_44 : decode cX5_fewestByTable 44 = .ok (.aload_n 0, 1) := by decide +kernel
theorem dX5_fewestByTable_45 : decode cX5_fewestByTable 45 = .ok (.getfield 17, 3) := by decide +kernel
theorem dX5_fewestByTable_48 : decode cX5_fewestByTable 48 = .ok (.aload_n 0, 1) := by decide +kernel
theorem dX5_fewestByTable_49 : decode cX5_fewestByTable 49 = .ok (.invokevirtual 53, 3) := by decide +kernel
theorem dX5_fewestByTable_52 : decode cX5_fewestByTable 52 = .ok (.iaload, 1) := by decide +kernel
theorem dX5_fewestByTable_53 : decode cX5_fewestByTable 53 = .ok (.ireturn, 1) := by decide +kernel
theorem dX5_fewestOf_0 : decode cX5_fewestOf 0 = .ok (.ldc 61, 2) := by decide +kernel
theorem dX5_fewestOf_2 : decode cX5_fewestOf 2 = .ok (.istore_n 2, 1) := by decide +kernel
theorem dX5_fewestOf_3 : decode cX5_fewestOf 3 = .ok (.iconst 0, 1) := by decide +kernel
theorem dX5_fewestOf_4 : decode cX5_fewestOf 4 = .ok (.istore_n 3, 1) := by decide +kernel
theorem dX5_fewestOf_5 : decode cX5_fewestOf 5 = .ok (.iload_n 3, 1) := by decide +kernel
theorem dX5_fewestOf_6 : decode cX5_fewestOf 6 = .ok (.aload_n 0, 1) := by decide +kernel
theorem dX5_fewestOf_7 : decode cX5_fewestOf 7 = .ok (.getfield 36, 3) := by decide +kernel
theorem dX5_fewestOf_10 : decode cX5_fewestOf 10 = .ok (.if_icmp .ge 28, 3) := by decide +kernel
theorem dX5_fewestOf_13 : decode cX5_fewestOf 13 = .ok (.iload_n 3, 1) := by decide +kernel
theorem dX5_fewestOf_14 : decode cX5_fewestOf 14 = .ok (.iload_n 1, 1) := by decide +kernel
theorem dX5_fewestOf_15 : decode cX5_fewestOf 15 = .ok (.invokestatic 49, 3) := by decide +kernel
theorem dX5_fewestOf_18 : decode cX5_fewestOf 18 = .ok (.ifCond .eq 14, 3) := by decide +kernel
theorem dX5_fewestOf_21 : decode cX5_fewestOf 21 = .ok (.iload_n 2, 1) := by decide +kernel
theorem dX5_fewestOf_22 : decode cX5_fewestOf 22 = .ok (.aload_n 0, 1) := by decide +kernel
theorem dX5_fewestOf_23 : decode cX5_fewestOf 23 = .ok (.iload_n 3, 1) := by decide +kernel
theorem dX5_fewestOf_24 : decode cX5_fewestOf 24 = .ok (.iload_n 1, 1) := by decide +kernel
theorem dX5_fewestOf_25 : decode cX5_fewestOf 25 = .ok (.invokevirtual 62, 3) := by decide +kernel
theorem dX5_fewestOf_28 : decode cX5_fewestOf 28 = .ok (.invokestatic 30, 3) := by decide +kernel
theorem dX5_fewestOf_31 : decode cX5_fewestOf 31 = .ok (.istore_n 2, 1) := by decide +kernel
theorem dX5_fewestOf_32 : decode cX5_fewestOf 32 = .ok (.iinc 3 1, 3) := by decide +kernel
theorem dX5_fewestOf_35 : decode cX5_fewestOf 35 = .ok (.goto (-30), 3) := by decide +kernel
theorem dX5_fewestOf_38 : decode cX5_fewestOf 38 = .ok (.iload_n 2, 1) := by decide +kernel
theorem dX5_fewestOf_39 : decode cX5_fewestOf 39 = .ok (.ireturn, 1) := by decide +kernel
theorem dX5_fewestWithFirst_0 : decode cX5_fewestWithFirst 0 = .ok (.iload_n 2, 1) := by decide +kernel
theorem dX5_fewestWithFirst_1 : decode cX5_fewestWithFirst 1 = .ok (.iconst 1, 1) := by decide +kernel
theorem dX5_fewestWithFirst_2 : decode cX5_fewestWithFirst 2 = .ok (.iload_n 1, 1) := by decide +kernel
theorem dX5_fewestWithFirst_3 : decode cX5_fewestWithFirst 3 = .ok (.ishl, 1) := by decide +kernel
theorem dX5_fewestWithFirst_4 : decode cX5_fewestWithFirst 4 = .ok (.iconst (-1), 1) := by decide +kernel
theorem dX5_fewestWithFirst_5 : decode cX5_fewestWithFirst 5 = .ok (.ixor, 1) := by decide +kernel
theorem dX5_fewestWithFirst_6 : decode cX5_fewestWithFirst 6 = .ok (.iand, 1) := by decide +kernel
theorem dX5_fewestWithFirst_7 : decode cX5_fewestWithFirst 7 = .ok (.istore_n 3, 1) := by decide +kernel
theorem dX5_fewestWithFirst_8 : decode cX5_fewestWithFirst 8 = .ok (.iload_n 3, 1) := by decide +kernel
theorem dX5_fewestWithFirst_9 : decode cX5_fewestWithFirst 9 = .ok (.ifCond .lt 12, 3) := by decide +kernel
theorem dX5_fewestWithFirst_12 : decode cX5_fewestWithFirst 12 = .ok (.iload_n 3, 1) := by decide +kernel
theorem dX5_fewestWithFirst_13 : decode cX5_fewestWithFirst 13 = .ok (.aload_n 0, 1) := by decide +kernel
theorem dX5_fewestWithFirst_14 : decode cX5_fewestWithFirst 14 = .ok (.getfield 17, 3) := by decide +kernel
theorem dX5_fewestWithFirst_17 : decode cX5_fewestWithFirst 17 = .ok (.arraylength, 1) := by decide +kernel
theorem dX5_fewestWithFirst_18 : decode cX5_fewestWithFirst 18 = .ok (.if_icmp .lt 6, 3) := by decide +kernel
theorem dX5_fewestWithFirst_21 : decode cX5_fewestWithFirst 21 = .ok (.ldc 61, 2) := by decide +kernel
theorem dX5_fewestWithFirst_23 : decode cX5_fewestWithFirst 23 = .ok (.ireturn, 1) := by decide +kernel
theorem dX5_fewestWithFirst_24 : decode cX5_fewestWithFirst 24 = .ok (.aload_n 0, 1) := by decide +kernel
theorem dX5_fewestWithFirst_25 : decode cX5_fewestWithFirst 25 = .ok (.getfield 17, 3) := by decide +kernel
theorem dX5_fewestWithFirst_28 : decode cX5_fewestWithFirst 28 = .ok (.iload_n 3, 1) := by decide +kernel
theorem dX5_fewestWithFirst_29 : decode cX5_fewestWithFirst 29 = .ok (.iaload, 1) := by decide +kernel
theorem dX5_fewestWithFirst_30 : decode cX5_fewestWithFirst 30 = .ok (.aload_n 0, 1) := by decide +kernel
theorem dX5_fewestWithFirst_31 : decode cX5_fewestWithFirst 31 = .ok (.getfield 11, 3) := by decide +kernel
theorem dX5_fewestWithFirst_34 : decode cX5_fewestWithFirst 34 = .ok (.iload_n 1, 1) := by decide +kernel
theorem dX5_fewestWithFirst_35 : decode cX5_fewestWithFirst 35 = .ok (.iload_n 3, 1) := by decide +kernel
theorem dX5_fewestWithFirst_36 : decode cX5_fewestWithFirst 36 = .ok (.invokestatic 65, 3) := by decide +kernel
theorem dX5_fewestWithFirst_39 : decode cX5_fewestWithFirst 39 = .ok (.iadd, 1) := by decide +kernel
theorem dX5_fewestWithFirst_40 : decode cX5_fewestWithFirst 40 = .ok (.ireturn, 1) := by decide +kernel
theorem dX5_idInBestOrder_0 : decode cX5_idInBestOrder 0 = .ok (.aload_n 0, 1) := by decide +kernel
theorem dX5_idInBestOrder_1 : decode cX5_idInBestOrder 1 = .ok (.invokevirtual 69, 3) := by decide +kernel
theorem dX5_idInBestOrder_4 : decode cX5_idInBestOrder 4 = .ok (.pop, 1) := by decide +kernel
theorem dX5_idInBestOrder_5 : decode cX5_idInBestOrder 5 = .ok (.aload_n 0, 1) := by decide +kernel
theorem dX5_idInBestOrder_6 : decode cX5_idInBestOrder 6 = .ok (.invokevirtual 53, 3) := by decide +kernel
theorem dX5_idInBestOrder_9 : decode cX5_idInBestOrder 9 = .ok (.istore_n 3, 1) := by decide +kernel
theorem dX5_idInBestOrder_10 : decode cX5_idInBestOrder 10 = .ok (.iconst (-1), 1) := by decide +kernel
theorem dX5_idInBestOrder_11 : decode cX5_idInBestOrder 11 = .ok (.istore 4, 2) := by decide +kernel
theorem dX5_idInBestOrder_13 : decode cX5_idInBestOrder 13 = .ok (.iconst 0, 1) := by decide +kernel
theorem dX5_idInBestOrder_14 : decode cX5_idInBestOrder 14 = .ok (.istore 5, 2) := by decide +kernel
theorem dX5_idInBestOrder_16 : decode cX5_idInBestOrder 16 = .ok (.iload 5, 2) := by decide +kernel
theorem dX5_idInBestOrder_18 : decode cX5_idInBestOrder 18 = .ok (.iload_n 1, 1) := by decide +kernel
theorem dX5_idInBestOrder_19 : decode cX5_idInBestOrder 19 = .ok (.if_icmp .gt 52, 3) := by decide +kernel
theorem dX5_idInBestOrder_22 : decode cX5_idInBestOrder 22 = .ok (.iload 5, 2) := by decide +kernel
theorem dX5_idInBestOrder_24 : decode cX5_idInBestOrder 24 = .ok (.aload_n 0, 1) := by decide +kernel
theorem dX5_idInBestOrder_25 : decode cX5_idInBestOrder 25 = .ok (.getfield 36, 3) := by decide +kernel
theorem dX5_idInBestOrder_28 : decode cX5_idInBestOrder 28 = .ok (.if_icmp .ge 43, 3) := by decide +kernel
theorem dX5_idInBestOrder_31 : decode cX5_idInBestOrder 31 = .ok (.aload_n 0, 1) := by decide +kernel
theorem dX5_idInBestOrder_32 : decode cX5_idInBestOrder 32 = .ok (.iload_n 3, 1) := by decide +kernel
theorem dX5_idInBestOrder_33 : decode cX5_idInBestOrder 33 = .ok (.aload_n 2, 1) := by decide +kernel
theorem dX5_idInBestOrder_34 : decode cX5_idInBestOrder 34 = .ok (.invokevirtual 72, 3) := by decide +kernel
theorem dX5_idInBestOrder_37 : decode cX5_idInBestOrder 37 = .ok (.istore 6, 2) := by decide +kernel
theorem dX5_idInBestOrder_39 : decode cX5_idInBestOrder 39 = .ok (.iload 6, 2) := by decide +kernel
theorem dX5_idInBestOrder_41 : decode cX5_idInBestOrder 41 = .ok (.iconst (-1), 1) := by decide +kernel
theorem dX5_idInBestOrder_42 : decode cX5_idInBestOrder 42 = .ok (.if_icmp .ne 5, 3) := by decide +kernel
theorem dX5_idInBestOrder_45 : decode cX5_idInBestOrder 45 = .ok (.iconst (-1), 1) := by decide +kernel
theorem dX5_idInBestOrder_46 : decode cX5_idInBestOrder 46 = .ok (.ireturn, 1) := by decide +kernel
theorem dX5_idInBestOrder_47 : decode cX5_idInBestOrder 47 = .ok (.aload_n 2, 1) := by decide +kernel
theorem dX5_idInBestOrder_48 : decode cX5_idInBestOrder 48 = .ok (.getfield 76, 3) := by decide +kernel
theorem dX5_idInBestOrder_51 : decode cX5_idInBestOrder 51 = .ok (.iload 6, 2) := by decide +kernel
theorem dX5_idInBestOrder_53 : decode cX5_idInBestOrder 53 = .ok (.iaload, 1) := by decide +kernel
theorem dX5_idInBestOrder_54 : decode cX5_idInBestOrder 54 = .ok (.istore 4, 2) := by decide +kernel
theorem dX5_idInBestOrder_56 : decode cX5_idInBestOrder 56 = .ok (.iload_n 3, 1) := by decide +kernel
theorem dX5_idInBestOrder_57 : decode cX5_idInBestOrder 57 = .ok (.iconst 1, 1) := by decide +kernel
theorem dX5_idInBestOrder_58 : decode cX5_idInBestOrder 58 = .ok (.iload 6, 2) := by decide +kernel
theorem dX5_idInBestOrder_60 : decode cX5_idInBestOrder 60 = .ok (.ishl, 1) := by decide +kernel
theorem dX5_idInBestOrder_61 : decode cX5_idInBestOrder 61 = .ok (.iconst (-1), 1) := by decide +kernel
theorem dX5_idInBestOrder_62 : decode cX5_idInBestOrder 62 = .ok (.ixor, 1) := by decide +kernel
theorem dX5_idInBestOrder_63 : decode cX5_idInBestOrder 63 = .ok (.iand, 1) := by decide +kernel
theorem dX5_idInBestOrder_64 : decode cX5_idInBestOrder 64 = .ok (.istore_n 3, 1) := by decide +kernel
theorem dX5_idInBestOrder_65 : decode cX5_idInBestOrder 65 = .ok (.iinc 5 1, 3) := by decide +kernel
theorem dX5_idInBestOrder_68 : decode cX5_idInBestOrder 68 = .ok (.goto (-52), 3) := by decide +kernel
theorem dX5_idInBestOrder_71 : decode cX5_idInBestOrder 71 = .ok (.iload 4, 2) := by decide +kernel
theorem dX5_idInBestOrder_73 : decode cX5_idInBestOrder 73 = .ok (.ireturn, 1) := by decide +kernel
theorem dX5_bestFirst_0 : decode cX5_bestFirst 0 = .ok (.iconst (-1), 1) := by decide +kernel
theorem dX5_bestFirst_1 : decode cX5_bestFirst 1 = .ok (.istore_n 3, 1) := by decide +kernel
theorem dX5_bestFirst_2 : decode cX5_bestFirst 2 = .ok (.iconst 0, 1) := by decide +kernel
theorem dX5_bestFirst_3 : decode cX5_bestFirst 3 = .ok (.istore 4, 2) := by decide +kernel
theorem dX5_bestFirst_5 : decode cX5_bestFirst 5 = .ok (.iload 4, 2) := by decide +kernel
theorem dX5_bestFirst_7 : decode cX5_bestFirst 7 = .ok (.aload_n 0, 1) := by decide +kernel
theorem dX5_bestFirst_8 : decode cX5_bestFirst 8 = .ok (.getfield 36, 3) := by decide +kernel
theorem dX5_bestFirst_11 : decode cX5_bestFirst 11 = .ok (.if_icmp .ge 58, 3) := by decide +kernel
theorem dX5_bestFirst_14 : decode cX5_bestFirst 14 = .ok (.iload 4, 2) := by decide +kernel
theorem dX5_bestFirst_16 : decode cX5_bestFirst 16 = .ok (.iload_n 1, 1) := by decide +kernel
theorem dX5_bestFirst_17 : decode cX5_bestFirst 17 = .ok (.invokestatic 49, 3) := by decide +kernel
theorem dX5_bestFirst_20 : decode cX5_bestFirst 20 = .ok (.ifCond .eq 43, 3) := by decide +kernel
theorem dX5_bestFirst_23 : decode cX5_bestFirst 23 = .ok (.aload_n 0, 1) := by decide +kernel
theorem dX5_bestFirst_24 : decode cX5_bestFirst 24 = .ok (.iload 4, 2) := by decide +kernel
theorem dX5_bestFirst_26 : decode cX5_bestFirst 26 = .ok (.iload_n 1, 1) := by decide +kernel
theorem dX5_bestFirst_27 : decode cX5_bestFirst 27 = .ok (.invokevirtual 62, 3) := by decide +kernel
theorem dX5_bestFirst_30 : decode cX5_bestFirst 30 = .ok (.aload_n 0, 1) := by decide +kernel
theorem dX5_bestFirst_31 : decode cX5_bestFirst 31 = .ok (.getfield 17, 3) := by decide +kernel
theorem dX5_bestFirst_34 : decode cX5_bestFirst 34 = .ok (.iload_n 1, 1) := by decide +kernel
theorem dX5_bestFirst_35 : decode cX5_bestFirst 35 = .ok (.iaload, 1) := by decide +kernel
theorem dX5_bestFirst_36 : decode cX5_bestFirst 36 = .ok (.if_icmp .ne 27, 3) := by decide +kernel
theorem dX5_bestFirst_39 : decode cX5_bestFirst 39 = .ok (.iload_n 3, 1) := by decide +kernel
theorem dX5_bestFirst_40 : decode cX5_bestFirst 40 = .ok (.iconst (-1), 1) := by decide +kernel
theorem dX5_bestFirst_41 : decode cX5_bestFirst 41 = .ok (.if_icmp .eq 19, 3) := by decide +kernel
theorem dX5_bestFirst_44 : decode cX5_bestFirst 44 = .ok (.aload_n 2, 1) := by decide +kernel
theorem dX5_bestFirst_45 : decode cX5_bestFirst 45 = .ok (.getfield 76, 3) := by decide +kernel
theorem dX5_bestFirst_48 : decode cX5_bestFirst 48 = .ok (.iload 4, 2) := by decide +kernel
theorem dX5_bestFirst_50 : decode cX5_bestFirst 50 = .ok (.iaload, 1) := by decide +kernel
theorem dX5_bestFirst_51 : decode cX5_bestFirst 51 = .ok (.aload_n 2, 1) := by decide +kernel
theorem dX5_bestFirst_52 : decode cX5_bestFirst 52 = .ok (.getfield 76, 3) := by decide +kernel
theorem dX5_bestFirst_55 : decode cX5_bestFirst 55 = .ok (.iload_n 3, 1) := by decide +kernel
theorem dX5_bestFirst_56 : decode cX5_bestFirst 56 = .ok (.iaload, 1) := by decide +kernel
theorem dX5_bestFirst_57 : decode cX5_bestFirst 57 = .ok (.if_icmp .ge 6, 3) := by decide +kernel
theorem dX5_bestFirst_60 : decode cX5_bestFirst 60 = .ok (.iload 4, 2) := by decide +kernel
theorem dX5_bestFirst_62 : decode cX5_bestFirst 62 = .ok (.istore_n 3, 1) := by decide +kernel
theorem dX5_bestFirst_63 : decode cX5_bestFirst 63 = .ok (.iinc 4 1, 3) := by decide +kernel
theorem dX5_bestFirst_66 : decode cX5_bestFirst 66 = .ok (.goto (-61), 3) := by decide +kernel
theorem dX5_bestFirst_69 : decode cX5_bestFirst 69 = .ok (.iload_n 3, 1) := by decide +kernel
theorem dX5_bestFirst_70 : decode cX5_bestFirst 70 = .ok (.ireturn, 1) := by decide +kernel
theorem dX5_fewestByTrying_0 : decode cX5_fewestByTrying 0 = .ok (.aload_n 0, 1) := by decide +kernel
theorem dX5_fewestByTrying_1 : decode cX5_fewestByTrying 1 = .ok (.getfield 11, 3) := by decide +kernel
theorem dX5_fewestByTrying_4 : decode cX5_fewestByTrying 4 = .ok (.iconst 0, 1) := by decide +kernel
theorem dX5_fewestByTrying_5 : decode cX5_fewestByTrying 5 = .ok (.aload_n 0, 1) := by decide +kernel
theorem dX5_fewestByTrying_6 : decode cX5_fewestByTrying 6 = .ok (.invokevirtual 53, 3) := by decide +kernel
theorem dX5_fewestByTrying_9 : decode cX5_fewestByTrying 9 = .ok (.iconst 0, 1) := by decide +kernel
theorem dX5_fewestByTrying_10 : decode cX5_fewestByTrying 10 = .ok (.ldc 61, 2) := by decide +kernel
theorem dX5_fewestByTrying_12 : decode cX5_fewestByTrying 12 = .ok (.invokestatic 79, 3) := by decide +kernel
theorem dX5_fewestByTrying_15 : decode cX5_fewestByTrying 15 = .ok (.ireturn, 1) := by decide +kernel
theorem dX5_fewestFrom_0 : decode cX5_fewestFrom 0 = .ok (.iload_n 3, 1) := by decide +kernel
theorem dX5_fewestFrom_1 : decode cX5_fewestFrom 1 = .ok (.iload 4, 2) := by decide +kernel
theorem dX5_fewestFrom_3 : decode cX5_fewestFrom 3 = .ok (.if_icmp .lt 6, 3) := by decide +kernel
theorem dX5_fewestFrom_6 : decode cX5_fewestFrom 6 = .ok (.iload 4, 2) := by decide +kernel
theorem dX5_fewestFrom_8 : decode cX5_fewestFrom 8 = .ok (.ireturn, 1) := by decide +kernel
theorem dX5_fewestFrom_9 : decode cX5_fewestFrom 9 = .ok (.iload_n 2, 1) := by decide +kernel
theorem dX5_fewestFrom_10 : decode cX5_fewestFrom 10 = .ok (.ifCond .eq 9, 3) := by decide +kernel
theorem dX5_fewestFrom_13 : decode cX5_fewestFrom 13 = .ok (.iload_n 1, 1) := by decide +kernel
theorem dX5_fewestFrom_14 : decode cX5_fewestFrom 14 = .ok (.bipush 6, 2) := by decide +kernel
theorem dX5_fewestFrom_16 : decode cX5_fewestFrom 16 = .ok (.if_icmp .lt 5, 3) := by decide +kernel
theorem dX5_fewestFrom_19 : decode cX5_fewestFrom 19 = .ok (.iload_n 3, 1) := by decide +kernel
theorem dX5_fewestFrom_20 : decode cX5_fewestFrom 20 = .ok (.ireturn, 1) := by decide +kernel
theorem dX5_fewestFrom_21 : decode cX5_fewestFrom 21 = .ok (.iload 4, 2) := by decide +kernel
theorem dX5_fewestFrom_23 : decode cX5_fewestFrom 23 = .ok (.istore 5, 2) := by decide +kernel
theorem dX5_fewestFrom_25 : decode cX5_fewestFrom 25 = .ok (.iconst 0, 1) := by decide +kernel
theorem dX5_fewestFrom_26 : decode cX5_fewestFrom 26 = .ok (.istore 6, 2) := by decide +kernel
theorem dX5_fewestFrom_28 : decode cX5_fewestFrom 28 = .ok (.iload 6, 2) := by decide +kernel
theorem dX5_fewestFrom_30 : decode cX5_fewestFrom 30 = .ok (.bipush 6, 2) := by decide +kernel
theorem dX5_fewestFrom_32 : decode cX5_fewestFrom 32 = .ok (.if_icmp .ge 55, 3) := by decide +kernel
theorem dX5_fewestFrom_35 : decode cX5_fewestFrom 35 = .ok (.iload 6, 2) := by decide +kernel
theorem dX5_fewestFrom_37 : decode cX5_fewestFrom 37 = .ok (.iload_n 2, 1) := by decide +kernel
theorem dX5_fewestFrom_38 : decode cX5_fewestFrom 38 = .ok (.invokestatic 49, 3) := by decide +kernel
theorem dX5_fewestFrom_41 : decode cX5_fewestFrom 41 = .ok (.ifCond .eq 40, 3) := by decide +kernel
theorem dX5_fewestFrom_44 : decode cX5_fewestFrom 44 = .ok (.iload_n 2, 1) := by decide +kernel
theorem dX5_fewestFrom_45 : decode cX5_fewestFrom 45 = .ok (.iconst 1, 1) := by decide +kernel
theorem dX5_fewestFrom_46 : decode cX5_fewestFrom 46 = .ok (.iload 6, 2) := by decide +kernel
theorem dX5_fewestFrom_48 : decode cX5_fewestFrom 48 = .ok (.ishl, 1) := by decide +kernel
theorem dX5_fewestFrom_49 : decode cX5_fewestFrom 49 = .ok (.iconst (-1), 1) := by decide +kernel
theorem dX5_fewestFrom_50 : decode cX5_fewestFrom 50 = .ok (.ixor, 1) := by decide +kernel
theorem dX5_fewestFrom_51 : decode cX5_fewestFrom 51 = .ok (.iand, 1) := by decide +kernel
theorem dX5_fewestFrom_52 : decode cX5_fewestFrom 52 = .ok (.istore 7, 2) := by decide +kernel
theorem dX5_fewestFrom_54 : decode cX5_fewestFrom 54 = .ok (.aload_n 0, 1) := by decide +kernel
theorem dX5_fewestFrom_55 : decode cX5_fewestFrom 55 = .ok (.iload 6, 2) := by decide +kernel
theorem dX5_fewestFrom_57 : decode cX5_fewestFrom 57 = .ok (.iload 7, 2) := by decide +kernel
theorem dX5_fewestFrom_59 : decode cX5_fewestFrom 59 = .ok (.invokestatic 65, 3) := by decide +kernel
theorem dX5_fewestFrom_62 : decode cX5_fewestFrom 62 = .ok (.istore 8, 2) := by decide +kernel
theorem dX5_fewestFrom_64 : decode cX5_fewestFrom 64 = .ok (.aload_n 0, 1) := by decide +kernel
theorem dX5_fewestFrom_65 : decode cX5_fewestFrom 65 = .ok (.iload_n 1, 1) := by decide +kernel
theorem dX5_fewestFrom_66 : decode cX5_fewestFrom 66 = .ok (.iconst 1, 1) := by decide +kernel
theorem dX5_fewestFrom_67 : decode cX5_fewestFrom 67 = .ok (.iadd, 1) := by decide +kernel
theorem dX5_fewestFrom_68 : decode cX5_fewestFrom 68 = .ok (.iload 7, 2) := by decide +kernel
theorem dX5_fewestFrom_70 : decode cX5_fewestFrom 70 = .ok (.iload_n 3, 1) := by decide +kernel
theorem dX5_fewestFrom_71 : decode cX5_fewestFrom 71 = .ok (.iload 8, 2) := by decide +kernel
theorem dX5_fewestFrom_73 : decode cX5_fewestFrom 73 = .ok (.iadd, 1) := by decide +kernel
theorem dX5_fewestFrom_74 : decode cX5_fewestFrom 74 = .ok (.iload 5, 2) := by decide +kernel
theorem dX5_fewestFrom_76 : decode cX5_fewestFrom 76 = .ok (.invokestatic 79, 3) := by decide +kernel
theorem dX5_fewestFrom_79 : decode cX5_fewestFrom 79 = .ok (.istore 5, 2) := by decide +kernel
theorem dX5_fewestFrom_81 : decode cX5_fewestFrom 81 = .ok (.iinc 6 1, 3) := by decide +kernel
theorem dX5_fewestFrom_84 : decode cX5_fewestFrom 84 = .ok (.goto (-56), 3) := by decide +kernel
theorem dX5_fewestFrom_87 : decode cX5_fewestFrom 87 = .ok (.iload 5, 2) := by decide +kernel
theorem dX5_fewestFrom_89 : decode cX5_fewestFrom 89 = .ok (.ireturn, 1) := by decide +kernel
theorem dX5_beats_0 : decode cX5_beats 0 = .ok (.aload_n 0, 1) := by decide +kernel
theorem dX5_beats_1 : decode cX5_beats 1 = .ok (.getfield 11, 3) := by decide +kernel
theorem dX5_beats_4 : decode cX5_beats 4 = .ok (.iload_n 1, 1) := by decide +kernel
theorem dX5_beats_5 : decode cX5_beats 5 = .ok (.bipush 6, 2) := by decide +kernel
theorem dX5_beats_7 : decode cX5_beats 7 = .ok (.imul, 1) := by decide +kernel
theorem dX5_beats_8 : decode cX5_beats 8 = .ok (.iload_n 2, 1) := by decide +kernel
theorem dX5_beats_9 : decode cX5_beats 9 = .ok (.iadd, 1) := by decide +kernel
theorem dX5_beats_10 : decode cX5_beats 10 = .ok (.iaload, 1) := by decide +kernel
theorem dX5_beats_11 : decode cX5_beats 11 = .ok (.aload_n 0, 1) := by decide +kernel
theorem dX5_beats_12 : decode cX5_beats 12 = .ok (.getfield 11, 3) := by decide +kernel
theorem dX5_beats_15 : decode cX5_beats 15 = .ok (.iload_n 2, 1) := by decide +kernel
theorem dX5_beats_16 : decode cX5_beats 16 = .ok (.bipush 6, 2) := by decide +kernel
theorem dX5_beats_18 : decode cX5_beats 18 = .ok (.imul, 1) := by decide +kernel
theorem dX5_beats_19 : decode cX5_beats 19 = .ok (.iload_n 1, 1) := by decide +kernel
theorem dX5_beats_20 : decode cX5_beats 20 = .ok (.iadd, 1) := by decide +kernel
theorem dX5_beats_21 : decode cX5_beats 21 = .ok (.iaload, 1) := by decide +kernel
theorem dX5_beats_22 : decode cX5_beats 22 = .ok (.if_icmp .le 7, 3) := by decide +kernel
theorem dX5_beats_25 : decode cX5_beats 25 = .ok (.iconst 1, 1) := by decide +kernel
theorem dX5_beats_26 : decode cX5_beats 26 = .ok (.goto 4, 3) := by decide +kernel
theorem dX5_beats_29 : decode cX5_beats 29 = .ok (.iconst 0, 1) := by decide +kernel
theorem dX5_beats_30 : decode cX5_beats 30 = .ok (.ireturn, 1) := by decide +kernel
theorem dX5_leadsToAll_0 : decode cX5_leadsToAll 0 = .ok (.iconst 1, 1) := by decide +kernel
theorem dX5_leadsToAll_1 : decode cX5_leadsToAll 1 = .ok (.iload_n 1, 1) := by decide +kernel
theorem dX5_leadsToAll_2 : decode cX5_leadsToAll 2 = .ok (.ishl, 1) := by decide +kernel
theorem dX5_leadsToAll_3 : decode cX5_leadsToAll 3 = .ok (.istore_n 2, 1) := by decide +kernel
theorem dX5_leadsToAll_4 : decode cX5_leadsToAll 4 = .ok (.iconst 0, 1) := by decide +kernel
theorem dX5_leadsToAll_5 : decode cX5_leadsToAll 5 = .ok (.istore_n 3, 1) := by decide +kernel
theorem dX5_leadsToAll_6 : decode cX5_leadsToAll 6 = .ok (.iload_n 3, 1) := by decide +kernel
theorem dX5_leadsToAll_7 : decode cX5_leadsToAll 7 = .ok (.aload_n 0, 1) := by decide +kernel
theorem dX5_leadsToAll_8 : decode cX5_leadsToAll 8 = .ok (.getfield 36, 3) := by decide +kernel
theorem dX5_leadsToAll_11 : decode cX5_leadsToAll 11 = .ok (.if_icmp .ge 45, 3) := by decide +kernel
theorem dX5_leadsToAll_14 : decode cX5_leadsToAll 14 = .ok (.iconst 0, 1) := by decide +kernel
theorem dX5_leadsToAll_15 : decode cX5_leadsToAll 15 = .ok (.istore 4, 2) := by decide +kernel
theorem dX5_leadsToAll_17 : decode cX5_leadsToAll 17 = .ok (.iload 4, 2) := by decide +kernel
theorem dX5_leadsToAll_19 : decode cX5_leadsToAll 19 = .ok (.aload_n 0, 1) := by decide +kernel
theorem dX5_leadsToAll_20 : decode cX5_leadsToAll 20 = .ok (.getfield 36, 3) := by decide +kernel
theorem dX5_leadsToAll_23 : decode cX5_leadsToAll 23 = .ok (.if_icmp .ge 27, 3) := by decide +kernel
theorem dX5_leadsToAll_26 : decode cX5_leadsToAll 26 = .ok (.iload 4, 2) := by decide +kernel
theorem dX5_leadsToAll_28 : decode cX5_leadsToAll 28 = .ok (.iload_n 2, 1) := by decide +kernel
theorem dX5_leadsToAll_29 : decode cX5_leadsToAll 29 = .ok (.invokestatic 49, 3) := by decide +kernel
theorem dX5_leadsToAll_32 : decode cX5_leadsToAll 32 = .ok (.ifCond .eq 12, 3) := by decide +kernel
theorem dX5_leadsToAll_35 : decode cX5_leadsToAll 35 = .ok (.iload_n 2, 1) := by decide +kernel
theorem dX5_leadsToAll_36 : decode cX5_leadsToAll 36 = .ok (.aload_n 0, 1) := by decide +kernel
theorem dX5_leadsToAll_37 : decode cX5_leadsToAll 37 = .ok (.iload 4, 2) := by decide +kernel
theorem dX5_leadsToAll_39 : decode cX5_leadsToAll 39 = .ok (.invokevirtual 83, 3) := by decide +kernel
theorem dX5_leadsToAll_42 : decode cX5_leadsToAll 42 = .ok (.ior, 1) := by decide +kernel
theorem dX5_leadsToAll_43 : decode cX5_leadsToAll 43 = .ok (.istore_n 2, 1) := by decide +kernel
theorem dX5_leadsToAll_44 : decode cX5_leadsToAll 44 = .ok (.iinc 4 1, 3) := by decide +kernel
theorem dX5_leadsToAll_47 : decode cX5_leadsToAll 47 = .ok (.goto (-30), 3) := by decide +kernel
theorem dX5_leadsToAll_50 : decode cX5_leadsToAll 50 = .ok (.iinc 3 1, 3) := by decide +kernel
theorem dX5_leadsToAll_53 : decode cX5_leadsToAll 53 = .ok (.goto (-47), 3) := by decide +kernel
theorem dX5_leadsToAll_56 : decode cX5_leadsToAll 56 = .ok (.iload_n 2, 1) := by decide +kernel
theorem dX5_leadsToAll_57 : decode cX5_leadsToAll 57 = .ok (.aload_n 0, 1) := by decide +kernel
theorem dX5_leadsToAll_58 : decode cX5_leadsToAll 58 = .ok (.invokevirtual 53, 3) := by decide +kernel
theorem dX5_leadsToAll_61 : decode cX5_leadsToAll 61 = .ok (.if_icmp .ne 7, 3) := by decide +kernel
theorem dX5_leadsToAll_64 : decode cX5_leadsToAll 64 = .ok (.iconst 1, 1) := by decide +kernel
theorem dX5_leadsToAll_65 : decode cX5_leadsToAll 65 = .ok (.goto 4, 3) := by decide +kernel
theorem dX5_leadsToAll_68 : decode cX5_leadsToAll 68 = .ok (.iconst 0, 1) := by decide +kernel
theorem dX5_leadsToAll_69 : decode cX5_leadsToAll 69 = .ok (.ireturn, 1) := by decide +kernel
theorem dX5_notBeating_0 : decode cX5_notBeating 0 = .ok (.iconst 0, 1) := by decide +kernel
theorem dX5_notBeating_1 : decode cX5_notBeating 1 = .ok (.istore_n 2, 1) := by decide +kernel
theorem dX5_notBeating_2 : decode cX5_notBeating 2 = .ok (.iconst 0, 1) := by decide +kernel
theorem dX5_notBeating_3 : decode cX5_notBeating 3 = .ok (.istore_n 3, 1) := by decide +kernel
theorem dX5_notBeating_4 : decode cX5_notBeating 4 = .ok (.iload_n 3, 1) := by decide +kernel
theorem dX5_notBeating_5 : decode cX5_notBeating 5 = .ok (.aload_n 0, 1) := by decide +kernel
theorem dX5_notBeating_6 : decode cX5_notBeating 6 = .ok (.getfield 36, 3) := by decide +kernel
theorem dX5_notBeating_9 : decode cX5_notBeating 9 = .ok (.if_icmp .ge 24, 3) := by decide +kernel
theorem dX5_notBeating_12 : decode cX5_notBeating 12 = .ok (.aload_n 0, 1) := by decide +kernel
theorem dX5_notBeating_13 : decode cX5_notBeating 13 = .ok (.iload_n 3, 1) := by decide +kernel
theorem dX5_notBeating_14 : decode cX5_notBeating 14 = .ok (.iload_n 1, 1) := by decide +kernel
theorem dX5_notBeating_15 : decode cX5_notBeating 15 = .ok (.invokevirtual 86, 3) := by decide +kernel
theorem dX5_notBeating_18 : decode cX5_notBeating 18 = .ok (.ifCond .ne 9, 3) := by decide +kernel
theorem dX5_notBeating_21 : decode cX5_notBeating 21 = .ok (.iload_n 2, 1) := by decide +kernel
theorem dX5_notBeating_22 : decode cX5_notBeating 22 = .ok (.iconst 1, 1) := by decide +kernel
theorem dX5_notBeating_23 : decode cX5_notBeating 23 = .ok (.iload_n 3, 1) := by decide +kernel
theorem dX5_notBeating_24 : decode cX5_notBeating 24 = .ok (.ishl, 1) := by decide +kernel
theorem dX5_notBeating_25 : decode cX5_notBeating 25 = .ok (.ior, 1) := by decide +kernel
theorem dX5_notBeating_26 : decode cX5_notBeating 26 = .ok (.istore_n 2, 1) := by decide +kernel
theorem dX5_notBeating_27 : decode cX5_notBeating 27 = .ok (.iinc 3 1, 3) := by decide +kernel
theorem dX5_notBeating_30 : decode cX5_notBeating 30 = .ok (.goto (-26), 3) := by decide +kernel
theorem dX5_notBeating_33 : decode cX5_notBeating 33 = .ok (.iload_n 2, 1) := by decide +kernel
theorem dX5_notBeating_34 : decode cX5_notBeating 34 = .ok (.ireturn, 1) := by decide +kernel
theorem dX5_smallestTop_0 : decode cX5_smallestTop 0 = .ok (.aload_n 0, 1) := by decide +kernel
theorem dX5_smallestTop_1 : decode cX5_smallestTop 1 = .ok (.invokevirtual 53, 3) := by decide +kernel
theorem dX5_smallestTop_4 : decode cX5_smallestTop 4 = .ok (.istore_n 1, 1) := by decide +kernel
theorem dX5_smallestTop_5 : decode cX5_smallestTop 5 = .ok (.iconst 1, 1) := by decide +kernel
theorem dX5_smallestTop_6 : decode cX5_smallestTop 6 = .ok (.istore_n 2, 1) := by decide +kernel
theorem dX5_smallestTop_7 : decode cX5_smallestTop 7 = .ok (.iload_n 2, 1) := by decide +kernel
theorem dX5_smallestTop_8 : decode cX5_smallestTop 8 = .ok (.aload_n 0, 1) := by decide +kernel
theorem dX5_smallestTop_9 : decode cX5_smallestTop 9 = .ok (.invokevirtual 53, 3) := by decide +kernel
theorem dX5_smallestTop_12 : decode cX5_smallestTop 12 = .ok (.if_icmp .ge 30, 3) := by decide +kernel
theorem dX5_smallestTop_15 : decode cX5_smallestTop 15 = .ok (.iload_n 2, 1) := by decide +kernel
theorem dX5_smallestTop_16 : decode cX5_smallestTop 16 = .ok (.invokestatic 89, 3) := by decide +kernel
theorem dX5_smallestTop_19 : decode cX5_smallestTop 19 = .ok (.iload_n 1, 1) := by decide +kernel
theorem dX5_smallestTop_20 : decode cX5_smallestTop 20 = .ok (.invokestatic 89, 3) := by decide +kernel
theorem dX5_smallestTop_23 : decode cX5_smallestTop 23 = .ok (.if_icmp .ge 13, 3) := by decide +kernel
theorem dX5_smallestTop_26 : decode cX5_smallestTop 26 = .ok (.aload_n 0, 1) := by decide +kernel
theorem dX5_smallestTop_27 : decode cX5_smallestTop 27 = .ok (.iload_n 2, 1) := by decide +kernel
theorem dX5_smallestTop_28 : decode cX5_smallestTop 28 = .ok (.invokevirtual 94, 3) := by decide +kernel
theorem dX5_smallestTop_31 : decode cX5_smallestTop 31 = .ok (.ifCond .eq 5, 3) := by decide +kernel
theorem dX5_smallestTop_34 : decode cX5_smallestTop 34 = .ok (.iload_n 2, 1) := by decide +kernel
theorem dX5_smallestTop_35 : decode cX5_smallestTop 35 = .ok (.istore_n 1, 1) := by decide +kernel
theorem dX5_smallestTop_36 : decode cX5_smallestTop 36 = .ok (.iinc 2 1, 3) := by decide +kernel
theorem dX5_smallestTop_39 : decode cX5_smallestTop 39 = .ok (.goto (-32), 3) := by decide +kernel
theorem dX5_smallestTop_42 : decode cX5_smallestTop 42 = .ok (.iload_n 1, 1) := by decide +kernel
theorem dX5_smallestTop_43 : decode cX5_smallestTop 43 = .ok (.ireturn, 1) := by decide +kernel
theorem dX5_beatsAllOutside_0 : decode cX5_beatsAllOutside 0 = .ok (.iconst 0, 1) := by decide +kernel
theorem dX5_beatsAllOutside_1 : decode cX5_beatsAllOutside 1 = .ok (.istore_n 2, 1) := by decide +kernel
theorem dX5_beatsAllOutside_2 : decode cX5_beatsAllOutside 2 = .ok (.iload_n 2, 1) := by decide +kernel
theorem dX5_beatsAllOutside_3 : decode cX5_beatsAllOutside 3 = .ok (.aload_n 0, 1) := by decide +kernel
theorem dX5_beatsAllOutside_4 : decode cX5_beatsAllOutside 4 = .ok (.getfield 36, 3) := by decide +kernel
theorem dX5_beatsAllOutside_7 : decode cX5_beatsAllOutside 7 = .ok (.if_icmp .ge 52, 3) := by decide +kernel
theorem dX5_beatsAllOutside_10 : decode cX5_beatsAllOutside 10 = .ok (.iconst 0, 1) := by decide +kernel
theorem dX5_beatsAllOutside_11 : decode cX5_beatsAllOutside 11 = .ok (.istore_n 3, 1) := by decide +kernel
theorem dX5_beatsAllOutside_12 : decode cX5_beatsAllOutside 12 = .ok (.iload_n 3, 1) := by decide +kernel
theorem dX5_beatsAllOutside_13 : decode cX5_beatsAllOutside 13 = .ok (.aload_n 0, 1) := by decide +kernel
theorem dX5_beatsAllOutside_14 : decode cX5_beatsAllOutside 14 = .ok (.getfield 36, 3) := by decide +kernel
theorem dX5_beatsAllOutside_17 : decode cX5_beatsAllOutside 17 = .ok (.if_icmp .ge 36, 3) := by decide +kernel
theorem dX5_beatsAllOutside_20 : decode cX5_beatsAllOutside 20 = .ok (.iload_n 2, 1) := by decide +kernel
theorem dX5_beatsAllOutside_21 : decode cX5_beatsAllOutside 21 = .ok (.iload_n 1, 1) := by decide +kernel
theorem dX5_beatsAllOutside_22 : decode cX5_beatsAllOutside 22 = .ok (.invokestatic 49, 3) := by decide +kernel
theorem dX5_beatsAllOutside_25 : decode cX5_beatsAllOutside 25 = .ok (.ifCond .eq 22, 3) := by decide +kernel
theorem dX5_beatsAllOutside_28 : decode cX5_beatsAllOutside 28 = .ok (.iload_n 3, 1) := by decide +kernel
theorem dX5_beatsAllOutside_29 : decode cX5_beatsAllOutside 29 = .ok (.iload_n 1, 1) := by decide +kernel
theorem dX5_beatsAllOutside_30 : decode cX5_beatsAllOutside 30 = .ok (.invokestatic 49, 3) := by decide +kernel
theorem dX5_beatsAllOutside_33 : decode cX5_beatsAllOutside 33 = .ok (.ifCond .ne 14, 3) := by decide +kernel
theorem dX5_beatsAllOutside_36 : decode cX5_beatsAllOutside 36 = .ok (.aload_n 0, 1) := by decide +kernel
theorem dX5_beatsAllOutside_37 : decode cX5_beatsAllOutside 37 = .ok (.iload_n 2, 1) := by decide +kernel
theorem dX5_beatsAllOutside_38 : decode cX5_beatsAllOutside 38 = .ok (.iload_n 3, 1) := by decide +kernel
theorem dX5_beatsAllOutside_39 : decode cX5_beatsAllOutside 39 = .ok (.invokevirtual 86, 3) := by decide +kernel
theorem dX5_beatsAllOutside_42 : decode cX5_beatsAllOutside 42 = .ok (.ifCond .ne 5, 3) := by decide +kernel
theorem dX5_beatsAllOutside_45 : decode cX5_beatsAllOutside 45 = .ok (.iconst 0, 1) := by decide +kernel
theorem dX5_beatsAllOutside_46 : decode cX5_beatsAllOutside 46 = .ok (.ireturn, 1) := by decide +kernel
theorem dX5_beatsAllOutside_47 : decode cX5_beatsAllOutside 47 = .ok (.iinc 3 1, 3) := by decide +kernel
theorem dX5_beatsAllOutside_50 : decode cX5_beatsAllOutside 50 = .ok (.goto (-38), 3) := by decide +kernel
theorem dX5_beatsAllOutside_53 : decode cX5_beatsAllOutside 53 = .ok (.iinc 2 1, 3) := by decide +kernel
theorem dX5_beatsAllOutside_56 : decode cX5_beatsAllOutside 56 = .ok (.goto (-54), 3) := by decide +kernel
theorem dX5_beatsAllOutside_59 : decode cX5_beatsAllOutside 59 = .ok (.iconst 1, 1) := by decide +kernel
theorem dX5_beatsAllOutside_60 : decode cX5_beatsAllOutside 60 = .ok (.ireturn, 1) := by decide +kernel
theorem dX5_topWaysAgree_0 : decode cX5_topWaysAgree 0 = .ok (.aload_n 0, 1) := by decide +kernel
theorem dX5_topWaysAgree_1 : decode cX5_topWaysAgree 1 = .ok (.invokevirtual 98, 3) := by decide +kernel
theorem dX5_topWaysAgree_4 : decode cX5_topWaysAgree 4 = .ok (.istore_n 1, 1) := by decide +kernel
theorem dX5_topWaysAgree_5 : decode cX5_topWaysAgree 5 = .ok (.iconst 0, 1) := by decide +kernel
theorem dX5_topWaysAgree_6 : decode cX5_topWaysAgree 6 = .ok (.istore_n 2, 1) := by decide +kernel
theorem dX5_topWaysAgree_7 : decode cX5_topWaysAgree 7 = .ok (.iload_n 2, 1) := by decide +kernel
theorem dX5_topWaysAgree_8 : decode cX5_topWaysAgree 8 = .ok (.aload_n 0, 1) := by decide +kernel
theorem dX5_topWaysAgree_9 : decode cX5_topWaysAgree 9 = .ok (.getfield 36, 3) := by decide +kernel
theorem dX5_topWaysAgree_12 : decode cX5_topWaysAgree 12 = .ok (.if_icmp .ge 24, 3) := by decide +kernel
theorem dX5_topWaysAgree_15 : decode cX5_topWaysAgree 15 = .ok (.aload_n 0, 1) := by decide +kernel
theorem dX5_topWaysAgree_16 : decode cX5_topWaysAgree 16 = .ok (.iload_n 2, 1) := by decide +kernel
theorem dX5_topWaysAgree_17 : decode cX5_topWaysAgree 17 = .ok (.invokevirtual 101, 3) := by decide +kernel
theorem dX5_topWaysAgree_20 : decode cX5_topWaysAgree 20 = .ok (.iload_n 2, 1) := by decide +kernel
theorem dX5_topWaysAgree_21 : decode cX5_topWaysAgree 21 = .ok (.iload_n 1, 1) := by decide +kernel
theorem dX5_topWaysAgree_22 : decode cX5_topWaysAgree 22 = .ok (.invokestatic 49, 3) := by decide +kernel
theorem dX5_topWaysAgree_25 : decode cX5_topWaysAgree 25 = .ok (.if_icmp .eq 5, 3) := by decide +kernel
theorem dX5_topWaysAgree_28 : decode cX5_topWaysAgree 28 = .ok (.iconst 0, 1) := by decide +kernel
theorem dX5_topWaysAgree_29 : decode cX5_topWaysAgree 29 = .ok (.ireturn, 1) := by decide +kernel
theorem dX5_topWaysAgree_30 : decode cX5_topWaysAgree 30 = .ok (.iinc 2 1, 3) := by decide +kernel
theorem dX5_topWaysAgree_33 : decode cX5_topWaysAgree 33 = .ok (.goto (-26), 3) := by decide +kernel
theorem dX5_topWaysAgree_36 : decode cX5_topWaysAgree 36 = .ok (.iconst 1, 1) := by decide +kernel
theorem dX5_topWaysAgree_37 : decode cX5_topWaysAgree 37 = .ok (.ireturn, 1) := by decide +kernel
theorem dX7_init_0 : decode cX7_init 0 = .ok (.aload_n 0, 1) := by decide +kernel
theorem dX7_init_1 : decode cX7_init 1 = .ok (.invokespecial 3, 3) := by decide +kernel
theorem dX7_init_4 : decode cX7_init 4 = .ok (.aload_n 0, 1) := by decide +kernel
theorem dX7_init_5 : decode cX7_init 5 = .ok (.bipush 60, 2) := by decide +kernel
theorem dX7_init_7 : decode cX7_init 7 = .ok (.newarray .char, 2) := by decide +kernel
theorem dX7_init_9 : decode cX7_init 9 = .ok (.putfield 11, 3) := by decide +kernel
theorem dX7_init_12 : decode cX7_init 12 = .ok (.aload_n 0, 1) := by decide +kernel
theorem dX7_init_13 : decode cX7_init 13 = .ok (.bipush 12, 2) := by decide +kernel
theorem dX7_init_15 : decode cX7_init 15 = .ok (.anewarray 15, 3) := by decide +kernel
theorem dX7_init_18 : decode cX7_init 18 = .ok (.putfield 17, 3) := by decide +kernel
theorem dX7_init_21 : decode cX7_init 21 = .ok (.aload_n 0, 1) := by decide +kernel
theorem dX7_init_22 : decode cX7_init 22 = .ok (.bipush 36, 2) := by decide +kernel
theorem dX7_init_24 : decode cX7_init 24 = .ok (.newarray .int, 2) := by decide +kernel
theorem dX7_init_26 : decode cX7_init 26 = .ok (.putfield 21, 3) := by decide +kernel
theorem dX7_init_29 : decode cX7_init 29 = .ok (.return_, 1) := by decide +kernel
theorem dX7_isFull_0 : decode cX7_isFull 0 = .ok (.aload_n 0, 1) := by decide +kernel
theorem dX7_isFull_1 : decode cX7_isFull 1 = .ok (.getfield 25, 3) := by decide +kernel
theorem dX7_isFull_4 : decode cX7_isFull 4 = .ok (.bipush 60, 2) := by decide +kernel
theorem dX7_isFull_6 : decode cX7_isFull 6 = .ok (.if_icmp .lt 7, 3) := by decide +kernel
theorem dX7_isFull_9 : decode cX7_isFull 9 = .ok (.iconst 1, 1) := by decide +kernel
theorem dX7_isFull_10 : decode cX7_isFull 10 = .ok (.goto 4, 3) := by decide +kernel
theorem dX7_isFull_13 : decode cX7_isFull 13 = .ok (.iconst 0, 1) := by decide +kernel
theorem dX7_isFull_14 : decode cX7_isFull 14 = .ok (.ireturn, 1) := by decide +kernel
theorem dX7_add_0 : decode cX7_add 0 = .ok (.aload_n 0, 1) := by decide +kernel
theorem dX7_add_1 : decode cX7_add 1 = .ok (.getfield 25, 3) := by decide +kernel
theorem dX7_add_4 : decode cX7_add 4 = .ok (.bipush 60, 2) := by decide +kernel
theorem dX7_add_6 : decode cX7_add 6 = .ok (.if_icmp .ge 23, 3) := by decide +kernel
theorem dX7_add_9 : decode cX7_add 9 = .ok (.aload_n 0, 1) := by decide +kernel
theorem dX7_add_10 : decode cX7_add 10 = .ok (.getfield 11, 3) := by decide +kernel
theorem dX7_add_13 : decode cX7_add 13 = .ok (.aload_n 0, 1) := by decide +kernel
theorem dX7_add_14 : decode cX7_add 14 = .ok (.getfield 25, 3) := by decide +kernel
theorem dX7_add_17 : decode cX7_add 17 = .ok (.iload_n 1, 1) := by decide +kernel
theorem dX7_add_18 : decode cX7_add 18 = .ok (.castore, 1) := by decide +kernel
theorem dX7_add_19 : decode cX7_add 19 = .ok (.aload_n 0, 1) := by decide +kernel
theorem dX7_add_20 : decode cX7_add 20 = .ok (.dup, 1) := by decide +kernel
theorem dX7_add_21 : decode cX7_add 21 = .ok (.getfield 25, 3) := by decide +kernel
theorem dX7_add_24 : decode cX7_add 24 = .ok (.iconst 1, 1) := by decide +kernel
theorem dX7_add_25 : decode cX7_add 25 = .ok (.iadd, 1) := by decide +kernel
theorem dX7_add_26 : decode cX7_add 26 = .ok (.putfield 25, 3) := by decide +kernel
theorem dX7_add_29 : decode cX7_add 29 = .ok (.aload_n 0, 1) := by decide +kernel
theorem dX7_add_30 : decode cX7_add 30 = .ok (.getfield 25, 3) := by decide +kernel
theorem dX7_add_33 : decode cX7_add 33 = .ok (.ireturn, 1) := by decide +kernel
theorem dX7_emptyBuffer_0 : decode cX7_emptyBuffer 0 = .ok (.aload_n 0, 1) := by decide +kernel
theorem dX7_emptyBuffer_1 : decode cX7_emptyBuffer 1 = .ok (.iconst 0, 1) := by decide +kernel
theorem dX7_emptyBuffer_2 : decode cX7_emptyBuffer 2 = .ok (.putfield 25, 3) := by decide +kernel
theorem dX7_emptyBuffer_5 : decode cX7_emptyBuffer 5 = .ok (.return_, 1) := by decide +kernel
theorem dX7_commandAt_0 : decode cX7_commandAt 0 = .ok (.iload_n 1, 1) := by decide +kernel
theorem dX7_commandAt_1 : decode cX7_commandAt 1 = .ok (.ifCond .lt 20, 3) := by decide +kernel
theorem dX7_commandAt_4 : decode cX7_commandAt 4 = .ok (.iload_n 1, 1) := by decide +kernel
theorem dX7_commandAt_5 : decode cX7_commandAt 5 = .ok (.aload_n 0, 1) := by decide +kernel
theorem dX7_commandAt_6 : decode cX7_commandAt 6 = .ok (.getfield 29, 3) := by decide +kernel
theorem dX7_commandAt_9 : decode cX7_commandAt 9 = .ok (.if_icmp .ge 12, 3) := by decide +kernel
theorem dX7_commandAt_12 : decode cX7_commandAt 12 = .ok (.aload_n 0, 1) := by decide +kernel
theorem dX7_commandAt_13 : decode cX7_commandAt 13 = .ok (.getfield 17, 3) := by decide +kernel
theorem dX7_commandAt_16 : decode cX7_commandAt 16 = .ok (.iload_n 1, 1) := by decide +kernel
theorem dX7_commandAt_17 : decode cX7_commandAt 17 = .ok (.aaload, 1) := by decide +kernel
theorem dX7_commandAt_18 : decode cX7_commandAt 18 = .ok (.goto 4, 3) := by decide +kernel
theorem dX7_commandAt_21 : decode cX7_commandAt 21 = .ok (.aconst_null, 1) := by decide +kernel
theorem dX7_commandAt_22 : decode cX7_commandAt 22 = .ok (.areturn, 1) := by decide +kernel
theorem dX7_argumentAt_0 : decode cX7_argumentAt 0 = .ok (.iload_n 1, 1) := by decide +kernel
theorem dX7_argumentAt_1 : decode cX7_argumentAt 1 = .ok (.iconst 3, 1) := by decide +kernel
theorem dX7_argumentAt_2 : decode cX7_argumentAt 2 = .ok (.imul, 1) := by decide +kernel
theorem dX7_argumentAt_3 : decode cX7_argumentAt 3 = .ok (.iload_n 2, 1) := by decide +kernel
theorem dX7_argumentAt_4 : decode cX7_argumentAt 4 = .ok (.iadd, 1) := by decide +kernel
theorem dX7_argumentAt_5 : decode cX7_argumentAt 5 = .ok (.istore_n 3, 1) := by decide +kernel
theorem dX7_argumentAt_6 : decode cX7_argumentAt 6 = .ok (.iload_n 3, 1) := by decide +kernel
theorem dX7_argumentAt_7 : decode cX7_argumentAt 7 = .ok (.ifCond .lt 21, 3) := by decide +kernel
theorem dX7_argumentAt_10 : decode cX7_argumentAt 10 = .ok (.iload_n 3, 1) := by decide +kernel
theorem dX7_argumentAt_11 : decode cX7_argumentAt 11 = .ok (.aload_n 0, 1) := by decide +kernel
theorem dX7_argumentAt_12 : decode cX7_argumentAt 12 = .ok (.getfield 21, 3) := by decide +kernel
theorem dX7_argumentAt_15 : decode cX7_argumentAt 15 = .ok (.arraylength, 1) := by decide +kernel
theorem dX7_argumentAt_16 : decode cX7_argumentAt 16 = .ok (.if_icmp .ge 12, 3) := by decide +kernel
theorem dX7_argumentAt_19 : decode cX7_argumentAt 19 = .ok (.aload_n 0, 1) := by decide +kernel
theorem dX7_argumentAt_20 : decode cX7_argumentAt 20 = .ok (.getfield 21, 3) := by decide +kernel
theorem dX7_argumentAt_23 : decode cX7_argumentAt 23 = .ok (.iload_n 3, 1) := by decide +kernel
theorem dX7_argumentAt_24 : decode cX7_argumentAt 24 = .ok (.iaload, 1) := by decide +kernel
theorem dX7_argumentAt_25 : decode cX7_argumentAt 25 = .ok (.goto 4, 3) := by decide +kernel
theorem dX7_argumentAt_28 : decode cX7_argumentAt 28 = .ok (.iconst 0, 1) := by decide +kernel
theorem dX7_argumentAt_29 : decode cX7_argumentAt 29 = .ok (.ireturn, 1) := by decide +kernel
theorem dX7_readAll_0 : decode cX7_readAll 0 = .ok (.aload_n 0, 1) := by decide +kernel
theorem dX7_readAll_1 : decode cX7_readAll 1 = .ok (.iconst 0, 1) := by decide +kernel
theorem dX7_readAll_2 : decode cX7_readAll 2 = .ok (.putfield 29, 3) := by decide +kernel
theorem dX7_readAll_5 : decode cX7_readAll 5 = .ok (.aload_n 0, 1) := by decide +kernel
theorem dX7_readAll_6 : decode cX7_readAll 6 = .ok (.iconst 0, 1) := by decide +kernel
theorem dX7_readAll_7 : decode cX7_readAll 7 = .ok (.putfield 32, 3) := by decide +kernel
theorem dX7_readAll_10 : decode cX7_readAll 10 = .ok (.iconst 0, 1) := by decide +kernel
theorem dX7_readAll_11 : decode cX7_readAll 11 = .ok (.istore_n 1, 1) := by decide +kernel
theorem dX7_readAll_12 : decode cX7_readAll 12 = .ok (.iload_n 1, 1) := by decide +kernel
theorem dX7_readAll_13 : decode cX7_readAll 13 = .ok (.bipush 12, 2) := by decide +kernel
theorem dX7_readAll_15 : decode cX7_readAll 15 = .ok (.if_icmp .gt 48, 3) := by decide +kernel
theorem dX7_readAll_18 : decode cX7_readAll 18 = .ok (.aload_n 0, 1) := by decide +kernel
theorem dX7_readAll_19 : decode cX7_readAll 19 = .ok (.invokevirtual 35, 3) := by decide +kernel
theorem dX7_readAll_22 : decode cX7_readAll 22 = .ok (.ifCond .ne 8, 3) := by decide +kernel
theorem dX7_readAll_25 : decode cX7_readAll 25 = .ok (.aload_n 0, 1) := by decide +kernel
theorem dX7_readAll_26 : decode cX7_readAll 26 = .ok (.getfield 32, 3) := by decide +kernel
theorem dX7_readAll_29 : decode cX7_readAll 29 = .ok (.ireturn, 1) := by decide +kernel
theorem dX7_readAll_30 : decode cX7_readAll 30 = .ok (.aload_n 0, 1) := by decide +kernel
theorem dX7_readAll_31 : decode cX7_readAll 31 = .ok (.getfield 32, 3) := by decide +kernel
theorem dX7_readAll_34 : decode cX7_readAll 34 = .ok (.aload_n 0, 1) := by decide +kernel
theorem dX7_readAll_35 : decode cX7_readAll 35 = .ok (.getfield 25, 3) := by decide +kernel
theorem dX7_readAll_38 : decode cX7_readAll 38 = .ok (.if_icmp .lt 5, 3) := by decide +kernel
theorem dX7_readAll_41 : decode cX7_readAll 41 = .ok (.iconst (-1), 1) := by decide +kernel
theorem dX7_readAll_42 : decode cX7_readAll 42 = .ok (.ireturn, 1) := by decide +kernel
theorem dX7_readAll_43 : decode cX7_readAll 43 = .ok (.aload_n 0, 1) := by decide +kernel
theorem dX7_readAll_44 : decode cX7_readAll 44 = .ok (.bipush 59, 2) := by decide +kernel
theorem dX7_readAll_46 : decode cX7_readAll 46 = .ok (.invokevirtual 39, 3) := by decide +kernel
theorem dX7_readAll_49 : decode cX7_readAll 49 = .ok (.ifCond .ne 8, 3) := by decide +kernel
theorem dX7_readAll_52 : decode cX7_readAll 52 = .ok (.aload_n 0, 1) := by decide +kernel
theorem dX7_readAll_53 : decode cX7_readAll 53 = .ok (.getfield 32, 3) := by decide +kernel
theorem dX7_readAll_56 : decode cX7_readAll 56 = .ok (.ireturn, 1) := by decide +kernel
theorem dX7_readAll_57 : decode cX7_readAll 57 = .ok (.iinc 1 1, 3) := by decide +kernel
theorem dX7_readAll_60 : decode cX7_readAll 60 = .ok (.goto (-48), 3) := by decide +kernel
theorem dX7_readAll_63 : decode cX7_readAll 63 = .ok (.aload_n 0, 1) := by decide +kernel
theorem dX7_readAll_64 : decode cX7_readAll 64 = .ok (.getfield 32, 3) := by decide +kernel
theorem dX7_readAll_67 : decode cX7_readAll 67 = .ok (.ireturn, 1) := by decide +kernel
theorem dX7_readCommand_0 : decode cX7_readCommand 0 = .ok (.aload_n 0, 1) := by decide +kernel
theorem dX7_readCommand_1 : decode cX7_readCommand 1 = .ok (.getfield 32, 3) := by decide +kernel
theorem dX7_readCommand_4 : decode cX7_readCommand 4 = .ok (.istore_n 1, 1) := by decide +kernel
theorem dX7_readCommand_5 : decode cX7_readCommand 5 = .ok (.iload_n 1, 1) := by decide +kernel
theorem dX7_readCommand_6 : decode cX7_readCommand 6 = .ok (.istore_n 2, 1) := by decide +kernel
theorem dX7_readCommand_7 : decode cX7_readCommand 7 = .ok (.getstatic 43, 3) := by decide +kernel
theorem dX7_readCommand_10 : decode cX7_readCommand 10 = .ok (.astore_n 3, 1) := by decide +kernel
theorem dX7_readCommand_11 : decode cX7_readCommand 11 = .ok (.aload_n 3, 1) := by decide +kernel
theorem dX7_readCommand_12 : decode cX7_readCommand 12 = .ok (.arraylength, 1) := by decide +kernel
theorem dX7_readCommand_13 : decode cX7_readCommand 13 = .ok (.istore 4, 2) := by decide +kernel
theorem dX7_readCommand_15 : decode cX7_readCommand 15 = .ok (.iconst 0, 1) := by decide +kernel
theorem dX7_readCommand_16 : decode cX7_readCommand 16 = .ok (.istore 5, 2) := by decide +kernel
theorem dX7_readCommand_18 : decode cX7_readCommand 18 = .ok (.iload 5, 2) := by decide +kernel
theorem dX7_readCommand_20 : decode cX7_readCommand 20 = .ok (.iload 4, 2) := by decide +kernel
theorem dX7_readCommand_22 : decode cX7_readCommand 22 = .ok (.if_icmp .ge 49, 3) := by decide +kernel
theorem dX7_readCommand_25 : decode cX7_readCommand 25 = .ok (.aload_n 3, 1) := by decide +kernel
theorem dX7_readCommand_26 : decode cX7_readCommand 26 = .ok (.iload 5, 2) := by decide +kernel
theorem dX7_readCommand_28 : decode cX7_readCommand 28 = .ok (.aaload, 1) := by decide +kernel
theorem dX7_readCommand_29 : decode cX7_readCommand 29 = .ok (.astore 6, 2) := by decide +kernel
theorem dX7_readCommand_31 : decode cX7_readCommand 31 = .ok (.aload_n 0, 1) := by decide +kernel
theorem dX7_readCommand_32 : decode cX7_readCommand 32 = .ok (.iload_n 1, 1) := by decide +kernel
theorem dX7_readCommand_33 : decode cX7_readCommand 33 = .ok (.putfield 32, 3) := by decide +kernel
theorem dX7_readCommand_36 : decode cX7_readCommand 36 = .ok (.aload_n 0, 1) := by decide +kernel
theorem dX7_readCommand_37 : decode cX7_readCommand 37 = .ok (.aload 6, 2) := by decide +kernel
theorem dX7_readCommand_39 : decode cX7_readCommand 39 = .ok (.getfield 46, 3) := by decide +kernel
theorem dX7_readCommand_42 : decode cX7_readCommand 42 = .ok (.invokevirtual 50, 3) := by decide +kernel
theorem dX7_readCommand_45 : decode cX7_readCommand 45 = .ok (.ifCond .eq 11, 3) := by decide +kernel
theorem dX7_readCommand_48 : decode cX7_readCommand 48 = .ok (.aload_n 0, 1) := by decide +kernel
theorem dX7_readCommand_49 : decode cX7_readCommand 49 = .ok (.aload 6, 2) := by decide +kernel
theorem dX7_readCommand_51 : decode cX7_readCommand 51 = .ok (.invokevirtual 54, 3) := by decide +kernel
theorem dX7_readCommand_54 : decode cX7_readCommand 54 = .ok (.iconst 1, 1) := by decide +kernel
theorem dX7_readCommand_55 : decode cX7_readCommand 55 = .ok (.ireturn, 1) := by decide +kernel
theorem dX7_readCommand_56 : decode cX7_readCommand 56 = .ok (.iload_n 2, 1) := by decide +kernel
theorem dX7_readCommand_57 : decode cX7_readCommand 57 = .ok (.aload_n 0, 1) := by decide +kernel
theorem dX7_readCommand_58 : decode cX7_readCommand 58 = .ok (.getfield 32, 3) := by decide +kernel
theorem dX7_readCommand_61 : decode cX7_readCommand 61 = .ok (.invokestatic 58, 3) := by decide +kernel
theorem dX7_readCommand_64 : decode cX7_readCommand 64 = .ok (.istore_n 2, 1) := by decide +kernel
theorem dX7_readCommand_65 : decode cX7_readCommand 65 = .ok (.iinc 5 1, 3) := by decide +kernel
theorem dX7_readCommand_68 : decode cX7_readCommand 68 = .ok (.goto (-50), 3) := by decide +kernel
theorem dX7_readCommand_71 : decode cX7_readCommand 71 = .ok (.aload_n 0, 1) := by decide +kernel
theorem dX7_readCommand_72 : decode cX7_readCommand 72 = .ok (.iload_n 2, 1) := by decide +kernel
theorem dX7_readCommand_73 : decode cX7_readCommand 73 = .ok (.putfield 32, 3) := by decide +kernel
theorem dX7_readCommand_76 : decode cX7_readCommand 76 = .ok (.iconst 0, 1) := by decide +kernel
theorem dX7_readCommand_77 : decode cX7_readCommand 77 = .ok (.ireturn, 1) := by decide +kernel
theorem dX7_keep_0 : decode cX7_keep 0 = .ok (.aload_n 0, 1) := by decide +kernel
theorem dX7_keep_1 : decode cX7_keep 1 = .ok (.getfield 29, 3) := by decide +kernel
theorem dX7_keep_4 : decode cX7_keep 4 = .ok (.bipush 12, 2) := by decide +kernel
theorem dX7_keep_6 : decode cX7_keep 6 = .ok (.if_icmp .ge 23, 3) := by decide +kernel
theorem dX7_keep_9 : decode cX7_keep 9 = .ok (.aload_n 0, 1) := by decide +kernel
theorem dX7_keep_10 : decode cX7_keep 10 = .ok (.getfield 17, 3) := by decide +kernel
theorem dX7_keep_13 : decode cX7_keep 13 = .ok (.aload_n 0, 1) := by decide +kernel
theorem dX7_keep_14 : decode cX7_keep 14 = .ok (.getfield 29, 3) := by decide +kernel
theorem dX7_keep_17 : decode cX7_keep 17 = .ok (.aload_n 1, 1) := by decide +kernel
theorem dX7_keep_18 : decode cX7_keep 18 = .ok (.aastore, 1) := by decide +kernel
theorem dX7_keep_19 : decode cX7_keep 19 = .ok (.aload_n 0, 1) := by decide +kernel
theorem dX7_keep_20 : decode cX7_keep 20 = .ok (.dup, 1) := by decide +kernel
theorem dX7_keep_21 : decode cX7_keep 21 = .ok (.getfield 29, 3) := by decide +kernel
theorem dX7_keep_24 : decode cX7_keep 24 = .ok (.iconst 1, 1) := by decide +kernel
theorem dX7_keep_25 : decode cX7_keep 25 = .ok (.iadd, 1) := by decide +kernel
theorem dX7_keep_26 : decode cX7_keep 26 = .ok (.putfield 29, 3) := by decide +kernel
theorem dX7_keep_29 : decode cX7_keep 29 = .ok (.return_, 1) := by decide +kernel
theorem dX7_follows_0 : decode cX7_follows 0 = .ok (.aload_n 0, 1) := by decide +kernel
theorem dX7_follows_1 : decode cX7_follows 1 = .ok (.iconst 0, 1) := by decide +kernel
theorem dX7_follows_2 : decode cX7_follows 2 = .ok (.putfield 64, 3) := by decide +kernel
theorem dX7_follows_5 : decode cX7_follows 5 = .ok (.iconst 0, 1) := by decide +kernel
theorem dX7_follows_6 : decode cX7_follows 6 = .ok (.istore_n 2, 1) := by decide +kernel
theorem dX7_follows_7 : decode cX7_follows 7 = .ok (.iload_n 2, 1) := by decide +kernel
theorem dX7_follows_8 : decode cX7_follows 8 = .ok (.aload_n 1, 1) := by decide +kernel
theorem dX7_follows_9 : decode cX7_follows 9 = .ok (.invokevirtual 67, 3) := by decide +kernel
theorem dX7_follows_12 : decode cX7_follows 12 = .ok (.if_icmp .ge 23, 3) := by decide +kernel
theorem dX7_follows_15 : decode cX7_follows 15 = .ok (.aload_n 0, 1) := by decide +kernel
theorem dX7_follows_16 : decode cX7_follows 16 = .ok (.aload_n 1, 1) := by decide +kernel
theorem dX7_follows_17 : decode cX7_follows 17 = .ok (.iload_n 2, 1) := by decide +kernel
theorem dX7_follows_18 : decode cX7_follows 18 = .ok (.invokevirtual 72, 3) := by decide +kernel
theorem dX7_follows_21 : decode cX7_follows 21 = .ok (.invokevirtual 76, 3) := by decide +kernel
theorem dX7_follows_24 : decode cX7_follows 24 = .ok (.ifCond .ne 5, 3) := by decide +kernel
theorem dX7_follows_27 : decode cX7_follows 27 = .ok (.iconst 0, 1) := by decide +kernel
theorem dX7_follows_28 : decode cX7_follows 28 = .ok (.ireturn, 1) := by decide +kernel
theorem dX7_follows_29 : decode cX7_follows 29 = .ok (.iinc 2 1, 3) := by decide +kernel
theorem dX7_follows_32 : decode cX7_follows 32 = .ok (.goto (-25), 3) := by decide +kernel
theorem dX7_follows_35 : decode cX7_follows 35 = .ok (.iconst 1, 1) := by decide +kernel
theorem dX7_follows_36 : decode cX7_follows 36 = .ok (.ireturn, 1) := by decide +kernel
theorem dX7_takePart_0 : decode cX7_takePart 0 = .ok (.iload_n 1, 1) := by decide +kernel
theorem dX7_takePart_1 : decode cX7_takePart 1 = .ok (.lookupswitch 69 #[(68, 35), (78, 42), (83, 49)], 35) := by decide +kernel
theorem dX7_takePart_36 : decode cX7_takePart 36 = .ok (.aload_n 0, 1) := by decide +kernel
theorem dX7_takePart_37 : decode cX7_takePart 37 = .ok (.iconst 1, 1) := by decide +kernel
theorem dX7_takePart_38 : decode cX7_takePart 38 = .ok (.iconst 1, 1) := by decide +kernel
theorem dX7_takePart_39 : decode cX7_takePart 39 = .ok (.invokevirtual 79, 3) := by decide +kernel
theorem dX7_takePart_42 : decode cX7_takePart 42 = .ok (.ireturn, 1) := by decide +kernel
theorem dX7_takePart_43 : decode cX7_takePart 43 = .ok (.aload_n 0, 1) := by decide +kernel
theorem dX7_takePart_44 : decode cX7_takePart 44 = .ok (.iconst 2, 1) := by decide +kernel
theorem dX7_takePart_45 : decode cX7_takePart 45 = .ok (.iconst 1, 1) := by decide +kernel
theorem dX7_takePart_46 : decode cX7_takePart 46 = .ok (.invokevirtual 79, 3) := by decide +kernel
theorem dX7_takePart_49 : decode cX7_takePart 49 = .ok (.ireturn, 1) := by decide +kernel
theorem dX7_takePart_50 : decode cX7_takePart 50 = .ok (.aload_n 0, 1) := by decide +kernel
theorem dX7_takePart_51 : decode cX7_takePart 51 = .ok (.iconst 2, 1) := by decide +kernel
theorem dX7_takePart_52 : decode cX7_takePart 52 = .ok (.aload_n 0, 1) := by decide +kernel
theorem dX7_takePart_53 : decode cX7_takePart 53 = .ok (.bipush 45, 2) := by decide +kernel
theorem dX7_takePart_55 : decode cX7_takePart 55 = .ok (.invokevirtual 39, 3) := by decide +kernel
theorem dX7_takePart_58 : decode cX7_takePart 58 = .ok (.ifCond .eq 7, 3) := by decide +kernel
theorem dX7_takePart_61 : decode cX7_takePart 61 = .ok (.iconst (-1), 1) := by decide +kernel
theorem dX7_takePart_62 : decode cX7_takePart 62 = .ok (.goto 4, 3) := by decide +kernel
theorem dX7_takePart_65 : decode cX7_takePart 65 = .ok (.iconst 1, 1) := by decide +kernel
theorem dX7_takePart_66 : decode cX7_takePart 66 = .ok (.invokevirtual 79, 3) := by decide +kernel
theorem dX7_takePart_69 : decode cX7_takePart 69 = .ok (.ireturn, 1) := by decide +kernel
theorem dX7_takePart_70 : decode cX7_takePart 70 = .ok (.aload_n 0, 1) := by decide +kernel
theorem dX7_takePart_71 : decode cX7_takePart 71 = .ok (.iload_n 1, 1) := by decide +kernel
theorem dX7_takePart_72 : decode cX7_takePart 72 = .ok (.invokevirtual 39, 3) := by decide +kernel
theorem dX7_takePart_75 : decode cX7_takePart 75 = .ok (.ireturn, 1) := by decide +kernel
theorem dX7_take_0 : decode cX7_take 0 = .ok (.aload_n 0, 1) := by decide +kernel
theorem dX7_take_1 : decode cX7_take 1 = .ok (.getfield 32, 3) := by decide +kernel
theorem dX7_take_4 : decode cX7_take 4 = .ok (.aload_n 0, 1) := by decide +kernel
theorem dX7_take_5 : decode cX7_take 5 = .ok (.getfield 25, 3) := by decide +kernel
theorem dX7_take_8 : decode cX7_take 8 = .ok (.if_icmp .ge 16, 3) := by decide +kernel
theorem dX7_take_11 : decode cX7_take 11 = .ok (.aload_n 0, 1) := by decide +kernel
theorem dX7_take_12 : decode cX7_take 12 = .ok (.getfield 11, 3) := by decide +kernel
theorem dX7_take_15 : decode cX7_take 15 = .ok (.aload_n 0, 1) := by decide +kernel
theorem dX7_take_16 : decode cX7_take 16 = .ok (.getfield 32, 3) := by decide +kernel
theorem dX7_take_19 : decode cX7_take 19 = .ok (.caload, 1) := by decide +kernel
theorem dX7_take_20 : decode cX7_take 20 = .ok (.iload_n 1, 1) := by decide +kernel
theorem dX7_take_21 : decode cX7_take 21 = .ok (.if_icmp .eq 5, 3) := by decide +kernel
theorem dX7_take_24 : decode cX7_take 24 = .ok (.iconst 0, 1) := by decide +kernel
theorem dX7_take_25 : decode cX7_take 25 = .ok (.ireturn, 1) := by decide +kernel
theorem dX7_take_26 : decode cX7_take 26 = .ok (.aload_n 0, 1) := by decide +kernel
theorem dX7_take_27 : decode cX7_take 27 = .ok (.dup, 1) := by decide +kernel
theorem dX7_take_28 : decode cX7_take 28 = .ok (.getfield 32, 3) := by decide +kernel
theorem dX7_take_31 : decode cX7_take 31 = .ok (.iconst 1, 1) := by decide +kernel
theorem dX7_take_32 : decode cX7_take 32 = .ok (.iadd, 1) := by decide +kernel
theorem dX7_take_33 : decode cX7_take 33 = .ok (.putfield 32, 3) := by decide +kernel
theorem dX7_take_36 : decode cX7_take 36 = .ok (.iconst 1, 1) := by decide +kernel
theorem dX7_take_37 : decode cX7_take 37 = .ok (.ireturn, 1) := by decide +kernel
theorem dX7_takeNumber_0 : decode cX7_takeNumber 0 = .ok (.iconst 0, 1) := by decide +kernel
theorem dX7_takeNumber_1 : decode cX7_takeNumber 1 = .ok (.istore_n 3, 1) := by decide +kernel
theorem dX7_takeNumber_2 : decode cX7_takeNumber 2 = .ok (.iconst 0, 1) := by decide +kernel
theorem dX7_takeNumber_3 : decode cX7_takeNumber 3 = .ok (.istore 4, 2) := by decide +kernel
theorem dX7_takeNumber_5 : decode cX7_takeNumber 5 = .ok (.iload 4, 2) := by decide +kernel
theorem dX7_takeNumber_7 : decode cX7_takeNumber 7 = .ok (.iload_n 1, 1) := by decide +kernel
theorem dX7_takeNumber_8 : decode cX7_takeNumber 8 = .ok (.if_icmp .ge 67, 3) := by decide +kernel
theorem dX7_takeNumber_11 : decode cX7_takeNumber 11 = .ok (.aload_n 0, 1) := by decide +kernel
theorem dX7_takeNumber_12 : decode cX7_takeNumber 12 = .ok (.getfield 32, 3) := by decide +kernel
theorem dX7_takeNumber_15 : decode cX7_takeNumber 15 = .ok (.aload_n 0, 1) := by decide +kernel
theorem dX7_takeNumber_16 : decode cX7_takeNumber 16 = .ok (.getfield 25, 3) := by decide +kernel
theorem dX7_takeNumber_19 : decode cX7_takeNumber 19 = .ok (.if_icmp .ge 56, 3) := by decide +kernel
theorem dX7_takeNumber_22 : decode cX7_takeNumber 22 = .ok (.aload_n 0, 1) := by decide +kernel
theorem dX7_takeNumber_23 : decode cX7_takeNumber 23 = .ok (.getfield 11, 3) := by decide +kernel
theorem dX7_takeNumber_26 : decode cX7_takeNumber 26 = .ok (.aload_n 0, 1) := by decide +kernel
theorem dX7_takeNumber_27 : decode cX7_takeNumber 27 = .ok (.getfield 32, 3) := by decide +kernel
theorem dX7_takeNumber_30 : decode cX7_takeNumber 30 = .ok (.caload, 1) := by decide +kernel
theorem dX7_takeNumber_31 : decode cX7_takeNumber 31 = .ok (.bipush 48, 2) := by decide +kernel
theorem dX7_takeNumber_33 : decode cX7_takeNumber 33 = .ok (.bipush 57, 2) := by decide +kernel
theorem dX7_takeNumber_35 : decode cX7_takeNumber 35 = .ok (.invokestatic 83, 3) := by decide +kernel
theorem dX7_takeNumber_38 : decode cX7_takeNumber 38 = .ok (.ifCond .eq 37, 3) := by decide +kernel
theorem dX7_takeNumber_41 : decode cX7_takeNumber 41 = .ok (.iload_n 3, 1) := by decide +kernel
theorem dX7_takeNumber_42 : decode cX7_takeNumber 42 = .ok (.bipush 10, 2) := by decide +kernel
theorem dX7_takeNumber_44 : decode cX7_takeNumber 44 = .ok (.imul, 1) := by decide +kernel
theorem dX7_takeNumber_45 : decode cX7_takeNumber 45 = .ok (.aload_n 0, 1) := by decide +kernel
theorem dX7_takeNumber_46 : decode cX7_takeNumber 46 = .ok (.getfield 11, 3) := by decide +kernel
theorem dX7_takeNumber_49 : decode cX7_takeNumber 49 = .ok (.aload_n 0, 1) := by decide +kernel
theorem dX7_takeNumber_50 : decode cX7_takeNumber 50 = .ok (.getfield 32, 3) := by decide +kernel
theorem dX7_takeNumber_53 : decode cX7_takeNumber 53 = .ok (.caload, 1) := by decide +kernel
theorem dX7_takeNumber_54 : decode cX7_takeNumber 54 = .ok (.iadd, 1) := by decide +kernel
theorem dX7_takeNumber_55 : decode cX7_takeNumber 55 = .ok (.bipush 48, 2) := by decide +kernel
theorem dX7_takeNumber_57 : decode cX7_takeNumber 57 = .ok (.isub, 1) := by decide +kernel
theorem dX7_takeNumber_58 : decode cX7_takeNumber 58 = .ok (.istore_n 3, 1) := by decide +kernel
theorem dX7_takeNumber_59 : decode cX7_takeNumber 59 = .ok (.aload_n 0, 1) := by decide +kernel
theorem dX7_takeNumber_60 : decode cX7_takeNumber 60 = .ok (.dup, 1) := by decide +kernel
theorem dX7_takeNumber_61 : decode cX7_takeNumber 61 = .ok (.getfield 32, 3) := by decide +kernel
theorem dX7_takeNumber_64 : decode cX7_takeNumber 64 = .ok (.iconst 1, 1) := by decide +kernel
theorem dX7_takeNumber_65 : decode cX7_takeNumber 65 = .ok (.iadd, 1) := by decide +kernel
theorem dX7_takeNumber_66 : decode cX7_takeNumber 66 = .ok (.putfield 32, 3) := by decide +kernel
theorem dX7_takeNumber_69 : decode cX7_takeNumber 69 = .ok (.iinc 4 1, 3) := by decide +kernel
theorem dX7_takeNumber_72 : decode cX7_takeNumber 72 = .ok (.goto (-67), 3) := by decide +kernel
theorem dX7_takeNumber_75 : decode cX7_takeNumber 75 = .ok (.iload 4, 2) := by decide +kernel
theorem dX7_takeNumber_77 : decode cX7_takeNumber 77 = .ok (.ifCond .le 10, 3) := by decide +kernel
theorem dX7_takeNumber_80 : decode cX7_takeNumber 80 = .ok (.aload_n 0, 1) := by decide +kernel
theorem dX7_takeNumber_81 : decode cX7_takeNumber 81 = .ok (.iload_n 2, 1) := by decide +kernel
theorem dX7_takeNumber_82 : decode cX7_takeNumber 82 = .ok (.iload_n 3, 1) := by decide +kernel
theorem dX7_takeNumber_83 : decode cX7_takeNumber 83 = .ok (.imul, 1) := by decide +kernel
theorem dX7_takeNumber_84 : decode cX7_takeNumber 84 = .ok (.invokevirtual 87, 3) := by decide +kernel
theorem dX7_takeNumber_87 : decode cX7_takeNumber 87 = .ok (.iload 4, 2) := by decide +kernel
theorem dX7_takeNumber_89 : decode cX7_takeNumber 89 = .ok (.ifCond .le 7, 3) := by decide +kernel
theorem dX7_takeNumber_92 : decode cX7_takeNumber 92 = .ok (.iconst 1, 1) := by decide +kernel
theorem dX7_takeNumber_93 : decode cX7_takeNumber 93 = .ok (.goto 4, 3) := by decide +kernel
theorem dX7_takeNumber_96 : decode cX7_takeNumber 96 = .ok (.iconst 0, 1) := by decide +kernel
theorem dX7_takeNumber_97 : decode cX7_takeNumber 97 = .ok (.ireturn, 1) := by decide +kernel
theorem dX7_keepArgument_0 : decode cX7_keepArgument 0 = .ok (.aload_n 0, 1) := by decide +kernel
theorem dX7_keepArgument_1 : decode cX7_keepArgument 1 = .ok (.getfield 29, 3) := by decide +kernel
theorem dX7_keepArgument_4 : decode cX7_keepArgument 4 = .ok (.iconst 3, 1) := by decide +kernel
theorem dX7_keepArgument_5 : decode cX7_keepArgument 5 = .ok (.imul, 1) := by decide +kernel
theorem dX7_keepArgument_6 : decode cX7_keepArgument 6 = .ok (.aload_n 0, 1) := by decide +kernel
theorem dX7_keepArgument_7 : decode cX7_keepArgument 7 = .ok (.getfield 64, 3) := by decide +kernel
theorem dX7_keepArgument_10 : decode cX7_keepArgument 10 = .ok (.iadd, 1) := by decide +kernel
theorem dX7_keepArgument_11 : decode cX7_keepArgument 11 = .ok (.istore_n 2, 1) := by decide +kernel
theorem dX7_keepArgument_12 : decode cX7_keepArgument 12 = .ok (.iload_n 2, 1) := by decide +kernel
theorem dX7_keepArgument_13 : decode cX7_keepArgument 13 = .ok (.ifCond .lt 29, 3) := by decide +kernel
theorem dX7_keepArgument_16 : decode cX7_keepArgument 16 = .ok (.iload_n 2, 1) := by decide +kernel
theorem dX7_keepArgument_17 : decode cX7_keepArgument 17 = .ok (.aload_n 0, 1) := by decide +kernel
theorem dX7_keepArgument_18 : decode cX7_keepArgument 18 = .ok (.getfield 21, 3) := by decide +kernel
theorem dX7_keepArgument_21 : decode cX7_keepArgument 21 = .ok (.arraylength, 1) := by decide +kernel
theorem dX7_keepArgument_22 : decode cX7_keepArgument 22 = .ok (.if_icmp .ge 20, 3) := by decide +kernel
theorem dX7_keepArgument_25 : decode cX7_keepArgument 25 = .ok (.aload_n 0, 1) := by decide +kernel
theorem dX7_keepArgument_26 : decode cX7_keepArgument 26 = .ok (.getfield 21, 3) := by decide +kernel
theorem dX7_keepArgument_29 : decode cX7_keepArgument 29 = .ok (.iload_n 2, 1) := by decide +kernel
theorem dX7_keepArgument_30 : decode cX7_keepArgument 30 = .ok (.iload_n 1, 1) := by decide +kernel
theorem dX7_keepArgument_31 : decode cX7_keepArgument 31 = .ok (.iastore, 1) := by decide +kernel
theorem dX7_keepArgument_32 : decode cX7_keepArgument 32 = .ok (.aload_n 0, 1) := by decide +kernel
theorem dX7_keepArgument_33 : decode cX7_keepArgument 33 = .ok (.dup, 1) := by decide +kernel
theorem dX7_keepArgument_34 : decode cX7_keepArgument 34 = .ok (.getfield 64, 3) := by decide +kernel
theorem dX7_keepArgument_37 : decode cX7_keepArgument 37 = .ok (.iconst 1, 1) := by decide +kernel
theorem dX7_keepArgument_38 : decode cX7_keepArgument 38 = .ok (.iadd, 1) := by decide +kernel
theorem dX7_keepArgument_39 : decode cX7_keepArgument 39 = .ok (.putfield 64, 3) := by decide +kernel
theorem dX7_keepArgument_42 : decode cX7_keepArgument 42 = .ok (.return_, 1) := by decide +kernel
theorem dX8_init_0 : decode cX8_init 0 = .ok (.aload_n 0, 1) := by decide +kernel
theorem dX8_init_1 : decode cX8_init 1 = .ok (.invokespecial 3, 3) := by decide +kernel
theorem dX8_init_4 : decode cX8_init 4 = .ok (.aload_n 0, 1) := by decide +kernel
theorem dX8_init_5 : decode cX8_init 5 = .ok (.bipush 8, 2) := by decide +kernel
theorem dX8_init_7 : decode cX8_init 7 = .ok (.newarray .int, 2) := by decide +kernel
theorem dX8_init_9 : decode cX8_init 9 = .ok (.putfield 11, 3) := by decide +kernel
theorem dX8_init_12 : decode cX8_init 12 = .ok (.aload_n 0, 1) := by decide +kernel
theorem dX8_init_13 : decode cX8_init 13 = .ok (.bipush 8, 2) := by decide +kernel
theorem dX8_init_15 : decode cX8_init 15 = .ok (.newarray .int, 2) := by decide +kernel
theorem dX8_init_17 : decode cX8_init 17 = .ok (.putfield 15, 3) := by decide +kernel
theorem dX8_init_20 : decode cX8_init 20 = .ok (.aload_n 0, 1) := by decide +kernel
theorem dX8_init_21 : decode cX8_init 21 = .ok (.bipush 8, 2) := by decide +kernel
theorem dX8_init_23 : decode cX8_init 23 = .ok (.newarray .int, 2) := by decide +kernel
theorem dX8_init_25 : decode cX8_init 25 = .ok (.putfield 18, 3) := by decide +kernel
theorem dX8_init_28 : decode cX8_init 28 = .ok (.aload_n 0, 1) := by decide +kernel
theorem dX8_init_29 : decode cX8_init 29 = .ok (.bipush 8, 2) := by decide +kernel
theorem dX8_init_31 : decode cX8_init 31 = .ok (.newarray .int, 2) := by decide +kernel
theorem dX8_init_33 : decode cX8_init 33 = .ok (.putfield 21, 3) := by decide +kernel
theorem dX8_init_36 : decode cX8_init 36 = .ok (.return_, 1) := by decide +kernel
theorem dX8_copyFrom_0 : decode cX8_copyFrom 0 = .ok (.aload_n 1, 1) := by decide +kernel
theorem dX8_copyFrom_1 : decode cX8_copyFrom 1 = .ok (.getfield 11, 3) := by decide +kernel
theorem dX8_copyFrom_4 : decode cX8_copyFrom 4 = .ok (.aload_n 0, 1) := by decide +kernel
theorem dX8_copyFrom_5 : decode cX8_copyFrom 5 = .ok (.getfield 11, 3) := by decide +kernel
theorem dX8_copyFrom_8 : decode cX8_copyFrom 8 = .ok (.invokestatic 24, 3) := by decide +kernel
theorem dX8_copyFrom_11 : decode cX8_copyFrom 11 = .ok (.aload_n 1, 1) := by decide +kernel
theorem dX8_copyFrom_12 : decode cX8_copyFrom 12 = .ok (.getfield 15, 3) := by decide +kernel
theorem dX8_copyFrom_15 : decode cX8_copyFrom 15 = .ok (.aload_n 0, 1) := by decide +kernel
theorem dX8_copyFrom_16 : decode cX8_copyFrom 16 = .ok (.getfield 15, 3) := by decide +kernel
theorem dX8_copyFrom_19 : decode cX8_copyFrom 19 = .ok (.invokestatic 24, 3) := by decide +kernel
theorem dX8_copyFrom_22 : decode cX8_copyFrom 22 = .ok (.aload_n 1, 1) := by decide +kernel
theorem dX8_copyFrom_23 : decode cX8_copyFrom 23 = .ok (.getfield 18, 3) := by decide +kernel
theorem dX8_copyFrom_26 : decode cX8_copyFrom 26 = .ok (.aload_n 0, 1) := by decide +kernel
theorem dX8_copyFrom_27 : decode cX8_copyFrom 27 = .ok (.getfield 18, 3) := by decide +kernel
theorem dX8_copyFrom_30 : decode cX8_copyFrom 30 = .ok (.invokestatic 24, 3) := by decide +kernel
theorem dX8_copyFrom_33 : decode cX8_copyFrom 33 = .ok (.aload_n 1, 1) := by decide +kernel
theorem dX8_copyFrom_34 : decode cX8_copyFrom 34 = .ok (.getfield 21, 3) := by decide +kernel
theorem dX8_copyFrom_37 : decode cX8_copyFrom 37 = .ok (.aload_n 0, 1) := by decide +kernel
theorem dX8_copyFrom_38 : decode cX8_copyFrom 38 = .ok (.getfield 21, 3) := by decide +kernel
theorem dX8_copyFrom_41 : decode cX8_copyFrom 41 = .ok (.invokestatic 24, 3) := by decide +kernel
theorem dX8_copyFrom_44 : decode cX8_copyFrom 44 = .ok (.aload_n 0, 1) := by decide +kernel
theorem dX8_copyFrom_45 : decode cX8_copyFrom 45 = .ok (.aload_n 1, 1) := by decide +kernel
theorem dX8_copyFrom_46 : decode cX8_copyFrom 46 = .ok (.getfield 28, 3) := by decide +kernel
theorem dX8_copyFrom_49 : decode cX8_copyFrom 49 = .ok (.putfield 28, 3) := by decide +kernel
theorem dX8_copyFrom_52 : decode cX8_copyFrom 52 = .ok (.aload_n 0, 1) := by decide +kernel
theorem dX8_copyFrom_53 : decode cX8_copyFrom 53 = .ok (.aload_n 1, 1) := by decide +kernel
theorem dX8_copyFrom_54 : decode cX8_copyFrom 54 = .ok (.getfield 32, 3) := by decide +kernel
theorem dX8_copyFrom_57 : decode cX8_copyFrom 57 = .ok (.putfield 32, 3) := by decide +kernel
theorem dX8_copyFrom_60 : decode cX8_copyFrom 60 = .ok (.aload_n 0, 1) := by decide +kernel
theorem dX8_copyFrom_61 : decode cX8_copyFrom 61 = .ok (.aload_n 1, 1) := by decide +kernel
theorem dX8_copyFrom_62 : decode cX8_copyFrom 62 = .ok (.getfield 35, 3) := by decide +kernel
theorem dX8_copyFrom_65 : decode cX8_copyFrom 65 = .ok (.putfield 35, 3) := by decide +kernel
theorem dX8_copyFrom_68 : decode cX8_copyFrom 68 = .ok (.aload_n 0, 1) := by decide +kernel
theorem dX8_copyFrom_69 : decode cX8_copyFrom 69 = .ok (.aload_n 1, 1) := by decide +kernel
theorem dX8_copyFrom_70 : decode cX8_copyFrom 70 = .ok (.getfield 38, 3) := by decide +kernel
theorem dX8_copyFrom_73 : decode cX8_copyFrom 73 = .ok (.putfield 38, 3) := by decide +kernel
theorem dX8_copyFrom_76 : decode cX8_copyFrom 76 = .ok (.return_, 1) := by decide +kernel
theorem dX8_has_0 : decode cX8_has 0 = .ok (.iload_n 1, 1) := by decide +kernel
theorem dX8_has_1 : decode cX8_has 1 = .ok (.ifCond .lt 15, 3) := by decide +kernel
theorem dX8_has_4 : decode cX8_has 4 = .ok (.iload_n 1, 1) := by decide +kernel
theorem dX8_has_5 : decode cX8_has 5 = .ok (.aload_n 0, 1) := by decide +kernel
theorem dX8_has_6 : decode cX8_has 6 = .ok (.getfield 28, 3) := by decide +kernel
theorem dX8_has_9 : decode cX8_has 9 = .ok (.if_icmp .ge 7, 3) := by decide +kernel
theorem dX8_has_12 : decode cX8_has 12 = .ok (.iconst 1, 1) := by decide +kernel
theorem dX8_has_13 : decode cX8_has 13 = .ok (.goto 4, 3) := by decide +kernel
theorem dX8_has_16 : decode cX8_has 16 = .ok (.iconst 0, 1) := by decide +kernel
theorem dX8_has_17 : decode cX8_has 17 = .ok (.ireturn, 1) := by decide +kernel
theorem dX8_add_0 : decode cX8_add 0 = .ok (.aload_n 0, 1) := by decide +kernel
theorem dX8_add_1 : decode cX8_add 1 = .ok (.getfield 28, 3) := by decide +kernel
theorem dX8_add_4 : decode cX8_add 4 = .ok (.bipush 8, 2) := by decide +kernel
theorem dX8_add_6 : decode cX8_add 6 = .ok (.if_icmp .lt 5, 3) := by decide +kernel
theorem dX8_add_9 : decode cX8_add 9 = .ok (.iconst (-1), 1) := by decide +kernel
theorem dX8_add_10 : decode cX8_add 10 = .ok (.ireturn, 1) := by decide +kernel
theorem dX8_add_11 : decode cX8_add 11 = .ok (.aload_n 0, 1) := by decide +kernel
theorem dX8_add_12 : decode cX8_add 12 = .ok (.getfield 11, 3) := by decide +kernel
theorem dX8_add_15 : decode cX8_add 15 = .ok (.aload_n 0, 1) := by decide +kernel
theorem dX8_add_16 : decode cX8_add 16 = .ok (.getfield 28, 3) := by decide +kernel
theorem dX8_add_19 : decode cX8_add 19 = .ok (.iload_n 1, 1) := by decide +kernel
theorem dX8_add_20 : decode cX8_add 20 = .ok (.iastore, 1) := by decide +kernel
theorem dX8_add_21 : decode cX8_add 21 = .ok (.aload_n 0, 1) := by decide +kernel
theorem dX8_add_22 : decode cX8_add 22 = .ok (.getfield 15, 3) := by decide +kernel
theorem dX8_add_25 : decode cX8_add 25 = .ok (.aload_n 0, 1) := by decide +kernel
theorem dX8_add_26 : decode cX8_add 26 = .ok (.getfield 28, 3) := by decide +kernel
theorem dX8_add_29 : decode cX8_add 29 = .ok (.iload_n 2, 1) := by decide +kernel
theorem dX8_add_30 : decode cX8_add 30 = .ok (.iastore, 1) := by decide +kernel
theorem dX8_add_31 : decode cX8_add 31 = .ok (.aload_n 0, 1) := by decide +kernel
theorem dX8_add_32 : decode cX8_add 32 = .ok (.getfield 18, 3) := by decide +kernel
theorem dX8_add_35 : decode cX8_add 35 = .ok (.aload_n 0, 1) := by decide +kernel
theorem dX8_add_36 : decode cX8_add 36 = .ok (.getfield 28, 3) := by decide +kernel
theorem dX8_add_39 : decode cX8_add 39 = .ok (.iconst 5, 1) := by decide +kernel
theorem dX8_add_40 : decode cX8_add 40 = .ok (.iastore, 1) := by decide +kernel
theorem dX8_add_41 : decode cX8_add 41 = .ok (.aload_n 0, 1) := by decide +kernel
theorem dX8_add_42 : decode cX8_add 42 = .ok (.getfield 21, 3) := by decide +kernel
theorem dX8_add_45 : decode cX8_add 45 = .ok (.aload_n 0, 1) := by decide +kernel
theorem dX8_add_46 : decode cX8_add 46 = .ok (.getfield 28, 3) := by decide +kernel
theorem dX8_add_49 : decode cX8_add 49 = .ok (.iconst 0, 1) := by decide +kernel
theorem dX8_add_50 : decode cX8_add 50 = .ok (.iastore, 1) := by decide +kernel
theorem dX8_add_51 : decode cX8_add 51 = .ok (.aload_n 0, 1) := by decide +kernel
theorem dX8_add_52 : decode cX8_add 52 = .ok (.dup, 1) := by decide +kernel
theorem dX8_add_53 : decode cX8_add 53 = .ok (.getfield 28, 3) := by decide +kernel
theorem dX8_add_56 : decode cX8_add 56 = .ok (.iconst 1, 1) := by decide +kernel
theorem dX8_add_57 : decode cX8_add 57 = .ok (.iadd, 1) := by decide +kernel
theorem dX8_add_58 : decode cX8_add 58 = .ok (.putfield 28, 3) := by decide +kernel
theorem dX8_add_61 : decode cX8_add 61 = .ok (.aload_n 0, 1) := by decide +kernel
theorem dX8_add_62 : decode cX8_add 62 = .ok (.getfield 28, 3) := by decide +kernel
theorem dX8_add_65 : decode cX8_add 65 = .ok (.iconst 1, 1) := by decide +kernel
theorem dX8_add_66 : decode cX8_add 66 = .ok (.isub, 1) := by decide +kernel
theorem dX8_add_67 : decode cX8_add 67 = .ok (.ireturn, 1) := by decide +kernel
theorem dX8_letSpeak_0 : decode cX8_letSpeak 0 = .ok (.aload_n 0, 1) := by decide +kernel
theorem dX8_letSpeak_1 : decode cX8_letSpeak 1 = .ok (.iload_n 1, 1) := by decide +kernel
theorem dX8_letSpeak_2 : decode cX8_letSpeak 2 = .ok (.invokevirtual 41, 3) := by decide +kernel
theorem dX8_letSpeak_5 : decode cX8_letSpeak 5 = .ok (.ifCond .ne 5, 3) := by decide +kernel
theorem dX8_letSpeak_8 : decode cX8_letSpeak 8 = .ok (.iconst (-1), 1) := by decide +kernel
theorem dX8_letSpeak_9 : decode cX8_letSpeak 9 = .ok (.ireturn, 1) := by decide +kernel
theorem dX8_letSpeak_10 : decode cX8_letSpeak 10 = .ok (.aload_n 0, 1) := by decide +kernel
theorem dX8_letSpeak_11 : decode cX8_letSpeak 11 = .ok (.getfield 18, 3) := by decide +kernel
theorem dX8_letSpeak_14 : decode cX8_letSpeak 14 = .ok (.iload_n 1, 1) := by decide +kernel
theorem dX8_letSpeak_15 : decode cX8_letSpeak 15 = .ok (.dup2, 1) := by decide +kernel
theorem dX8_letSpeak_16 : decode cX8_letSpeak 16 = .ok (.iaload, 1) := by decide +kernel
theorem dX8_letSpeak_17 : decode cX8_letSpeak 17 = .ok (.iconst 1, 1) := by decide +kernel
theorem dX8_letSpeak_18 : decode cX8_letSpeak 18 = .ok (.isub, 1) := by decide +kernel
theorem dX8_letSpeak_19 : decode cX8_letSpeak 19 = .ok (.iastore, 1) := by decide +kernel
theorem dX8_letSpeak_20 : decode cX8_letSpeak 20 = .ok (.aload_n 0, 1) := by decide +kernel
theorem dX8_letSpeak_21 : decode cX8_letSpeak 21 = .ok (.dup, 1) := by decide +kernel
theorem dX8_letSpeak_22 : decode cX8_letSpeak 22 = .ok (.getfield 38, 3) := by decide +kernel
theorem dX8_letSpeak_25 : decode cX8_letSpeak 25 = .ok (.iconst 1, 1) := by decide +kernel
theorem dX8_letSpeak_26 : decode cX8_letSpeak 26 = .ok (.iadd, 1) := by decide +kernel
theorem dX8_letSpeak_27 : decode cX8_letSpeak 27 = .ok (.putfield 38, 3) := by decide +kernel
theorem dX8_letSpeak_30 : decode cX8_letSpeak 30 = .ok (.aload_n 0, 1) := by decide +kernel
theorem dX8_letSpeak_31 : decode cX8_letSpeak 31 = .ok (.getfield 21, 3) := by decide +kernel
theorem dX8_letSpeak_34 : decode cX8_letSpeak 34 = .ok (.iload_n 1, 1) := by decide +kernel
theorem dX8_letSpeak_35 : decode cX8_letSpeak 35 = .ok (.dup2, 1) := by decide +kernel
theorem dX8_letSpeak_36 : decode cX8_letSpeak 36 = .ok (.iaload, 1) := by decide +kernel
theorem dX8_letSpeak_37 : decode cX8_letSpeak 37 = .ok (.iconst 1, 1) := by decide +kernel
theorem dX8_letSpeak_38 : decode cX8_letSpeak 38 = .ok (.iadd, 1) := by decide +kernel
theorem dX8_letSpeak_39 : decode cX8_letSpeak 39 = .ok (.iastore, 1) := by decide +kernel
theorem dX8_letSpeak_40 : decode cX8_letSpeak 40 = .ok (.aload_n 0, 1) := by decide +kernel
theorem dX8_letSpeak_41 : decode cX8_letSpeak 41 = .ok (.getfield 21, 3) := by decide +kernel
theorem dX8_letSpeak_44 : decode cX8_letSpeak 44 = .ok (.iload_n 1, 1) := by decide +kernel
theorem dX8_letSpeak_45 : decode cX8_letSpeak 45 = .ok (.iaload, 1) := by decide +kernel
theorem dX8_letSpeak_46 : decode cX8_letSpeak 46 = .ok (.ireturn, 1) := by decide +kernel
theorem dX8_give_0 : decode cX8_give 0 = .ok (.aload_n 0, 1) := by decide +kernel
theorem dX8_give_1 : decode cX8_give 1 = .ok (.iload_n 1, 1) := by decide +kernel
theorem dX8_give_2 : decode cX8_give 2 = .ok (.invokevirtual 41, 3) := by decide +kernel
theorem dX8_give_5 : decode cX8_give 5 = .ok (.ifCond .ne 5, 3) := by decide +kernel
theorem dX8_give_8 : decode cX8_give 8 = .ok (.iconst (-1), 1) := by decide +kernel
theorem dX8_give_9 : decode cX8_give 9 = .ok (.ireturn, 1) := by decide +kernel
theorem dX8_give_10 : decode cX8_give 10 = .ok (.aload_n 0, 1) := by decide +kernel
theorem dX8_give_11 : decode cX8_give 11 = .ok (.getfield 18, 3) := by decide +kernel
theorem dX8_give_14 : decode cX8_give 14 = .ok (.iload_n 1, 1) := by decide +kernel
theorem dX8_give_15 : decode cX8_give 15 = .ok (.dup2, 1) := by decide +kernel
theorem dX8_give_16 : decode cX8_give 16 = .ok (.iaload, 1) := by decide +kernel
theorem dX8_give_17 : decode cX8_give 17 = .ok (.iload_n 2, 1) := by decide +kernel
theorem dX8_give_18 : decode cX8_give 18 = .ok (.iadd, 1) := by decide +kernel
theorem dX8_give_19 : decode cX8_give 19 = .ok (.iastore, 1) := by decide +kernel
theorem dX8_give_20 : decode cX8_give 20 = .ok (.aload_n 0, 1) := by decide +kernel
theorem dX8_give_21 : decode cX8_give 21 = .ok (.dup, 1) := by decide +kernel
theorem dX8_give_22 : decode cX8_give 22 = .ok (.getfield 32, 3) := by decide +kernel
theorem dX8_give_25 : decode cX8_give 25 = .ok (.iload_n 2, 1) := by decide +kernel
theorem dX8_give_26 : decode cX8_give 26 = .ok (.iadd, 1) := by decide +kernel
theorem dX8_give_27 : decode cX8_give 27 = .ok (.putfield 32, 3) := by decide +kernel
theorem dX8_give_30 : decode cX8_give 30 = .ok (.aload_n 0, 1) := by decide +kernel
theorem dX8_give_31 : decode cX8_give 31 = .ok (.getfield 18, 3) := by decide +kernel
theorem dX8_give_34 : decode cX8_give 34 = .ok (.iload_n 1, 1) := by decide +kernel
theorem dX8_give_35 : decode cX8_give 35 = .ok (.iaload, 1) := by decide +kernel
theorem dX8_give_36 : decode cX8_give 36 = .ok (.ireturn, 1) := by decide +kernel
theorem dX8_gain_0 : decode cX8_gain 0 = .ok (.aload_n 0, 1) := by decide +kernel
theorem dX8_gain_1 : decode cX8_gain 1 = .ok (.iload_n 1, 1) := by decide +kernel
theorem dX8_gain_2 : decode cX8_gain 2 = .ok (.invokevirtual 41, 3) := by decide +kernel
theorem dX8_gain_5 : decode cX8_gain 5 = .ok (.ifCond .eq 23, 3) := by decide +kernel
theorem dX8_gain_8 : decode cX8_gain 8 = .ok (.aload_n 0, 1) := by decide +kernel
theorem dX8_gain_9 : decode cX8_gain 9 = .ok (.getfield 18, 3) := by decide +kernel
theorem dX8_gain_12 : decode cX8_gain 12 = .ok (.iload_n 1, 1) := by decide +kernel
theorem dX8_gain_13 : decode cX8_gain 13 = .ok (.dup2, 1) := by decide +kernel
theorem dX8_gain_14 : decode cX8_gain 14 = .ok (.iaload, 1) := by decide +kernel
theorem dX8_gain_15 : decode cX8_gain 15 = .ok (.iload_n 2, 1) := by decide +kernel
theorem dX8_gain_16 : decode cX8_gain 16 = .ok (.iadd, 1) := by decide +kernel
theorem dX8_gain_17 : decode cX8_gain 17 = .ok (.iastore, 1) := by decide +kernel
theorem dX8_gain_18 : decode cX8_gain 18 = .ok (.aload_n 0, 1) := by decide +kernel
theorem dX8_gain_19 : decode cX8_gain 19 = .ok (.dup, 1) := by decide +kernel
theorem dX8_gain_20 : decode cX8_gain 20 = .ok (.getfield 35, 3) := by decide +kernel
theorem dX8_gain_23 : decode cX8_gain 23 = .ok (.iload_n 2, 1) := by decide +kernel
theorem dX8_gain_24 : decode cX8_gain 24 = .ok (.iadd, 1) := by decide +kernel
theorem dX8_gain_25 : decode cX8_gain 25 = .ok (.putfield 35, 3) := by decide +kernel
theorem dX8_gain_28 : decode cX8_gain 28 = .ok (.return_, 1) := by decide +kernel
theorem dX8_forgetSpeeches_0 : decode cX8_forgetSpeeches 0 = .ok (.iconst 0, 1) := by decide +kernel
theorem dX8_forgetSpeeches_1 : decode cX8_forgetSpeeches 1 = .ok (.istore_n 1, 1) := by decide +kernel
theorem dX8_forgetSpeeches_2 : decode cX8_forgetSpeeches 2 = .ok (.iload_n 1, 1) := by decide +kernel
theorem dX8_forgetSpeeches_3 : decode cX8_forgetSpeeches 3 = .ok (.bipush 8, 2) := by decide +kernel
theorem dX8_forgetSpeeches_5 : decode cX8_forgetSpeeches 5 = .ok (.if_icmp .ge 16, 3) := by decide +kernel
theorem dX8_forgetSpeeches_8 : decode cX8_forgetSpeeches 8 = .ok (.aload_n 0, 1) := by decide +kernel
theorem dX8_forgetSpeeches_9 : decode cX8_forgetSpeeches 9 = .ok (.getfield 21, 3) := by decide +kernel
theorem dX8_forgetSpeeches_12 : decode cX8_forgetSpeeches 12 = .ok (.iload_n 1, 1) := by decide +kernel
theorem dX8_forgetSpeeches_13 : decode cX8_forgetSpeeches 13 = .ok (.iconst 0, 1) := by decide +kernel
theorem dX8_forgetSpeeches_14 : decode cX8_forgetSpeeches 14 = .ok (.iastore, 1) := by decide +kernel
theorem dX8_forgetSpeeches_15 : decode cX8_forgetSpeeches 15 = .ok (.iinc 1 1, 3) := by decide +kernel
theorem dX8_forgetSpeeches_18 : decode cX8_forgetSpeeches 18 = .ok (.goto (-16), 3) := by decide +kernel
theorem dX8_forgetSpeeches_21 : decode cX8_forgetSpeeches 21 = .ok (.return_, 1) := by decide +kernel
theorem dX8_weightSum_0 : decode cX8_weightSum 0 = .ok (.aload_n 0, 1) := by decide +kernel
theorem dX8_weightSum_1 : decode cX8_weightSum 1 = .ok (.aload_n 0, 1) := by decide +kernel
theorem dX8_weightSum_2 : decode cX8_weightSum 2 = .ok (.getfield 11, 3) := by decide +kernel
theorem dX8_weightSum_5 : decode cX8_weightSum 5 = .ok (.invokevirtual 45, 3) := by decide +kernel
theorem dX8_weightSum_8 : decode cX8_weightSum 8 = .ok (.ireturn, 1) := by decide +kernel
theorem dX8_stanceSum_0 : decode cX8_stanceSum 0 = .ok (.aload_n 0, 1) := by decide +kernel
theorem dX8_stanceSum_1 : decode cX8_stanceSum 1 = .ok (.aload_n 0, 1) := by decide +kernel
theorem dX8_stanceSum_2 : decode cX8_stanceSum 2 = .ok (.getfield 15, 3) := by decide +kernel
theorem dX8_stanceSum_5 : decode cX8_stanceSum 5 = .ok (.invokevirtual 45, 3) := by decide +kernel
theorem dX8_stanceSum_8 : decode cX8_stanceSum 8 = .ok (.ireturn, 1) := by decide +kernel
theorem dX8_countedLumps_0 : decode cX8_countedLumps 0 = .ok (.aload_n 0, 1) := by decide +kernel
theorem dX8_countedLumps_1 : decode cX8_countedLumps 1 = .ok (.aload_n 0, 1) := by decide +kernel
theorem dX8_countedLumps_2 : decode cX8_countedLumps 2 = .ok (.getfield 18, 3) := by decide +kernel
theorem dX8_countedLumps_5 : decode cX8_countedLumps 5 = .ok (.invokevirtual 45, 3) := by decide +kernel
theorem dX8_countedLumps_8 : decode cX8_countedLumps 8 = .ok (.ireturn, 1) := by decide +kernel
theorem dX8_accountedLumps_0 : decode cX8_accountedLumps 0 = .ok (.iconst 5, 1) := by decide +kernel
theorem dX8_accountedLumps_1 : decode cX8_accountedLumps 1 = .ok (.aload_n 0, 1) := by decide +kernel
theorem dX8_accountedLumps_2 : decode cX8_accountedLumps 2 = .ok (.getfield 28, 3) := by decide +kernel
theorem dX8_accountedLumps_5 : decode cX8_accountedLumps 5 = .ok (.imul, 1) := by decide +kernel
theorem dX8_accountedLumps_6 : decode cX8_accountedLumps 6 = .ok (.aload_n 0, 1) := by decide +kernel
theorem dX8_accountedLumps_7 : decode cX8_accountedLumps 7 = .ok (.getfield 32, 3) := by decide +kernel
theorem dX8_accountedLumps_10 : decode cX8_accountedLumps 10 = .ok (.iadd, 1) := by decide +kernel
theorem dX8_accountedLumps_11 : decode cX8_accountedLumps 11 = .ok (.aload_n 0, 1) := by decide +kernel
theorem dX8_accountedLumps_12 : decode cX8_accountedLumps 12 = .ok (.getfield 35, 3) := by decide +kernel
theorem dX8_accountedLumps_15 : decode cX8_accountedLumps 15 = .ok (.iadd, 1) := by decide +kernel
theorem dX8_accountedLumps_16 : decode cX8_accountedLumps 16 = .ok (.aload_n 0, 1) := by decide +kernel
theorem dX8_accountedLumps_17 : decode cX8_accountedLumps 17 = .ok (.getfield 38, 3) := by decide +kernel
theorem dX8_accountedLumps_20 : decode cX8_accountedLumps 20 = .ok (.isub, 1) := by decide +kernel
theorem dX8_accountedLumps_21 : decode cX8_accountedLumps 21 = .ok (.ireturn, 1) := by decide +kernel
theorem dX8_sumOf_0 : decode cX8_sumOf 0 = .ok (.iconst 0, 1) := by decide +kernel
theorem dX8_sumOf_1 : decode cX8_sumOf 1 = .ok (.istore_n 2, 1) := by decide +kernel
theorem dX8_sumOf_2 : decode cX8_sumOf 2 = .ok (.iconst 0, 1) := by decide +kernel
theorem dX8_sumOf_3 : decode cX8_sumOf 3 = .ok (.istore_n 3, 1) := by decide +kernel
theorem dX8_sumOf_4 : decode cX8_sumOf 4 = .ok (.iload_n 3, 1) := by decide +kernel
theorem dX8_sumOf_5 : decode cX8_sumOf 5 = .ok (.aload_n 0, 1) := by decide +kernel
theorem dX8_sumOf_6 : decode cX8_sumOf 6 = .ok (.getfield 28, 3) := by decide +kernel
theorem dX8_sumOf_9 : decode cX8_sumOf 9 = .ok (.if_icmp .ge 21, 3) := by decide +kernel
theorem dX8_sumOf_12 : decode cX8_sumOf 12 = .ok (.iload_n 3, 1) := by decide +kernel
theorem dX8_sumOf_13 : decode cX8_sumOf 13 = .ok (.aload_n 1, 1) := by decide +kernel
theorem dX8_sumOf_14 : decode cX8_sumOf 14 = .ok (.arraylength, 1) := by decide +kernel
theorem dX8_sumOf_15 : decode cX8_sumOf 15 = .ok (.if_icmp .ge 15, 3) := by decide +kernel
theorem dX8_sumOf_18 : decode cX8_sumOf 18 = .ok (.iload_n 2, 1) := by decide +kernel
theorem dX8_sumOf_19 : decode cX8_sumOf 19 = .ok (.aload_n 1, 1) := by decide +kernel
theorem dX8_sumOf_20 : decode cX8_sumOf 20 = .ok (.iload_n 3, 1) := by decide +kernel
theorem dX8_sumOf_21 : decode cX8_sumOf 21 = .ok (.iaload, 1) := by decide +kernel
theorem dX8_sumOf_22 : decode cX8_sumOf 22 = .ok (.iadd, 1) := by decide +kernel
theorem dX8_sumOf_23 : decode cX8_sumOf 23 = .ok (.istore_n 2, 1) := by decide +kernel
theorem dX8_sumOf_24 : decode cX8_sumOf 24 = .ok (.iinc 3 1, 3) := by decide +kernel
theorem dX8_sumOf_27 : decode cX8_sumOf 27 = .ok (.goto (-23), 3) := by decide +kernel
theorem dX8_sumOf_30 : decode cX8_sumOf 30 = .ok (.iload_n 2, 1) := by decide +kernel
theorem dX8_sumOf_31 : decode cX8_sumOf 31 = .ok (.ireturn, 1) := by decide +kernel
theorem dX8_preferring_0 : decode cX8_preferring 0 = .ok (.iconst 0, 1) := by decide +kernel
theorem dX8_preferring_1 : decode cX8_preferring 1 = .ok (.istore_n 3, 1) := by decide +kernel
theorem dX8_preferring_2 : decode cX8_preferring 2 = .ok (.iconst 0, 1) := by decide +kernel
theorem dX8_preferring_3 : decode cX8_preferring 3 = .ok (.istore 4, 2) := by decide +kernel
theorem dX8_preferring_5 : decode cX8_preferring 5 = .ok (.iload 4, 2) := by decide +kernel
theorem dX8_preferring_7 : decode cX8_preferring 7 = .ok (.aload_n 0, 1) := by decide +kernel
theorem dX8_preferring_8 : decode cX8_preferring 8 = .ok (.getfield 28, 3) := by decide +kernel
theorem dX8_preferring_11 : decode cX8_preferring 11 = .ok (.if_icmp .ge 46, 3) := by decide +kernel
theorem dX8_preferring_14 : decode cX8_preferring 14 = .ok (.iload_n 1, 1) := by decide +kernel
theorem dX8_preferring_15 : decode cX8_preferring 15 = .ok (.aload_n 0, 1) := by decide +kernel
theorem dX8_preferring_16 : decode cX8_preferring 16 = .ok (.getfield 15, 3) := by decide +kernel
theorem dX8_preferring_19 : decode cX8_preferring 19 = .ok (.iload 4, 2) := by decide +kernel
theorem dX8_preferring_21 : decode cX8_preferring 21 = .ok (.iaload, 1) := by decide +kernel
theorem dX8_preferring_22 : decode cX8_preferring 22 = .ok (.isub, 1) := by decide +kernel
theorem dX8_preferring_23 : decode cX8_preferring 23 = .ok (.invokestatic 49, 3) := by decide +kernel
theorem dX8_preferring_26 : decode cX8_preferring 26 = .ok (.iload_n 2, 1) := by decide +kernel
theorem dX8_preferring_27 : decode cX8_preferring 27 = .ok (.aload_n 0, 1) := by decide +kernel
theorem dX8_preferring_28 : decode cX8_preferring 28 = .ok (.getfield 15, 3) := by decide +kernel
theorem dX8_preferring_31 : decode cX8_preferring 31 = .ok (.iload 4, 2) := by decide +kernel
theorem dX8_preferring_33 : decode cX8_preferring 33 = .ok (.iaload, 1) := by decide +kernel
theorem dX8_preferring_34 : decode cX8_preferring 34 = .ok (.isub, 1) := by decide +kernel
theorem dX8_preferring_35 : decode cX8_preferring 35 = .ok (.invokestatic 49, 3) := by decide +kernel
theorem dX8_preferring_38 : decode cX8_preferring 38 = .ok (.if_icmp .ge 13, 3) := by decide +kernel
theorem dX8_preferring_41 : decode cX8_preferring 41 = .ok (.iload_n 3, 1) := by decide +kernel
theorem dX8_preferring_42 : decode cX8_preferring 42 = .ok (.aload_n 0, 1) := by decide +kernel
theorem dX8_preferring_43 : decode cX8_preferring 43 = .ok (.getfield 11, 3) := by decide +kernel
theorem dX8_preferring_46 : decode cX8_preferring 46 = .ok (.iload 4, 2) := by decide +kernel
theorem dX8_preferring_48 : decode cX8_preferring 48 = .ok (.iaload, 1) := by decide +kernel
theorem dX8_preferring_49 : decode cX8_preferring 49 = .ok (.iadd, 1) := by decide +kernel
theorem dX8_preferring_50 : decode cX8_preferring 50 = .ok (.istore_n 3, 1) := by decide +kernel
theorem dX8_preferring_51 : decode cX8_preferring 51 = .ok (.iinc 4 1, 3) := by decide +kernel
theorem dX8_preferring_54 : decode cX8_preferring 54 = .ok (.goto (-49), 3) := by decide +kernel
theorem dX8_preferring_57 : decode cX8_preferring 57 = .ok (.iload_n 3, 1) := by decide +kernel
theorem dX8_preferring_58 : decode cX8_preferring 58 = .ok (.ireturn, 1) := by decide +kernel
theorem dX8_atSugarRank_0 : decode cX8_atSugarRank 0 = .ok (.iconst 0, 1) := by decide +kernel
theorem dX8_atSugarRank_1 : decode cX8_atSugarRank 1 = .ok (.istore_n 2, 1) := by decide +kernel
theorem dX8_atSugarRank_2 : decode cX8_atSugarRank 2 = .ok (.iload_n 2, 1) := by decide +kernel
theorem dX8_atSugarRank_3 : decode cX8_atSugarRank 3 = .ok (.aload_n 0, 1) := by decide +kernel
theorem dX8_atSugarRank_4 : decode cX8_atSugarRank 4 = .ok (.getfield 28, 3) := by decide +kernel
theorem dX8_atSugarRank_7 : decode cX8_atSugarRank 7 = .ok (.if_icmp .ge 49, 3) := by decide +kernel
theorem dX8_atSugarRank_10 : decode cX8_atSugarRank 10 = .ok (.iconst 0, 1) := by decide +kernel
theorem dX8_atSugarRank_11 : decode cX8_atSugarRank 11 = .ok (.istore_n 3, 1) := by decide +kernel
theorem dX8_atSugarRank_12 : decode cX8_atSugarRank 12 = .ok (.iconst 0, 1) := by decide +kernel
theorem dX8_atSugarRank_13 : decode cX8_atSugarRank 13 = .ok (.istore 4, 2) := by decide +kernel
theorem dX8_atSugarRank_15 : decode cX8_atSugarRank 15 = .ok (.iload 4, 2) := by decide +kernel
theorem dX8_atSugarRank_17 : decode cX8_atSugarRank 17 = .ok (.aload_n 0, 1) := by decide +kernel
theorem dX8_atSugarRank_18 : decode cX8_atSugarRank 18 = .ok (.getfield 28, 3) := by decide +kernel
theorem dX8_atSugarRank_21 : decode cX8_atSugarRank 21 = .ok (.if_icmp .ge 22, 3) := by decide +kernel
theorem dX8_atSugarRank_24 : decode cX8_atSugarRank 24 = .ok (.aload_n 0, 1) := by decide +kernel
theorem dX8_atSugarRank_25 : decode cX8_atSugarRank 25 = .ok (.iload 4, 2) := by decide +kernel
theorem dX8_atSugarRank_27 : decode cX8_atSugarRank 27 = .ok (.iload_n 2, 1) := by decide +kernel
theorem dX8_atSugarRank_28 : decode cX8_atSugarRank 28 = .ok (.invokevirtual 55, 3) := by decide +kernel
theorem dX8_atSugarRank_31 : decode cX8_atSugarRank 31 = .ok (.ifCond .eq 6, 3) := by decide +kernel
theorem dX8_atSugarRank_34 : decode cX8_atSugarRank 34 = .ok (.iinc 3 1, 3) := by decide +kernel
theorem dX8_atSugarRank_37 : decode cX8_atSugarRank 37 = .ok (.iinc 4 1, 3) := by decide +kernel
theorem dX8_atSugarRank_40 : decode cX8_atSugarRank 40 = .ok (.goto (-25), 3) := by decide +kernel
theorem dX8_atSugarRank_43 : decode cX8_atSugarRank 43 = .ok (.iload_n 3, 1) := by decide +kernel
theorem dX8_atSugarRank_44 : decode cX8_atSugarRank 44 = .ok (.iload_n 1, 1) := by decide +kernel
theorem dX8_atSugarRank_45 : decode cX8_atSugarRank 45 = .ok (.if_icmp .ne 5, 3) := by decide +kernel
theorem dX8_atSugarRank_48 : decode cX8_atSugarRank 48 = .ok (.iload_n 2, 1) := by decide +kernel
theorem dX8_atSugarRank_49 : decode cX8_atSugarRank 49 = .ok (.ireturn, 1) := by decide +kernel
theorem dX8_atSugarRank_50 : decode cX8_atSugarRank 50 = .ok (.iinc 2 1, 3) := by decide +kernel
theorem dX8_atSugarRank_53 : decode cX8_atSugarRank 53 = .ok (.goto (-51), 3) := by decide +kernel
theorem dX8_atSugarRank_56 : decode cX8_atSugarRank 56 = .ok (.iconst (-1), 1) := by decide +kernel
theorem dX8_atSugarRank_57 : decode cX8_atSugarRank 57 = .ok (.ireturn, 1) := by decide +kernel
theorem dX8_comesBefore_0 : decode cX8_comesBefore 0 = .ok (.aload_n 0, 1) := by decide +kernel
theorem dX8_comesBefore_1 : decode cX8_comesBefore 1 = .ok (.iload_n 1, 1) := by decide +kernel
theorem dX8_comesBefore_2 : decode cX8_comesBefore 2 = .ok (.invokevirtual 41, 3) := by decide +kernel
theorem dX8_comesBefore_5 : decode cX8_comesBefore 5 = .ok (.ifCond .eq 11, 3) := by decide +kernel
theorem dX8_comesBefore_8 : decode cX8_comesBefore 8 = .ok (.aload_n 0, 1) := by decide +kernel
theorem dX8_comesBefore_9 : decode cX8_comesBefore 9 = .ok (.iload_n 2, 1) := by decide +kernel
theorem dX8_comesBefore_10 : decode cX8_comesBefore 10 = .ok (.invokevirtual 41, 3) := by decide +kernel
theorem dX8_comesBefore_13 : decode cX8_comesBefore 13 = .ok (.ifCond .ne 5, 3) := by decide +kernel
theorem dX8_comesBefore_16 : decode cX8_comesBefore 16 = .ok (.iconst 0, 1) := by decide +kernel
theorem dX8_comesBefore_17 : decode cX8_comesBefore 17 = .ok (.ireturn, 1) := by decide +kernel
theorem dX8_comesBefore_18 : decode cX8_comesBefore 18 = .ok (.aload_n 0, 1) := by decide +kernel
theorem dX8_comesBefore_19 : decode cX8_comesBefore 19 = .ok (.getfield 18, 3) := by decide +kernel
theorem dX8_comesBefore_22 : decode cX8_comesBefore 22 = .ok (.iload_n 1, 1) := by decide +kernel
theorem dX8_comesBefore_23 : decode cX8_comesBefore 23 = .ok (.iaload, 1) := by decide +kernel
theorem dX8_comesBefore_24 : decode cX8_comesBefore 24 = .ok (.aload_n 0, 1) := by decide +kernel
theorem dX8_comesBefore_25 : decode cX8_comesBefore 25 = .ok (.getfield 18, 3) := by decide +kernel
theorem dX8_comesBefore_28 : decode cX8_comesBefore 28 = .ok (.iload_n 2, 1) := by decide +kernel
theorem dX8_comesBefore_29 : decode cX8_comesBefore 29 = .ok (.iaload, 1) := by decide +kernel
theorem dX8_comesBefore_30 : decode cX8_comesBefore 30 = .ok (.if_icmp .eq 24, 3) := by decide +kernel
theorem dX8_comesBefore_33 : decode cX8_comesBefore 33 = .ok (.aload_n 0, 1) := by decide +kernel
theorem dX8_comesBefore_34 : decode cX8_comesBefore 34 = .ok (.getfield 18, 3) := by decide +kernel
theorem dX8_comesBefore_37 : decode cX8_comesBefore 37 = .ok (.iload_n 1, 1) := by decide +kernel
theorem dX8_comesBefore_38 : decode cX8_comesBefore 38 = .ok (.iaload, 1) := by decide +kernel
theorem dX8_comesBefore_39 : decode cX8_comesBefore 39 = .ok (.aload_n 0, 1) := by decide +kernel
theorem dX8_comesBefore_40 : decode cX8_comesBefore 40 = .ok (.getfield 18, 3) := by decide +kernel
theorem dX8_comesBefore_43 : decode cX8_comesBefore 43 = .ok (.iload_n 2, 1) := by decide +kernel
theorem dX8_comesBefore_44 : decode cX8_comesBefore 44 = .ok (.iaload, 1) := by decide +kernel
theorem dX8_comesBefore_45 : decode cX8_comesBefore 45 = .ok (.if_icmp .le 7, 3) := by decide +kernel
theorem dX8_comesBefore_48 : decode cX8_comesBefore 48 = .ok (.iconst 1, 1) := by decide +kernel
theorem dX8_comesBefore_49 : decode cX8_comesBefore 49 = .ok (.goto 4, 3) := by decide +kernel
theorem dX8_comesBefore_52 : decode cX8_comesBefore 52 = .ok (.iconst 0, 1) := by decide +kernel
theorem dX8_comesBefore_53 : decode cX8_comesBefore 53 = .ok (.ireturn, 1) := by decide +kernel
theorem dX8_comesBefore_54 : decode cX8_comesBefore 54 = .ok (.aload_n 0, 1) := by decide +kernel
theorem dX8_comesBefore_55 : decode cX8_comesBefore 55 = .ok (.getfield 11, 3) := by decide +kernel
theorem dX8_comesBefore_58 : decode cX8_comesBefore 58 = .ok (.iload_n 1, 1) := by decide +kernel
theorem dX8_comesBefore_59 : decode cX8_comesBefore 59 = .ok (.iaload, 1) := by decide +kernel
theorem dX8_comesBefore_60 : decode cX8_comesBefore 60 = .ok (.aload_n 0, 1) := by decide +kernel
theorem dX8_comesBefore_61 : decode cX8_comesBefore 61 = .ok (.getfield 11, 3) := by decide +kernel
theorem dX8_comesBefore_64 : decode cX8_comesBefore 64 = .ok (.iload_n 2, 1) := by decide +kernel
theorem dX8_comesBefore_65 : decode cX8_comesBefore 65 = .ok (.iaload, 1) := by decide +kernel
theorem dX8_comesBefore_66 : decode cX8_comesBefore 66 = .ok (.if_icmp .eq 24, 3) := by decide +kernel
theorem dX8_comesBefore_69 : decode cX8_comesBefore 69 = .ok (.aload_n 0, 1) := by decide +kernel
theorem dX8_comesBefore_70 : decode cX8_comesBefore 70 = .ok (.getfield 11, 3) := by decide +kernel
theorem dX8_comesBefore_73 : decode cX8_comesBefore 73 = .ok (.iload_n 1, 1) := by decide +kernel
theorem dX8_comesBefore_74 : decode cX8_comesBefore 74 = .ok (.iaload, 1) := by decide +kernel
theorem dX8_comesBefore_75 : decode cX8_comesBefore 75 = .ok (.aload_n 0, 1) := by decide +kernel
theorem dX8_comesBefore_76 : decode cX8_comesBefore 76 = .ok (.getfield 11, 3) := by decide +kernel
theorem dX8_comesBefore_79 : decode cX8_comesBefore 79 = .ok (.iload_n 2, 1) := by decide +kernel
theorem dX8_comesBefore_80 : decode cX8_comesBefore 80 = .ok (.iaload, 1) := by decide +kernel
theorem dX8_comesBefore_81 : decode cX8_comesBefore 81 = .ok (.if_icmp .le 7, 3) := by decide +kernel
theorem dX8_comesBefore_84 : decode cX8_comesBefore 84 = .ok (.iconst 1, 1) := by decide +kernel
theorem dX8_comesBefore_85 : decode cX8_comesBefore 85 = .ok (.goto 4, 3) := by decide +kernel
theorem dX8_comesBefore_88 : decode cX8_comesBefore 88 = .ok (.iconst 0, 1) := by decide +kernel
theorem dX8_comesBefore_89 : decode cX8_comesBefore 89 = .ok (.ireturn, 1) := by decide +kernel
theorem dX8_comesBefore_90 : decode cX8_comesBefore 90 = .ok (.iload_n 1, 1) := by decide +kernel
theorem dX8_comesBefore_91 : decode cX8_comesBefore 91 = .ok (.iload_n 2, 1) := by decide +kernel
theorem dX8_comesBefore_92 : decode cX8_comesBefore 92 = .ok (.if_icmp .ge 7, 3) := by decide +kernel
theorem dX8_comesBefore_95 : decode cX8_comesBefore 95 = .ok (.iconst 1, 1) := by decide +kernel
theorem dX8_comesBefore_96 : decode cX8_comesBefore 96 = .ok (.goto 4, 3) := by decide +kernel
theorem dX8_comesBefore_99 : decode cX8_comesBefore 99 = .ok (.iconst 0, 1) := by decide +kernel
theorem dX8_comesBefore_100 : decode cX8_comesBefore 100 = .ok (.ireturn, 1) := by decide +kernel
theorem dX9_init_0 : decode cX9_init 0 = .ok (.aload_n 0, 1) := by decide +kernel
theorem dX9_init_1 : decode cX9_init 1 = .ok (.invokespecial 3, 3) := by decide +kernel
theorem dX9_init_4 : decode cX9_init 4 = .ok (.aload_n 0, 1) := by decide +kernel
theorem dX9_init_5 : decode cX9_init 5 = .ok (.new 9, 3) := by decide +kernel
theorem dX9_init_8 : decode cX9_init 8 = .ok (.dup, 1) := by decide +kernel
theorem dX9_init_9 : decode cX9_init 9 = .ok (.invokespecial 11, 3) := by decide +kernel
theorem dX9_init_12 : decode cX9_init 12 = .ok (.putfield 12, 3) := by decide +kernel
theorem dX9_init_15 : decode cX9_init 15 = .ok (.aload_n 0, 1) := by decide +kernel
theorem dX9_init_16 : decode cX9_init 16 = .ok (.new 18, 3) := by decide +kernel
theorem dX9_init_19 : decode cX9_init 19 = .ok (.dup, 1) := by decide +kernel
theorem dX9_init_20 : decode cX9_init 20 = .ok (.invokespecial 20, 3) := by decide +kernel
theorem dX9_init_23 : decode cX9_init 23 = .ok (.putfield 21, 3) := by decide +kernel
theorem dX9_init_26 : decode cX9_init 26 = .ok (.aload_n 0, 1) := by decide +kernel
theorem dX9_init_27 : decode cX9_init 27 = .ok (.new 25, 3) := by decide +kernel
theorem dX9_init_30 : decode cX9_init 30 = .ok (.dup, 1) := by decide +kernel
theorem dX9_init_31 : decode cX9_init 31 = .ok (.invokespecial 27, 3) := by decide +kernel
theorem dX9_init_34 : decode cX9_init 34 = .ok (.putfield 28, 3) := by decide +kernel
theorem dX9_init_37 : decode cX9_init 37 = .ok (.aload_n 0, 1) := by decide +kernel
theorem dX9_init_38 : decode cX9_init 38 = .ok (.new 32, 3) := by decide +kernel
theorem dX9_init_41 : decode cX9_init 41 = .ok (.dup, 1) := by decide +kernel
theorem dX9_init_42 : decode cX9_init 42 = .ok (.invokespecial 34, 3) := by decide +kernel
theorem dX9_init_45 : decode cX9_init 45 = .ok (.putfield 35, 3) := by decide +kernel
theorem dX9_init_48 : decode cX9_init 48 = .ok (.aload_n 0, 1) := by decide +kernel
theorem dX9_init_49 : decode cX9_init 49 = .ok (.bipush 20, 2) := by decide +kernel
theorem dX9_init_51 : decode cX9_init 51 = .ok (.newarray .int, 2) := by decide +kernel
theorem dX9_init_53 : decode cX9_init 53 = .ok (.putfield 39, 3) := by decide +kernel
theorem dX9_init_56 : decode cX9_init 56 = .ok (.return_, 1) := by decide +kernel
theorem dX9_copyFrom_0 : decode cX9_copyFrom 0 = .ok (.aload_n 0, 1) := by decide +kernel
theorem dX9_copyFrom_1 : decode cX9_copyFrom 1 = .ok (.getfield 12, 3) := by decide +kernel
theorem dX9_copyFrom_4 : decode cX9_copyFrom 4 = .ok (.aload_n 1, 1) := by decide +kernel
theorem dX9_copyFrom_5 : decode cX9_copyFrom 5 = .ok (.getfield 12, 3) := by decide +kernel
theorem dX9_copyFrom_8 : decode cX9_copyFrom 8 = .ok (.invokevirtual 43, 3) := by decide +kernel
theorem dX9_copyFrom_11 : decode cX9_copyFrom 11 = .ok (.aload_n 0, 1) := by decide +kernel
theorem dX9_copyFrom_12 : decode cX9_copyFrom 12 = .ok (.getfield 21, 3) := by decide +kernel
theorem dX9_copyFrom_15 : decode cX9_copyFrom 15 = .ok (.aload_n 1, 1) := by decide +kernel
theorem dX9_copyFrom_16 : decode cX9_copyFrom 16 = .ok (.getfield 21, 3) := by decide +kernel
theorem dX9_copyFrom_19 : decode cX9_copyFrom 19 = .ok (.invokevirtual 47, 3) := by decide +kernel
theorem dX9_copyFrom_22 : decode cX9_copyFrom 22 = .ok (.aload_n 0, 1) := by decide +kernel
theorem dX9_copyFrom_23 : decode cX9_copyFrom 23 = .ok (.getfield 28, 3) := by decide +kernel
theorem dX9_copyFrom_26 : decode cX9_copyFrom 26 = .ok (.aload_n 1, 1) := by decide +kernel
theorem dX9_copyFrom_27 : decode cX9_copyFrom 27 = .ok (.getfield 28, 3) := by decide +kernel
theorem dX9_copyFrom_30 : decode cX9_copyFrom 30 = .ok (.invokevirtual 50, 3) := by decide +kernel
theorem dX9_copyFrom_33 : decode cX9_copyFrom 33 = .ok (.aload_n 0, 1) := by decide +kernel
theorem dX9_copyFrom_34 : decode cX9_copyFrom 34 = .ok (.getfield 35, 3) := by decide +kernel
theorem dX9_copyFrom_37 : decode cX9_copyFrom 37 = .ok (.aload_n 1, 1) := by decide +kernel
theorem dX9_copyFrom_38 : decode cX9_copyFrom 38 = .ok (.getfield 35, 3) := by decide +kernel
theorem dX9_copyFrom_41 : decode cX9_copyFrom 41 = .ok (.getfield 53, 3) := by decide +kernel
theorem dX9_copyFrom_44 : decode cX9_copyFrom 44 = .ok (.putfield 53, 3) := by decide +kernel
theorem dX9_copyFrom_47 : decode cX9_copyFrom 47 = .ok (.aload_n 1, 1) := by decide +kernel
theorem dX9_copyFrom_48 : decode cX9_copyFrom 48 = .ok (.getfield 39, 3) := by decide +kernel
theorem dX9_copyFrom_51 : decode cX9_copyFrom 51 = .ok (.aload_n 0, 1) := by decide +kernel
theorem dX9_copyFrom_52 : decode cX9_copyFrom 52 = .ok (.getfield 39, 3) := by decide +kernel
theorem dX9_copyFrom_55 : decode cX9_copyFrom 55 = .ok (.invokestatic 57, 3) := by decide +kernel
theorem dX9_copyFrom_58 : decode cX9_copyFrom 58 = .ok (.aload_n 0, 1) := by decide +kernel
theorem dX9_copyFrom_59 : decode cX9_copyFrom 59 = .ok (.aload_n 1, 1) := by decide +kernel
theorem dX9_copyFrom_60 : decode cX9_copyFrom 60 = .ok (.getfield 61, 3) := by decide +kernel
theorem dX9_copyFrom_63 : decode cX9_copyFrom 63 = .ok (.putfield 61, 3) := by decide +kernel
theorem dX9_copyFrom_66 : decode cX9_copyFrom 66 = .ok (.aload_n 0, 1) := by decide +kernel
theorem dX9_copyFrom_67 : decode cX9_copyFrom 67 = .ok (.aload_n 1, 1) := by decide +kernel
theorem dX9_copyFrom_68 : decode cX9_copyFrom 68 = .ok (.getfield 65, 3) := by decide +kernel
theorem dX9_copyFrom_71 : decode cX9_copyFrom 71 = .ok (.putfield 65, 3) := by decide +kernel
theorem dX9_copyFrom_74 : decode cX9_copyFrom 74 = .ok (.aload_n 0, 1) := by decide +kernel
theorem dX9_copyFrom_75 : decode cX9_copyFrom 75 = .ok (.aload_n 1, 1) := by decide +kernel
theorem dX9_copyFrom_76 : decode cX9_copyFrom 76 = .ok (.getfield 68, 3) := by decide +kernel
theorem dX9_copyFrom_79 : decode cX9_copyFrom 79 = .ok (.putfield 68, 3) := by decide +kernel
theorem dX9_copyFrom_82 : decode cX9_copyFrom 82 = .ok (.aload_n 0, 1) := by decide +kernel
theorem dX9_copyFrom_83 : decode cX9_copyFrom 83 = .ok (.aload_n 1, 1) := by decide +kernel
theorem dX9_copyFrom_84 : decode cX9_copyFrom 84 = .ok (.getfield 71, 3) := by decide +kernel
theorem dX9_copyFrom_87 : decode cX9_copyFrom 87 = .ok (.putfield 71, 3) := by decide +kernel
theorem dX9_copyFrom_90 : decode cX9_copyFrom 90 = .ok (.return_, 1) := by decide +kernel
theorem dX9_refusalOf_0 : decode cX9_refusalOf 0 = .ok (.aload_n 1, 1) := by decide +kernel
theorem dX9_refusalOf_1 : decode cX9_refusalOf 1 = .ok (.ifnonnull 7, 3) := by decide +kernel
theorem dX9_refusalOf_4 : decode cX9_refusalOf 4 = .ok (.getstatic 74, 3) := by decide +kernel
theorem dX9_refusalOf_7 : decode cX9_refusalOf 7 = .ok (.areturn, 1) := by decide +kernel
theorem dX9_refusalOf_8 : decode cX9_refusalOf 8 = .ok (.getstatic 80, 3) := by decide +kernel
theorem dX9_refusalOf_11 : decode cX9_refusalOf 11 = .ok (.aload_n 1, 1) := by decide +kernel
theorem dX9_refusalOf_12 : decode cX9_refusalOf 12 = .ok (.invokevirtual 85, 3) := by decide +kernel
theorem dX9_refusalOf_15 : decode cX9_refusalOf 15 = .ok (.iaload, 1) := by decide +kernel
theorem dX9_refusalOf_16 : decode cX9_refusalOf 16 = .ok (.tableswitch 191 1 12 #[64, 71, 77, 101, 124, 130, 136, 142, 148, 168, 177, 184], 64) := by decide +kernel
theorem dX9_refusalOf_80 : decode cX9_refusalOf 80 = .ok (.aload_n 0, 1) := by decide +kernel
theorem dX9_refusalOf_81 : decode cX9_refusalOf 81 = .ok (.iload_n 2, 1) := by decide +kernel
theorem dX9_refusalOf_82 : decode cX9_refusalOf 82 = .ok (.iload_n 3, 1) := by decide +kernel
theorem dX9_refusalOf_83 : decode cX9_refusalOf 83 = .ok (.invokevirtual 91, 3) := by decide +kernel
theorem dX9_refusalOf_86 : decode cX9_refusalOf 86 = .ok (.areturn, 1) := by decide +kernel
theorem dX9_refusalOf_87 : decode cX9_refusalOf 87 = .ok (.aload_n 0, 1) := by decide +kernel
theorem dX9_refusalOf_88 : decode cX9_refusalOf 88 = .ok (.iload_n 2, 1) := by decide +kernel
theorem dX9_refusalOf_89 : decode cX9_refusalOf 89 = .ok (.invokevirtual 95, 3) := by decide +kernel
theorem dX9_refusalOf_92 : decode cX9_refusalOf 92 = .ok (.areturn, 1) := by decide +kernel
theorem dX9_refusalOf_93 : decode cX9_refusalOf 93 = .ok (.aload_n 0, 1) := by decide +kernel
theorem dX9_refusalOf_94 : decode cX9_refusalOf 94 = .ok (.getfield 21, 3) := by decide +kernel
theorem dX9_refusalOf_97 : decode cX9_refusalOf 97 = .ok (.iload_n 2, 1) := by decide +kernel
theorem dX9_refusalOf_98 : decode cX9_refusalOf 98 = .ok (.invokevirtual 99, 3) := by decide +kernel
theorem dX9_refusalOf_101 : decode cX9_refusalOf 101 = .ok (.iconst (-1), 1) := by decide +kernel
theorem dX9_refusalOf_102 : decode cX9_refusalOf 102 = .ok (.if_icmp .ne 9, 3) := by decide +kernel
theorem dX9_refusalOf_105 : decode cX9_refusalOf 105 = .ok (.getstatic 103, 3) := by decide +kernel
theorem dX9_refusalOf_108 : decode cX9_refusalOf 108 = .ok (.goto 8, 3) := by decide +kernel
theorem dX9_refusalOf_111 : decode cX9_refusalOf 111 = .ok (.aload_n 0, 1) := by decide +kernel
theorem dX9_refusalOf_112 : decode cX9_refusalOf 112 = .ok (.iconst 0, 1) := by decide +kernel
theorem dX9_refusalOf_113 : decode cX9_refusalOf 113 = .ok (.invokevirtual 106, 3) := by decide +kernel
theorem dX9_refusalOf_116 : decode cX9_refusalOf 116 = .ok (.areturn, 1) := by decide +kernel
theorem dX9_refusalOf_117 : decode cX9_refusalOf 117 = .ok (.iload_n 2, 1) := by decide +kernel
theorem dX9_refusalOf_118 : decode cX9_refusalOf 118 = .ok (.bipush (-20), 2) := by decide +kernel
theorem dX9_refusalOf_120 : decode cX9_refusalOf 120 = .ok (.bipush 20, 2) := by decide +kernel
theorem dX9_refusalOf_122 : decode cX9_refusalOf 122 = .ok (.invokestatic 109, 3) := by decide +kernel
theorem dX9_refusalOf_125 : decode cX9_refusalOf 125 = .ok (.ifCond .eq 11, 3) := by decide +kernel
theorem dX9_refusalOf_128 : decode cX9_refusalOf 128 = .ok (.aload_n 0, 1) := by decide +kernel
theorem dX9_refusalOf_129 : decode cX9_refusalOf 129 = .ok (.iconst 1, 1) := by decide +kernel
theorem dX9_refusalOf_130 : decode cX9_refusalOf 130 = .ok (.invokevirtual 106, 3) := by decide +kernel
theorem dX9_refusalOf_133 : decode cX9_refusalOf 133 = .ok (.goto 6, 3) := by decide +kernel
theorem dX9_refusalOf_136 : decode cX9_refusalOf 136 = .ok (.getstatic 74, 3) := by decide +kernel
theorem dX9_refusalOf_139 : decode cX9_refusalOf 139 = .ok (.areturn, 1) := by decide +kernel
theorem dX9_refusalOf_140 : decode cX9_refusalOf 140 = .ok (.aload_n 0, 1) := by decide +kernel
theorem dX9_refusalOf_141 : decode cX9_refusalOf 141 = .ok (.iconst 2, 1) := by decide +kernel
theorem dX9_refusalOf_142 : decode cX9_refusalOf 142 = .ok (.invokevirtual 106, 3) := by decide +kernel
theorem dX9_refusalOf_145 : decode cX9_refusalOf 145 = .ok (.areturn, 1) := by decide +kernel
theorem dX9_refusalOf_146 : decode cX9_refusalOf 146 = .ok (.aload_n 0, 1) := by decide +kernel
theorem dX9_refusalOf_147 : decode cX9_refusalOf 147 = .ok (.iconst 3, 1) := by decide +kernel
theorem dX9_refusalOf_148 : decode cX9_refusalOf 148 = .ok (.invokevirtual 106, 3) := by decide +kernel
theorem dX9_refusalOf_151 : decode cX9_refusalOf 151 = .ok (.areturn, 1) := by decide +kernel
theorem dX9_refusalOf_152 : decode cX9_refusalOf 152 = .ok (.aload_n 0, 1) := by decide +kernel
theorem dX9_refusalOf_153 : decode cX9_refusalOf 153 = .ok (.iconst 4, 1) := by decide +kernel
theorem dX9_refusalOf_154 : decode cX9_refusalOf 154 = .ok (.invokevirtual 106, 3) := by decide +kernel
theorem dX9_refusalOf_157 : decode cX9_refusalOf 157 = .ok (.areturn, 1) := by decide +kernel
theorem dX9_refusalOf_158 : decode cX9_refusalOf 158 = .ok (.aload_n 0, 1) := by decide +kernel
theorem dX9_refusalOf_159 : decode cX9_refusalOf 159 = .ok (.iload_n 2, 1) := by decide +kernel
theorem dX9_refusalOf_160 : decode cX9_refusalOf 160 = .ok (.invokevirtual 113, 3) := by decide +kernel
theorem dX9_refusalOf_163 : decode cX9_refusalOf 163 = .ok (.areturn, 1) := by decide +kernel
theorem dX9_refusalOf_164 : decode cX9_refusalOf 164 = .ok (.aload_n 0, 1) := by decide +kernel
theorem dX9_refusalOf_165 : decode cX9_refusalOf 165 = .ok (.getfield 28, 3) := by decide +kernel
theorem dX9_refusalOf_168 : decode cX9_refusalOf 168 = .ok (.getfield 116, 3) := by decide +kernel
theorem dX9_refusalOf_171 : decode cX9_refusalOf 171 = .ok (.ifCond .ne 9, 3) := by decide +kernel
theorem dX9_refusalOf_174 : decode cX9_refusalOf 174 = .ok (.getstatic 103, 3) := by decide +kernel
theorem dX9_refusalOf_177 : decode cX9_refusalOf 177 = .ok (.goto 6, 3) := by decide +kernel
theorem dX9_refusalOf_180 : decode cX9_refusalOf 180 = .ok (.getstatic 119, 3) := by decide +kernel
theorem dX9_refusalOf_183 : decode cX9_refusalOf 183 = .ok (.areturn, 1) := by decide +kernel
theorem dX9_refusalOf_184 : decode cX9_refusalOf 184 = .ok (.aload_n 0, 1) := by decide +kernel
theorem dX9_refusalOf_185 : decode cX9_refusalOf 185 = .ok (.iload_n 2, 1) := by decide +kernel
theorem dX9_refusalOf_186 : decode cX9_refusalOf 186 = .ok (.iload_n 3, 1) := by decide +kernel
theorem dX9_refusalOf_187 : decode cX9_refusalOf 187 = .ok (.iload 4, 2) := by decide +kernel
theorem dX9_refusalOf_189 : decode cX9_refusalOf 189 = .ok (.invokevirtual 122, 3) := by decide +kernel
theorem dX9_refusalOf_192 : decode cX9_refusalOf 192 = .ok (.areturn, 1) := by decide +kernel
theorem dX9_refusalOf_193 : decode cX9_refusalOf 193 = .ok (.aload_n 0, 1) := by decide +kernel
theorem dX9_refusalOf_194 : decode cX9_refusalOf 194 = .ok (.iload_n 2, 1) := by decide +kernel
theorem dX9_refusalOf_195 : decode cX9_refusalOf 195 = .ok (.iload_n 3, 1) := by decide +kernel
theorem dX9_refusalOf_196 : decode cX9_refusalOf 196 = .ok (.invokevirtual 126, 3) := by decide +kernel
theorem dX9_refusalOf_199 : decode cX9_refusalOf 199 = .ok (.areturn, 1) := by decide +kernel
theorem dX9_refusalOf_200 : decode cX9_refusalOf 200 = .ok (.aload_n 0, 1) := by decide +kernel
theorem dX9_refusalOf_201 : decode cX9_refusalOf 201 = .ok (.iload_n 2, 1) := by decide +kernel
theorem dX9_refusalOf_202 : decode cX9_refusalOf 202 = .ok (.iload_n 3, 1) := by decide +kernel
theorem dX9_refusalOf_203 : decode cX9_refusalOf 203 = .ok (.invokevirtual 129, 3) := by decide +kernel
theorem dX9_refusalOf_206 : decode cX9_refusalOf 206 = .ok (.areturn, 1) := by decide +kernel
theorem dX9_refusalOf_207 : decode cX9_refusalOf 207 = .ok (.getstatic 74, 3) := by decide +kernel
theorem dX9_refusalOf_210 : decode cX9_refusalOf 210 = .ok (.areturn, 1) := by decide +kernel
theorem dX9_refusalOfSpoon_0 : decode cX9_refusalOfSpoon 0 = .ok (.iload_n 1, 1) := by decide +kernel
theorem dX9_refusalOfSpoon_1 : decode cX9_refusalOfSpoon 1 = .ok (.iconst 1, 1) := by decide +kernel
theorem dX9_refusalOfSpoon_2 : decode cX9_refusalOfSpoon 2 = .ok (.bipush 9, 2) := by decide +kernel
theorem dX9_refusalOfSpoon_4 : decode cX9_refusalOfSpoon 4 = .ok (.invokestatic 109, 3) := by decide +kernel
theorem dX9_refusalOfSpoon_7 : decode cX9_refusalOfSpoon 7 = .ok (.ifCond .eq 13, 3) := by decide +kernel
theorem dX9_refusalOfSpoon_10 : decode cX9_refusalOfSpoon 10 = .ok (.iload_n 2, 1) := by decide +kernel
theorem dX9_refusalOfSpoon_11 : decode cX9_refusalOfSpoon 11 = .ok (.iconst 0, 1) := by decide +kernel
theorem dX9_refusalOfSpoon_12 : decode cX9_refusalOfSpoon 12 = .ok (.bipush 99, 2) := by decide +kernel
theorem dX9_refusalOfSpoon_14 : decode cX9_refusalOfSpoon 14 = .ok (.invokestatic 109, 3) := by decide +kernel
theorem dX9_refusalOfSpoon_17 : decode cX9_refusalOfSpoon 17 = .ok (.ifCond .ne 7, 3) := by decide +kernel
theorem dX9_refusalOfSpoon_20 : decode cX9_refusalOfSpoon 20 = .ok (.getstatic 74, 3) := by decide +kernel
theorem dX9_refusalOfSpoon_23 : decode cX9_refusalOfSpoon 23 = .ok (.areturn, 1) := by decide +kernel
theorem dX9_refusalOfSpoon_24 : decode cX9_refusalOfSpoon 24 = .ok (.aload_n 0, 1) := by decide +kernel
theorem dX9_refusalOfSpoon_25 : decode cX9_refusalOfSpoon 25 = .ok (.getfield 12, 3) := by decide +kernel
theorem dX9_refusalOfSpoon_28 : decode cX9_refusalOfSpoon 28 = .ok (.getfield 132, 3) := by decide +kernel
theorem dX9_refusalOfSpoon_31 : decode cX9_refusalOfSpoon 31 = .ok (.bipush 8, 2) := by decide +kernel
theorem dX9_refusalOfSpoon_33 : decode cX9_refusalOfSpoon 33 = .ok (.if_icmp .lt 9, 3) := by decide +kernel
theorem dX9_refusalOfSpoon_36 : decode cX9_refusalOfSpoon 36 = .ok (.getstatic 133, 3) := by decide +kernel
theorem dX9_refusalOfSpoon_39 : decode cX9_refusalOfSpoon 39 = .ok (.goto 6, 3) := by decide +kernel
theorem dX9_refusalOfSpoon_42 : decode cX9_refusalOfSpoon 42 = .ok (.getstatic 119, 3) := by decide +kernel
theorem dX9_refusalOfSpoon_45 : decode cX9_refusalOfSpoon 45 = .ok (.areturn, 1) := by decide +kernel
theorem dX9_refusalOfProposal_0 : decode cX9_refusalOfProposal 0 = .ok (.iload_n 1, 1) := by decide +kernel
theorem dX9_refusalOfProposal_1 : decode cX9_refusalOfProposal 1 = .ok (.iconst 0, 1) := by decide +kernel
theorem dX9_refusalOfProposal_2 : decode cX9_refusalOfProposal 2 = .ok (.bipush 99, 2) := by decide +kernel
theorem dX9_refusalOfProposal_4 : decode cX9_refusalOfProposal 4 = .ok (.invokestatic 109, 3) := by decide +kernel
theorem dX9_refusalOfProposal_7 : decode cX9_refusalOfProposal 7 = .ok (.ifCond .ne 7, 3) := by decide +kernel
theorem dX9_refusalOfProposal_10 : decode cX9_refusalOfProposal 10 = .ok (.getstatic 74, 3) := by decide +kernel
theorem dX9_refusalOfProposal_13 : decode cX9_refusalOfProposal 13 = .ok (.areturn, 1) := by decide +kernel
theorem dX9_refusalOfProposal_14 : decode cX9_refusalOfProposal 14 = .ok (.aload_n 0, 1) := by decide +kernel
theorem dX9_refusalOfProposal_15 : decode cX9_refusalOfProposal 15 = .ok (.getfield 21, 3) := by decide +kernel
theorem dX9_refusalOfProposal_18 : decode cX9_refusalOfProposal 18 = .ok (.getfield 136, 3) := by decide +kernel
theorem dX9_refusalOfProposal_21 : decode cX9_refusalOfProposal 21 = .ok (.bipush 6, 2) := by decide +kernel
theorem dX9_refusalOfProposal_23 : decode cX9_refusalOfProposal 23 = .ok (.if_icmp .lt 9, 3) := by decide +kernel
theorem dX9_refusalOfProposal_26 : decode cX9_refusalOfProposal 26 = .ok (.getstatic 133, 3) := by decide +kernel
theorem dX9_refusalOfProposal_29 : decode cX9_refusalOfProposal 29 = .ok (.goto 6, 3) := by decide +kernel
theorem dX9_refusalOfProposal_32 : decode cX9_refusalOfProposal 32 = .ok (.getstatic 119, 3) := by decide +kernel
theorem dX9_refusalOfProposal_35 : decode cX9_refusalOfProposal 35 = .ok (.areturn, 1) := by decide +kernel
theorem dX9_refusalOfMotion_0 : decode cX9_refusalOfMotion 0 = .ok (.aload_n 0, 1) := by decide +kernel
theorem dX9_refusalOfMotion_1 : decode cX9_refusalOfMotion 1 = .ok (.getfield 28, 3) := by decide +kernel
theorem dX9_refusalOfMotion_4 : decode cX9_refusalOfMotion 4 = .ok (.iload_n 1, 1) := by decide +kernel
theorem dX9_refusalOfMotion_5 : decode cX9_refusalOfMotion 5 = .ok (.invokevirtual 137, 3) := by decide +kernel
theorem dX9_refusalOfMotion_8 : decode cX9_refusalOfMotion 8 = .ok (.ifCond .eq 9, 3) := by decide +kernel
theorem dX9_refusalOfMotion_11 : decode cX9_refusalOfMotion 11 = .ok (.getstatic 119, 3) := by decide +kernel
theorem dX9_refusalOfMotion_14 : decode cX9_refusalOfMotion 14 = .ok (.goto 6, 3) := by decide +kernel
theorem dX9_refusalOfMotion_17 : decode cX9_refusalOfMotion 17 = .ok (.getstatic 141, 3) := by decide +kernel
theorem dX9_refusalOfMotion_20 : decode cX9_refusalOfMotion 20 = .ok (.areturn, 1) := by decide +kernel
theorem dX9_refusalOfSpeech_0 : decode cX9_refusalOfSpeech 0 = .ok (.aload_n 0, 1) := by decide +kernel
theorem dX9_refusalOfSpeech_1 : decode cX9_refusalOfSpeech 1 = .ok (.getfield 12, 3) := by decide +kernel
theorem dX9_refusalOfSpeech_4 : decode cX9_refusalOfSpeech 4 = .ok (.iload_n 1, 1) := by decide +kernel
theorem dX9_refusalOfSpeech_5 : decode cX9_refusalOfSpeech 5 = .ok (.invokevirtual 144, 3) := by decide +kernel
theorem dX9_refusalOfSpeech_8 : decode cX9_refusalOfSpeech 8 = .ok (.ifCond .ne 7, 3) := by decide +kernel
theorem dX9_refusalOfSpeech_11 : decode cX9_refusalOfSpeech 11 = .ok (.getstatic 147, 3) := by decide +kernel
theorem dX9_refusalOfSpeech_14 : decode cX9_refusalOfSpeech 14 = .ok (.areturn, 1) := by decide +kernel
theorem dX9_refusalOfSpeech_15 : decode cX9_refusalOfSpeech 15 = .ok (.aload_n 0, 1) := by decide +kernel
theorem dX9_refusalOfSpeech_16 : decode cX9_refusalOfSpeech 16 = .ok (.getfield 28, 3) := by decide +kernel
theorem dX9_refusalOfSpeech_19 : decode cX9_refusalOfSpeech 19 = .ok (.getfield 116, 3) := by decide +kernel
theorem dX9_refusalOfSpeech_22 : decode cX9_refusalOfSpeech 22 = .ok (.ifCond .eq 26, 3) := by decide +kernel
theorem dX9_refusalOfSpeech_25 : decode cX9_refusalOfSpeech 25 = .ok (.aload_n 0, 1) := by decide +kernel
theorem dX9_refusalOfSpeech_26 : decode cX9_refusalOfSpeech 26 = .ok (.getfield 28, 3) := by decide +kernel
theorem dX9_refusalOfSpeech_29 : decode cX9_refusalOfSpeech 29 = .ok (.getfield 150, 3) := by decide +kernel
theorem dX9_refusalOfSpeech_32 : decode cX9_refusalOfSpeech 32 = .ok (.ifCond .ne 16, 3) := by decide +kernel
theorem dX9_refusalOfSpeech_35 : decode cX9_refusalOfSpeech 35 = .ok (.aload_n 0, 1) := by decide +kernel
theorem dX9_refusalOfSpeech_36 : decode cX9_refusalOfSpeech 36 = .ok (.getfield 12, 3) := by decide +kernel
theorem dX9_refusalOfSpeech_39 : decode cX9_refusalOfSpeech 39 = .ok (.getfield 154, 3) := by decide +kernel
theorem dX9_refusalOfSpeech_42 : decode cX9_refusalOfSpeech 42 = .ok (.iload_n 1, 1) := by decide +kernel
theorem dX9_refusalOfSpeech_43 : decode cX9_refusalOfSpeech 43 = .ok (.iaload, 1) := by decide +kernel
theorem dX9_refusalOfSpeech_44 : decode cX9_refusalOfSpeech 44 = .ok (.iconst 2, 1) := by decide +kernel
theorem dX9_refusalOfSpeech_45 : decode cX9_refusalOfSpeech 45 = .ok (.if_icmp .lt 7, 3) := by decide +kernel
theorem dX9_refusalOfSpeech_48 : decode cX9_refusalOfSpeech 48 = .ok (.getstatic 133, 3) := by decide +kernel
theorem dX9_refusalOfSpeech_51 : decode cX9_refusalOfSpeech 51 = .ok (.areturn, 1) := by decide +kernel
theorem dX9_refusalOfSpeech_52 : decode cX9_refusalOfSpeech 52 = .ok (.aload_n 0, 1) := by decide +kernel
theorem dX9_refusalOfSpeech_53 : decode cX9_refusalOfSpeech 53 = .ok (.getfield 12, 3) := by decide +kernel
theorem dX9_refusalOfSpeech_56 : decode cX9_refusalOfSpeech 56 = .ok (.getfield 157, 3) := by decide +kernel
theorem dX9_refusalOfSpeech_59 : decode cX9_refusalOfSpeech 59 = .ok (.iload_n 1, 1) := by decide +kernel
theorem dX9_refusalOfSpeech_60 : decode cX9_refusalOfSpeech 60 = .ok (.iaload, 1) := by decide +kernel
theorem dX9_refusalOfSpeech_61 : decode cX9_refusalOfSpeech 61 = .ok (.ifCond .gt 9, 3) := by decide +kernel
theorem dX9_refusalOfSpeech_64 : decode cX9_refusalOfSpeech 64 = .ok (.getstatic 141, 3) := by decide +kernel
theorem dX9_refusalOfSpeech_67 : decode cX9_refusalOfSpeech 67 = .ok (.goto 6, 3) := by decide +kernel
theorem dX9_refusalOfSpeech_70 : decode cX9_refusalOfSpeech 70 = .ok (.getstatic 119, 3) := by decide +kernel
theorem dX9_refusalOfSpeech_73 : decode cX9_refusalOfSpeech 73 = .ok (.areturn, 1) := by decide +kernel
theorem dX9_refusalOfSpill_0 : decode cX9_refusalOfSpill 0 = .ok (.iload_n 1, 1) := by decide +kernel
theorem dX9_refusalOfSpill_1 : decode cX9_refusalOfSpill 1 = .ok (.iload_n 2, 1) := by decide +kernel
theorem dX9_refusalOfSpill_2 : decode cX9_refusalOfSpill 2 = .ok (.invokestatic 160, 3) := by decide +kernel
theorem dX9_refusalOfSpill_5 : decode cX9_refusalOfSpill 5 = .ok (.ifCond .ne 7, 3) := by decide +kernel
theorem dX9_refusalOfSpill_8 : decode cX9_refusalOfSpill 8 = .ok (.getstatic 147, 3) := by decide +kernel
theorem dX9_refusalOfSpill_11 : decode cX9_refusalOfSpill 11 = .ok (.areturn, 1) := by decide +kernel
theorem dX9_refusalOfSpill_12 : decode cX9_refusalOfSpill 12 = .ok (.iload_n 3, 1) := by decide +kernel
theorem dX9_refusalOfSpill_13 : decode cX9_refusalOfSpill 13 = .ok (.iconst 1, 1) := by decide +kernel
theorem dX9_refusalOfSpill_14 : decode cX9_refusalOfSpill 14 = .ok (.bipush 30, 2) := by decide +kernel
theorem dX9_refusalOfSpill_16 : decode cX9_refusalOfSpill 16 = .ok (.invokestatic 109, 3) := by decide +kernel
theorem dX9_refusalOfSpill_19 : decode cX9_refusalOfSpill 19 = .ok (.ifCond .eq 9, 3) := by decide +kernel
theorem dX9_refusalOfSpill_22 : decode cX9_refusalOfSpill 22 = .ok (.getstatic 119, 3) := by decide +kernel
theorem dX9_refusalOfSpill_25 : decode cX9_refusalOfSpill 25 = .ok (.goto 6, 3) := by decide +kernel
theorem dX9_refusalOfSpill_28 : decode cX9_refusalOfSpill 28 = .ok (.getstatic 74, 3) := by decide +kernel
theorem dX9_refusalOfSpill_31 : decode cX9_refusalOfSpill 31 = .ok (.areturn, 1) := by decide +kernel
theorem dX9_refusalOfMop_0 : decode cX9_refusalOfMop 0 = .ok (.iload_n 1, 1) := by decide +kernel
theorem dX9_refusalOfMop_1 : decode cX9_refusalOfMop 1 = .ok (.iload_n 2, 1) := by decide +kernel
theorem dX9_refusalOfMop_2 : decode cX9_refusalOfMop 2 = .ok (.invokestatic 160, 3) := by decide +kernel
theorem dX9_refusalOfMop_5 : decode cX9_refusalOfMop 5 = .ok (.ifCond .ne 7, 3) := by decide +kernel
theorem dX9_refusalOfMop_8 : decode cX9_refusalOfMop 8 = .ok (.getstatic 147, 3) := by decide +kernel
theorem dX9_refusalOfMop_11 : decode cX9_refusalOfMop 11 = .ok (.areturn, 1) := by decide +kernel
theorem dX9_refusalOfMop_12 : decode cX9_refusalOfMop 12 = .ok (.aload_n 0, 1) := by decide +kernel
theorem dX9_refusalOfMop_13 : decode cX9_refusalOfMop 13 = .ok (.getfield 35, 3) := by decide +kernel
theorem dX9_refusalOfMop_16 : decode cX9_refusalOfMop 16 = .ok (.iload_n 1, 1) := by decide +kernel
theorem dX9_refusalOfMop_17 : decode cX9_refusalOfMop 17 = .ok (.iload_n 2, 1) := by decide +kernel
theorem dX9_refusalOfMop_18 : decode cX9_refusalOfMop 18 = .ok (.invokevirtual 164, 3) := by decide +kernel
theorem dX9_refusalOfMop_21 : decode cX9_refusalOfMop 21 = .ok (.lconst 0, 1) := by decide +kernel
theorem dX9_refusalOfMop_22 : decode cX9_refusalOfMop 22 = .ok (.lcmp, 1) := by decide +kernel
theorem dX9_refusalOfMop_23 : decode cX9_refusalOfMop 23 = .ok (.ifCond .ne 9, 3) := by decide +kernel
theorem dX9_refusalOfMop_26 : decode cX9_refusalOfMop 26 = .ok (.getstatic 133, 3) := by decide +kernel
theorem dX9_refusalOfMop_29 : decode cX9_refusalOfMop 29 = .ok (.goto 6, 3) := by decide +kernel
theorem dX9_refusalOfMop_32 : decode cX9_refusalOfMop 32 = .ok (.getstatic 119, 3) := by decide +kernel
theorem dX9_refusalOfMop_35 : decode cX9_refusalOfMop 35 = .ok (.areturn, 1) := by decide +kernel
theorem dX9_refusalOfSugar_0 : decode cX9_refusalOfSugar 0 = .ok (.aload_n 0, 1) := by decide +kernel
theorem dX9_refusalOfSugar_1 : decode cX9_refusalOfSugar 1 = .ok (.getfield 12, 3) := by decide +kernel
theorem dX9_refusalOfSugar_4 : decode cX9_refusalOfSugar 4 = .ok (.iload_n 1, 1) := by decide +kernel
theorem dX9_refusalOfSugar_5 : decode cX9_refusalOfSugar 5 = .ok (.invokevirtual 144, 3) := by decide +kernel
theorem dX9_refusalOfSugar_8 : decode cX9_refusalOfSugar 8 = .ok (.ifCond .ne 7, 3) := by decide +kernel
theorem dX9_refusalOfSugar_11 : decode cX9_refusalOfSugar 11 = .ok (.getstatic 147, 3) := by decide +kernel
theorem dX9_refusalOfSugar_14 : decode cX9_refusalOfSugar 14 = .ok (.areturn, 1) := by decide +kernel
theorem dX9_refusalOfSugar_15 : decode cX9_refusalOfSugar 15 = .ok (.iload_n 2, 1) := by decide +kernel
theorem dX9_refusalOfSugar_16 : decode cX9_refusalOfSugar 16 = .ok (.iconst 1, 1) := by decide +kernel
theorem dX9_refusalOfSugar_17 : decode cX9_refusalOfSugar 17 = .ok (.bipush 9, 2) := by decide +kernel
theorem dX9_refusalOfSugar_19 : decode cX9_refusalOfSugar 19 = .ok (.invokestatic 109, 3) := by decide +kernel
theorem dX9_refusalOfSugar_22 : decode cX9_refusalOfSugar 22 = .ok (.ifCond .eq 9, 3) := by decide +kernel
theorem dX9_refusalOfSugar_25 : decode cX9_refusalOfSugar 25 = .ok (.getstatic 119, 3) := by decide +kernel
theorem dX9_refusalOfSugar_28 : decode cX9_refusalOfSugar 28 = .ok (.goto 6, 3) := by decide +kernel
theorem dX9_refusalOfSugar_31 : decode cX9_refusalOfSugar 31 = .ok (.getstatic 74, 3) := by decide +kernel
theorem dX9_refusalOfSugar_34 : decode cX9_refusalOfSugar 34 = .ok (.areturn, 1) := by decide +kernel
theorem dX9_perform_0 : decode cX9_perform 0 = .ok (.aload_n 1, 1) := by decide +kernel
theorem dX9_perform_1 : decode cX9_perform 1 = .ok (.ifnonnull 5, 3) := by decide +kernel
theorem dX9_perform_4 : decode cX9_perform 4 = .ok (.iconst (-1), 1) := by decide +kernel
theorem dX9_perform_5 : decode cX9_perform 5 = .ok (.ireturn, 1) := by decide +kernel
theorem dX9_perform_6 : decode cX9_perform 6 = .ok (.getstatic 80, 3) := by decide +kernel
theorem dX9_perform_9 : decode cX9_perform 9 = .ok (.aload_n 1, 1) := by decide +kernel
theorem dX9_perform_10 : decode cX9_perform 10 = .ok (.invokevirtual 85, 3) := by decide +kernel
theorem dX9_perform_13 : decode cX9_perform 13 = .ok (.iaload, 1) := by decide +kernel
theorem dX9_perform_14 : decode cX9_perform 14 = .ok (.tableswitch 196 1 12 #[62, 72, 81, 98, 115, 124, 133, 142, 151, 164, 173, 186], 62) := by decide +kernel
theorem dX9_perform_76 : decode cX9_perform 76 = .ok (.aload_n 0, 1) := by decide +kernel
theorem dX9_perform_77 : decode cX9_perform 77 = .ok (.getfield 12, 3) := by decide +kernel
theorem dX9_perform_80 : decode cX9_perform 80 = .ok (.iload_n 2, 1) := by decide +kernel
theorem dX9_perform_81 : decode cX9_perform 81 = .ok (.iload_n 3, 1) := by decide +kernel
theorem dX9_perform_82 : decode cX9_perform 82 = .ok (.invokevirtual 168, 3) := by decide +kernel
theorem dX9_perform_85 : decode cX9_perform 85 = .ok (.ireturn, 1) := by decide +kernel
theorem dX9_perform_86 : decode cX9_perform 86 = .ok (.aload_n 0, 1) := by decide +kernel
theorem dX9_perform_87 : decode cX9_perform 87 = .ok (.getfield 21, 3) := by decide +kernel
theorem dX9_perform_90 : decode cX9_perform 90 = .ok (.iload_n 2, 1) := by decide +kernel
theorem dX9_perform_91 : decode cX9_perform 91 = .ok (.invokevirtual 172, 3) := by decide +kernel
theorem dX9_perform_94 : decode cX9_perform 94 = .ok (.ireturn, 1) := by decide +kernel
theorem dX9_perform_95 : decode cX9_perform 95 = .ok (.aload_n 0, 1) := by decide +kernel
theorem dX9_perform_96 : decode cX9_perform 96 = .ok (.getfield 28, 3) := by decide +kernel
theorem dX9_perform_99 : decode cX9_perform 99 = .ok (.iload_n 2, 1) := by decide +kernel
theorem dX9_perform_100 : decode cX9_perform 100 = .ok (.putfield 174, 3) := by decide +kernel
theorem dX9_perform_103 : decode cX9_perform 103 = .ok (.aload_n 0, 1) := by decide +kernel
theorem dX9_perform_104 : decode cX9_perform 104 = .ok (.getfield 28, 3) := by decide +kernel
theorem dX9_perform_107 : decode cX9_perform 107 = .ok (.iconst 0, 1) := by decide +kernel
theorem dX9_perform_108 : decode cX9_perform 108 = .ok (.invokevirtual 177, 3) := by decide +kernel
theorem dX9_perform_111 : decode cX9_perform 111 = .ok (.ireturn, 1) := by decide +kernel
theorem dX9_perform_112 : decode cX9_perform 112 = .ok (.aload_n 0, 1) := by decide +kernel
theorem dX9_perform_113 : decode cX9_perform 113 = .ok (.getfield 28, 3) := by decide +kernel
theorem dX9_perform_116 : decode cX9_perform 116 = .ok (.iload_n 2, 1) := by decide +kernel
theorem dX9_perform_117 : decode cX9_perform 117 = .ok (.putfield 180, 3) := by decide +kernel
theorem dX9_perform_120 : decode cX9_perform 120 = .ok (.aload_n 0, 1) := by decide +kernel
theorem dX9_perform_121 : decode cX9_perform 121 = .ok (.getfield 28, 3) := by decide +kernel
theorem dX9_perform_124 : decode cX9_perform 124 = .ok (.iconst 1, 1) := by decide +kernel
theorem dX9_perform_125 : decode cX9_perform 125 = .ok (.invokevirtual 177, 3) := by decide +kernel
theorem dX9_perform_128 : decode cX9_perform 128 = .ok (.ireturn, 1) := by decide +kernel
theorem dX9_perform_129 : decode cX9_perform 129 = .ok (.aload_n 0, 1) := by decide +kernel
theorem dX9_perform_130 : decode cX9_perform 130 = .ok (.getfield 28, 3) := by decide +kernel
theorem dX9_perform_133 : decode cX9_perform 133 = .ok (.iconst 2, 1) := by decide +kernel
theorem dX9_perform_134 : decode cX9_perform 134 = .ok (.invokevirtual 177, 3) := by decide +kernel
theorem dX9_perform_137 : decode cX9_perform 137 = .ok (.ireturn, 1) := by decide +kernel
theorem dX9_perform_138 : decode cX9_perform 138 = .ok (.aload_n 0, 1) := by decide +kernel
theorem dX9_perform_139 : decode cX9_perform 139 = .ok (.getfield 28, 3) := by decide +kernel
theorem dX9_perform_142 : decode cX9_perform 142 = .ok (.iconst 3, 1) := by decide +kernel
theorem dX9_perform_143 : decode cX9_perform 143 = .ok (.invokevirtual 177, 3) := by decide +kernel
theorem dX9_perform_146 : decode cX9_perform 146 = .ok (.ireturn, 1) := by decide +kernel
theorem dX9_perform_147 : decode cX9_perform 147 = .ok (.aload_n 0, 1) := by decide +kernel
theorem dX9_perform_148 : decode cX9_perform 148 = .ok (.getfield 28, 3) := by decide +kernel
theorem dX9_perform_151 : decode cX9_perform 151 = .ok (.iconst 4, 1) := by decide +kernel
theorem dX9_perform_152 : decode cX9_perform 152 = .ok (.invokevirtual 177, 3) := by decide +kernel
theorem dX9_perform_155 : decode cX9_perform 155 = .ok (.ireturn, 1) := by decide +kernel
theorem dX9_perform_156 : decode cX9_perform 156 = .ok (.aload_n 0, 1) := by decide +kernel
theorem dX9_perform_157 : decode cX9_perform 157 = .ok (.getfield 12, 3) := by decide +kernel
theorem dX9_perform_160 : decode cX9_perform 160 = .ok (.iload_n 2, 1) := by decide +kernel
theorem dX9_perform_161 : decode cX9_perform 161 = .ok (.invokevirtual 183, 3) := by decide +kernel
theorem dX9_perform_164 : decode cX9_perform 164 = .ok (.ireturn, 1) := by decide +kernel
theorem dX9_perform_165 : decode cX9_perform 165 = .ok (.aload_n 0, 1) := by decide +kernel
theorem dX9_perform_166 : decode cX9_perform 166 = .ok (.invokevirtual 186, 3) := by decide +kernel
theorem dX9_perform_169 : decode cX9_perform 169 = .ok (.ifCond .eq 7, 3) := by decide +kernel
theorem dX9_perform_172 : decode cX9_perform 172 = .ok (.iconst 1, 1) := by decide +kernel
theorem dX9_perform_173 : decode cX9_perform 173 = .ok (.goto 4, 3) := by decide +kernel
theorem dX9_perform_176 : decode cX9_perform 176 = .ok (.iconst 0, 1) := by decide +kernel
theorem dX9_perform_177 : decode cX9_perform 177 = .ok (.ireturn, 1) := by decide +kernel
theorem dX9_perform_178 : decode cX9_perform 178 = .ok (.aload_n 0, 1) := by decide +kernel
theorem dX9_perform_179 : decode cX9_perform 179 = .ok (.iload_n 2, 1) := by decide +kernel
theorem dX9_perform_180 : decode cX9_perform 180 = .ok (.iload_n 3, 1) := by decide +kernel
theorem dX9_perform_181 : decode cX9_perform 181 = .ok (.iload 4, 2) := by decide +kernel
theorem dX9_perform_183 : decode cX9_perform 183 = .ok (.invokevirtual 190, 3) := by decide +kernel
theorem dX9_perform_186 : decode cX9_perform 186 = .ok (.ireturn, 1) := by decide +kernel
theorem dX9_perform_187 : decode cX9_perform 187 = .ok (.aload_n 0, 1) := by decide +kernel
theorem dX9_perform_188 : decode cX9_perform 188 = .ok (.getfield 35, 3) := by decide +kernel
theorem dX9_perform_191 : decode cX9_perform 191 = .ok (.iload_n 2, 1) := by decide +kernel
theorem dX9_perform_192 : decode cX9_perform 192 = .ok (.iload_n 3, 1) := by decide +kernel
theorem dX9_perform_193 : decode cX9_perform 193 = .ok (.invokestatic 194, 3) := by decide +kernel
theorem dX9_perform_196 : decode cX9_perform 196 = .ok (.invokevirtual 197, 3) := by decide +kernel
theorem dX9_perform_199 : decode cX9_perform 199 = .ok (.ireturn, 1) := by decide +kernel
theorem dX9_perform_200 : decode cX9_perform 200 = .ok (.aload_n 0, 1) := by decide +kernel
theorem dX9_perform_201 : decode cX9_perform 201 = .ok (.getfield 12, 3) := by decide +kernel
theorem dX9_perform_204 : decode cX9_perform 204 = .ok (.iload_n 2, 1) := by decide +kernel
theorem dX9_perform_205 : decode cX9_perform 205 = .ok (.iload_n 3, 1) := by decide +kernel
theorem dX9_perform_206 : decode cX9_perform 206 = .ok (.invokevirtual 201, 3) := by decide +kernel
theorem dX9_perform_209 : decode cX9_perform 209 = .ok (.ireturn, 1) := by decide +kernel
theorem dX9_perform_210 : decode cX9_perform 210 = .ok (.iconst (-1), 1) := by decide +kernel
theorem dX9_perform_211 : decode cX9_perform 211 = .ok (.ireturn, 1) := by decide +kernel
theorem dX9_decide_0 : decode cX9_decide 0 = .ok (.aload_n 0, 1) := by decide +kernel
theorem dX9_decide_1 : decode cX9_decide 1 = .ok (.getfield 28, 3) := by decide +kernel
theorem dX9_decide_4 : decode cX9_decide 4 = .ok (.invokevirtual 204, 3) := by decide +kernel
theorem dX9_decide_7 : decode cX9_decide 7 = .ok (.istore_n 1, 1) := by decide +kernel
theorem dX9_decide_8 : decode cX9_decide 8 = .ok (.aload_n 0, 1) := by decide +kernel
theorem dX9_decide_9 : decode cX9_decide 9 = .ok (.aload_n 0, 1) := by decide +kernel
theorem dX9_decide_10 : decode cX9_decide 10 = .ok (.invokevirtual 207, 3) := by decide +kernel
theorem dX9_decide_13 : decode cX9_decide 13 = .ok (.invokevirtual 210, 3) := by decide +kernel
theorem dX9_decide_16 : decode cX9_decide 16 = .ok (.istore_n 2, 1) := by decide +kernel
theorem dX9_decide_17 : decode cX9_decide 17 = .ok (.aload_n 0, 1) := by decide +kernel
theorem dX9_decide_18 : decode cX9_decide 18 = .ok (.dup, 1) := by decide +kernel
theorem dX9_decide_19 : decode cX9_decide 19 = .ok (.getfield 68, 3) := by decide +kernel
theorem dX9_decide_22 : decode cX9_decide 22 = .ok (.iconst 1, 1) := by decide +kernel
theorem dX9_decide_23 : decode cX9_decide 23 = .ok (.iadd, 1) := by decide +kernel
theorem dX9_decide_24 : decode cX9_decide 24 = .ok (.putfield 68, 3) := by decide +kernel
theorem dX9_decide_27 : decode cX9_decide 27 = .ok (.iload_n 2, 1) := by decide +kernel
theorem dX9_decide_28 : decode cX9_decide 28 = .ok (.ifCond .eq 13, 3) := by decide +kernel
theorem dX9_decide_31 : decode cX9_decide 31 = .ok (.aload_n 0, 1) := by decide +kernel
theorem dX9_decide_32 : decode cX9_decide 32 = .ok (.dup, 1) := by decide +kernel
theorem dX9_decide_33 : decode cX9_decide 33 = .ok (.getfield 71, 3) := by decide +kernel
theorem dX9_decide_36 : decode cX9_decide 36 = .ok (.iconst 1, 1) := by decide +kernel
theorem dX9_decide_37 : decode cX9_decide 37 = .ok (.iadd, 1) := by decide +kernel
theorem dX9_decide_38 : decode cX9_decide 38 = .ok (.putfield 71, 3) := by decide +kernel
theorem dX9_decide_41 : decode cX9_decide 41 = .ok (.iload_n 1, 1) := by decide +kernel
theorem dX9_decide_42 : decode cX9_decide 42 = .ok (.ifCond .ne 11, 3) := by decide +kernel
theorem dX9_decide_45 : decode cX9_decide 45 = .ok (.iload_n 2, 1) := by decide +kernel
theorem dX9_decide_46 : decode cX9_decide 46 = .ok (.ifCond .eq 7, 3) := by decide +kernel
theorem dX9_decide_49 : decode cX9_decide 49 = .ok (.aload_n 0, 1) := by decide +kernel
theorem dX9_decide_50 : decode cX9_decide 50 = .ok (.invokevirtual 213, 3) := by decide +kernel
theorem dX9_decide_53 : decode cX9_decide 53 = .ok (.aload_n 0, 1) := by decide +kernel
theorem dX9_decide_54 : decode cX9_decide 54 = .ok (.getfield 28, 3) := by decide +kernel
theorem dX9_decide_57 : decode cX9_decide 57 = .ok (.invokevirtual 216, 3) := by decide +kernel
theorem dX9_decide_60 : decode cX9_decide 60 = .ok (.iload_n 1, 1) := by decide +kernel
theorem dX9_decide_61 : decode cX9_decide 61 = .ok (.ifCond .ne 11, 3) := by decide +kernel
theorem dX9_decide_64 : decode cX9_decide 64 = .ok (.aload_n 0, 1) := by decide +kernel
theorem dX9_decide_65 : decode cX9_decide 65 = .ok (.iload_n 2, 1) := by decide +kernel
theorem dX9_decide_66 : decode cX9_decide 66 = .ok (.invokevirtual 219, 3) := by decide +kernel
theorem dX9_decide_69 : decode cX9_decide 69 = .ok (.goto 12, 3) := by decide +kernel
theorem dX9_decide_72 : decode cX9_decide 72 = .ok (.iload_n 2, 1) := by decide +kernel
theorem dX9_decide_73 : decode cX9_decide 73 = .ok (.ifCond .eq 8, 3) := by decide +kernel
theorem dX9_decide_76 : decode cX9_decide 76 = .ok (.aload_n 0, 1) := by decide +kernel
theorem dX9_decide_77 : decode cX9_decide 77 = .ok (.iload_n 1, 1) := by decide +kernel
theorem dX9_decide_78 : decode cX9_decide 78 = .ok (.invokevirtual 223, 3) := by decide +kernel
theorem dX9_decide_81 : decode cX9_decide 81 = .ok (.aload_n 0, 1) := by decide +kernel
theorem dX9_decide_82 : decode cX9_decide 82 = .ok (.invokevirtual 227, 3) := by decide +kernel
theorem dX9_decide_85 : decode cX9_decide 85 = .ok (.iload_n 2, 1) := by decide +kernel
theorem dX9_decide_86 : decode cX9_decide 86 = .ok (.ireturn, 1) := by decide +kernel
theorem dX9_rewardYesVoters_0 : decode cX9_rewardYesVoters 0 = .ok (.aload_n 0, 1) := by decide +kernel
theorem dX9_rewardYesVoters_1 : decode cX9_rewardYesVoters 1 = .ok (.invokevirtual 230, 3) := by decide +kernel
theorem dX9_rewardYesVoters_4 : decode cX9_rewardYesVoters 4 = .ok (.istore_n 1, 1) := by decide +kernel
theorem dX9_rewardYesVoters_5 : decode cX9_rewardYesVoters 5 = .ok (.iconst 0, 1) := by decide +kernel
theorem dX9_rewardYesVoters_6 : decode cX9_rewardYesVoters 6 = .ok (.istore_n 2, 1) := by decide +kernel
theorem dX9_rewardYesVoters_7 : decode cX9_rewardYesVoters 7 = .ok (.iload_n 2, 1) := by decide +kernel
theorem dX9_rewardYesVoters_8 : decode cX9_rewardYesVoters 8 = .ok (.aload_n 0, 1) := by decide +kernel
theorem dX9_rewardYesVoters_9 : decode cX9_rewardYesVoters 9 = .ok (.getfield 12, 3) := by decide +kernel
theorem dX9_rewardYesVoters_12 : decode cX9_rewardYesVoters 12 = .ok (.getfield 132, 3) := by decide +kernel
theorem dX9_rewardYesVoters_15 : decode cX9_rewardYesVoters 15 = .ok (.if_icmp .ge 27, 3) := by decide +kernel
theorem dX9_rewardYesVoters_18 : decode cX9_rewardYesVoters 18 = .ok (.aload_n 0, 1) := by decide +kernel
theorem dX9_rewardYesVoters_19 : decode cX9_rewardYesVoters 19 = .ok (.iload_n 2, 1) := by decide +kernel
theorem dX9_rewardYesVoters_20 : decode cX9_rewardYesVoters 20 = .ok (.iload_n 1, 1) := by decide +kernel
theorem dX9_rewardYesVoters_21 : decode cX9_rewardYesVoters 21 = .ok (.invokevirtual 233, 3) := by decide +kernel
theorem dX9_rewardYesVoters_24 : decode cX9_rewardYesVoters 24 = .ok (.ifCond .eq 12, 3) := by decide +kernel
theorem dX9_rewardYesVoters_27 : decode cX9_rewardYesVoters 27 = .ok (.aload_n 0, 1) := by decide +kernel
theorem dX9_rewardYesVoters_28 : decode cX9_rewardYesVoters 28 = .ok (.getfield 12, 3) := by decide +kernel
theorem dX9_rewardYesVoters_31 : decode cX9_rewardYesVoters 31 = .ok (.iload_n 2, 1) := by decide +kernel
theorem dX9_rewardYesVoters_32 : decode cX9_rewardYesVoters 32 = .ok (.iconst 2, 1) := by decide +kernel
theorem dX9_rewardYesVoters_33 : decode cX9_rewardYesVoters 33 = .ok (.invokevirtual 236, 3) := by decide +kernel
theorem dX9_rewardYesVoters_36 : decode cX9_rewardYesVoters 36 = .ok (.iinc 2 1, 3) := by decide +kernel
theorem dX9_rewardYesVoters_39 : decode cX9_rewardYesVoters 39 = .ok (.goto (-32), 3) := by decide +kernel
theorem dX9_rewardYesVoters_42 : decode cX9_rewardYesVoters 42 = .ok (.return_, 1) := by decide +kernel
theorem dX9_settleMain_0 : decode cX9_settleMain 0 = .ok (.iload_n 1, 1) := by decide +kernel
theorem dX9_settleMain_1 : decode cX9_settleMain 1 = .ok (.ifCond .eq 34, 3) := by decide +kernel
theorem dX9_settleMain_4 : decode cX9_settleMain 4 = .ok (.aload_n 0, 1) := by decide +kernel
theorem dX9_settleMain_5 : decode cX9_settleMain 5 = .ok (.getfield 39, 3) := by decide +kernel
theorem dX9_settleMain_8 : decode cX9_settleMain 8 = .ok (.aload_n 0, 1) := by decide +kernel
theorem dX9_settleMain_9 : decode cX9_settleMain 9 = .ok (.getfield 61, 3) := by decide +kernel
theorem dX9_settleMain_12 : decode cX9_settleMain 12 = .ok (.bipush 20, 2) := by decide +kernel
theorem dX9_settleMain_14 : decode cX9_settleMain 14 = .ok (.invokestatic 240, 3) := by decide +kernel
theorem dX9_settleMain_17 : decode cX9_settleMain 17 = .ok (.aload_n 0, 1) := by decide +kernel
theorem dX9_settleMain_18 : decode cX9_settleMain 18 = .ok (.getfield 28, 3) := by decide +kernel
theorem dX9_settleMain_21 : decode cX9_settleMain 21 = .ok (.getfield 174, 3) := by decide +kernel
theorem dX9_settleMain_24 : decode cX9_settleMain 24 = .ok (.iastore, 1) := by decide +kernel
theorem dX9_settleMain_25 : decode cX9_settleMain 25 = .ok (.aload_n 0, 1) := by decide +kernel
theorem dX9_settleMain_26 : decode cX9_settleMain 26 = .ok (.dup, 1) := by decide +kernel
theorem dX9_settleMain_27 : decode cX9_settleMain 27 = .ok (.getfield 61, 3) := by decide +kernel
theorem dX9_settleMain_30 : decode cX9_settleMain 30 = .ok (.iconst 1, 1) := by decide +kernel
theorem dX9_settleMain_31 : decode cX9_settleMain 31 = .ok (.iadd, 1) := by decide +kernel
theorem dX9_settleMain_32 : decode cX9_settleMain 32 = .ok (.putfield 61, 3) := by decide +kernel
theorem dX9_settleMain_35 : decode cX9_settleMain 35 = .ok (.aload_n 0, 1) := by decide +kernel
theorem dX9_settleMain_36 : decode cX9_settleMain 36 = .ok (.getfield 21, 3) := by decide +kernel
theorem dX9_settleMain_39 : decode cX9_settleMain 39 = .ok (.aload_n 0, 1) := by decide +kernel
theorem dX9_settleMain_40 : decode cX9_settleMain 40 = .ok (.getfield 28, 3) := by decide +kernel
theorem dX9_settleMain_43 : decode cX9_settleMain 43 = .ok (.getfield 174, 3) := by decide +kernel
theorem dX9_settleMain_46 : decode cX9_settleMain 46 = .ok (.invokevirtual 245, 3) := by decide +kernel
theorem dX9_settleMain_49 : decode cX9_settleMain 49 = .ok (.return_, 1) := by decide +kernel
theorem dX9_takeEffect_0 : decode cX9_takeEffect 0 = .ok (.iload_n 1, 1) := by decide +kernel
theorem dX9_takeEffect_1 : decode cX9_takeEffect 1 = .ok (.tableswitch 98 1 4 #[31, 56, 80, 91], 31) := by decide +kernel
theorem dX9_takeEffect_32 : decode cX9_takeEffect 32 = .ok (.aload_n 0, 1) := by decide +kernel
theorem dX9_takeEffect_33 : decode cX9_takeEffect 33 = .ok (.getfield 21, 3) := by decide +kernel
theorem dX9_takeEffect_36 : decode cX9_takeEffect 36 = .ok (.aload_n 0, 1) := by decide +kernel
theorem dX9_takeEffect_37 : decode cX9_takeEffect 37 = .ok (.getfield 28, 3) := by decide +kernel
theorem dX9_takeEffect_40 : decode cX9_takeEffect 40 = .ok (.getfield 174, 3) := by decide +kernel
theorem dX9_takeEffect_43 : decode cX9_takeEffect 43 = .ok (.aload_n 0, 1) := by decide +kernel
theorem dX9_takeEffect_44 : decode cX9_takeEffect 44 = .ok (.aload_n 0, 1) := by decide +kernel
theorem dX9_takeEffect_45 : decode cX9_takeEffect 45 = .ok (.invokevirtual 230, 3) := by decide +kernel
theorem dX9_takeEffect_48 : decode cX9_takeEffect 48 = .ok (.invokevirtual 248, 3) := by decide +kernel
theorem dX9_takeEffect_51 : decode cX9_takeEffect 51 = .ok (.invokevirtual 251, 3) := by decide +kernel
theorem dX9_takeEffect_54 : decode cX9_takeEffect 54 = .ok (.goto 45, 3) := by decide +kernel
theorem dX9_takeEffect_57 : decode cX9_takeEffect 57 = .ok (.aload_n 0, 1) := by decide +kernel
theorem dX9_takeEffect_58 : decode cX9_takeEffect 58 = .ok (.getfield 28, 3) := by decide +kernel
theorem dX9_takeEffect_61 : decode cX9_takeEffect 61 = .ok (.invokevirtual 254, 3) := by decide +kernel
theorem dX9_takeEffect_64 : decode cX9_takeEffect 64 = .ok (.aload_n 0, 1) := by decide +kernel
theorem dX9_takeEffect_65 : decode cX9_takeEffect 65 = .ok (.getfield 21, 3) := by decide +kernel
theorem dX9_takeEffect_68 : decode cX9_takeEffect 68 = .ok (.aload_n 0, 1) := by decide +kernel
theorem dX9_takeEffect_69 : decode cX9_takeEffect 69 = .ok (.getfield 28, 3) := by decide +kernel
theorem dX9_takeEffect_72 : decode cX9_takeEffect 72 = .ok (.getfield 174, 3) := by decide +kernel
theorem dX9_takeEffect_75 : decode cX9_takeEffect 75 = .ok (.invokevirtual 257, 3) := by decide +kernel
theorem dX9_takeEffect_78 : decode cX9_takeEffect 78 = .ok (.goto 21, 3) := by decide +kernel
theorem dX9_takeEffect_81 : decode cX9_takeEffect 81 = .ok (.aload_n 0, 1) := by decide +kernel
theorem dX9_takeEffect_82 : decode cX9_takeEffect 82 = .ok (.getfield 28, 3) := by decide +kernel
theorem dX9_takeEffect_85 : decode cX9_takeEffect 85 = .ok (.iconst 1, 1) := by decide +kernel
theorem dX9_takeEffect_86 : decode cX9_takeEffect 86 = .ok (.putfield 150, 3) := by decide +kernel
theorem dX9_takeEffect_89 : decode cX9_takeEffect 89 = .ok (.goto 10, 3) := by decide +kernel
theorem dX9_takeEffect_92 : decode cX9_takeEffect 92 = .ok (.aload_n 0, 1) := by decide +kernel
theorem dX9_takeEffect_93 : decode cX9_takeEffect 93 = .ok (.invokevirtual 260, 3) := by decide +kernel
theorem dX9_takeEffect_96 : decode cX9_takeEffect 96 = .ok (.goto 3, 3) := by decide +kernel
theorem dX9_takeEffect_99 : decode cX9_takeEffect 99 = .ok (.return_, 1) := by decide +kernel
theorem dX9_endSitting_0 : decode cX9_endSitting 0 = .ok (.aload_n 0, 1) := by decide +kernel
theorem dX9_endSitting_1 : decode cX9_endSitting 1 = .ok (.getfield 28, 3) := by decide +kernel
theorem dX9_endSitting_4 : decode cX9_endSitting 4 = .ok (.invokevirtual 254, 3) := by decide +kernel
theorem dX9_endSitting_7 : decode cX9_endSitting 7 = .ok (.aload_n 0, 1) := by decide +kernel
theorem dX9_endSitting_8 : decode cX9_endSitting 8 = .ok (.dup, 1) := by decide +kernel
theorem dX9_endSitting_9 : decode cX9_endSitting 9 = .ok (.getfield 65, 3) := by decide +kernel
theorem dX9_endSitting_12 : decode cX9_endSitting 12 = .ok (.iconst 1, 1) := by decide +kernel
theorem dX9_endSitting_13 : decode cX9_endSitting 13 = .ok (.iadd, 1) := by decide +kernel
theorem dX9_endSitting_14 : decode cX9_endSitting 14 = .ok (.putfield 65, 3) := by decide +kernel
theorem dX9_endSitting_17 : decode cX9_endSitting 17 = .ok (.return_, 1) := by decide +kernel
theorem dX9_startAnewIfTableIsEmpty_0 : decode cX9_startAnewIfTableIsEmpty 0 = .ok (.aload_n 0, 1) := by decide +kernel
theorem dX9_startAnewIfTableIsEmpty_1 : decode cX9_startAnewIfTableIsEmpty 1 = .ok (.getfield 28, 3) := by decide +kernel
theorem dX9_startAnewIfTableIsEmpty_4 : decode cX9_startAnewIfTableIsEmpty 4 = .ok (.getfield 116, 3) := by decide +kernel
theorem dX9_startAnewIfTableIsEmpty_7 : decode cX9_startAnewIfTableIsEmpty 7 = .ok (.ifCond .ne 18, 3) := by decide +kernel
theorem dX9_startAnewIfTableIsEmpty_10 : decode cX9_startAnewIfTableIsEmpty 10 = .ok (.aload_n 0, 1) := by decide +kernel
theorem dX9_startAnewIfTableIsEmpty_11 : decode cX9_startAnewIfTableIsEmpty 11 = .ok (.getfield 28, 3) := by decide +kernel
theorem dX9_startAnewIfTableIsEmpty_14 : decode cX9_startAnewIfTableIsEmpty 14 = .ok (.iconst 0, 1) := by decide +kernel
theorem dX9_startAnewIfTableIsEmpty_15 : decode cX9_startAnewIfTableIsEmpty 15 = .ok (.putfield 150, 3) := by decide +kernel
theorem dX9_startAnewIfTableIsEmpty_18 : decode cX9_startAnewIfTableIsEmpty 18 = .ok (.aload_n 0, 1) := by decide +kernel
theorem dX9_startAnewIfTableIsEmpty_19 : decode cX9_startAnewIfTableIsEmpty 19 = .ok (.getfield 12, 3) := by decide +kernel
theorem dX9_startAnewIfTableIsEmpty_22 : decode cX9_startAnewIfTableIsEmpty 22 = .ok (.invokevirtual 263, 3) := by decide +kernel
theorem dX9_startAnewIfTableIsEmpty_25 : decode cX9_startAnewIfTableIsEmpty 25 = .ok (.return_, 1) := by decide +kernel
theorem dX9_spillTea_0 : decode cX9_spillTea 0 = .ok (.aload_n 0, 1) := by decide +kernel
theorem dX9_spillTea_1 : decode cX9_spillTea 1 = .ok (.getfield 35, 3) := by decide +kernel
theorem dX9_spillTea_4 : decode cX9_spillTea 4 = .ok (.iload_n 1, 1) := by decide +kernel
theorem dX9_spillTea_5 : decode cX9_spillTea 5 = .ok (.iload_n 2, 1) := by decide +kernel
theorem dX9_spillTea_6 : decode cX9_spillTea 6 = .ok (.iload_n 3, 1) := by decide +kernel
theorem dX9_spillTea_7 : decode cX9_spillTea 7 = .ok (.invokevirtual 266, 3) := by decide +kernel
theorem dX9_spillTea_10 : decode cX9_spillTea 10 = .ok (.aload_n 0, 1) := by decide +kernel
theorem dX9_spillTea_11 : decode cX9_spillTea 11 = .ok (.getfield 35, 3) := by decide +kernel
theorem dX9_spillTea_14 : decode cX9_spillTea 14 = .ok (.invokevirtual 270, 3) := by decide +kernel
theorem dX9_spillTea_17 : decode cX9_spillTea 17 = .ok (.bipush 20, 2) := by decide +kernel
theorem dX9_spillTea_19 : decode cX9_spillTea 19 = .ok (.if_icmp .lt 11, 3) := by decide +kernel
theorem dX9_spillTea_22 : decode cX9_spillTea 22 = .ok (.aload_n 0, 1) := by decide +kernel
theorem dX9_spillTea_23 : decode cX9_spillTea 23 = .ok (.invokevirtual 260, 3) := by decide +kernel
theorem dX9_spillTea_26 : decode cX9_spillTea 26 = .ok (.aload_n 0, 1) := by decide +kernel
theorem dX9_spillTea_27 : decode cX9_spillTea 27 = .ok (.invokevirtual 227, 3) := by decide +kernel
theorem dX9_spillTea_30 : decode cX9_spillTea 30 = .ok (.aload_n 0, 1) := by decide +kernel
theorem dX9_spillTea_31 : decode cX9_spillTea 31 = .ok (.getfield 35, 3) := by decide +kernel
theorem dX9_spillTea_34 : decode cX9_spillTea 34 = .ok (.getfield 53, 3) := by decide +kernel
theorem dX9_spillTea_37 : decode cX9_spillTea 37 = .ok (.invokestatic 273, 3) := by decide +kernel
theorem dX9_spillTea_40 : decode cX9_spillTea 40 = .ok (.ireturn, 1) := by decide +kernel
theorem dX9_mainPosition_0 : decode cX9_mainPosition 0 = .ok (.aload_n 0, 1) := by decide +kernel
theorem dX9_mainPosition_1 : decode cX9_mainPosition 1 = .ok (.getfield 21, 3) := by decide +kernel
theorem dX9_mainPosition_4 : decode cX9_mainPosition 4 = .ok (.aload_n 0, 1) := by decide +kernel
theorem dX9_mainPosition_5 : decode cX9_mainPosition 5 = .ok (.getfield 28, 3) := by decide +kernel
theorem dX9_mainPosition_8 : decode cX9_mainPosition 8 = .ok (.getfield 174, 3) := by decide +kernel
theorem dX9_mainPosition_11 : decode cX9_mainPosition 11 = .ok (.invokevirtual 278, 3) := by decide +kernel
theorem dX9_mainPosition_14 : decode cX9_mainPosition 14 = .ok (.ireturn, 1) := by decide +kernel
theorem dX9_amended_0 : decode cX9_amended 0 = .ok (.iconst 0, 1) := by decide +kernel
theorem dX9_amended_1 : decode cX9_amended 1 = .ok (.bipush 99, 2) := by decide +kernel
theorem dX9_amended_3 : decode cX9_amended 3 = .ok (.iload_n 1, 1) := by decide +kernel
theorem dX9_amended_4 : decode cX9_amended 4 = .ok (.aload_n 0, 1) := by decide +kernel
theorem dX9_amended_5 : decode cX9_amended 5 = .ok (.getfield 28, 3) := by decide +kernel
theorem dX9_amended_8 : decode cX9_amended 8 = .ok (.getfield 180, 3) := by decide +kernel
theorem dX9_amended_11 : decode cX9_amended 11 = .ok (.iadd, 1) := by decide +kernel
theorem dX9_amended_12 : decode cX9_amended 12 = .ok (.invokestatic 281, 3) := by decide +kernel
theorem dX9_amended_15 : decode cX9_amended 15 = .ok (.invokestatic 284, 3) := by decide +kernel
theorem dX9_amended_18 : decode cX9_amended 18 = .ok (.ireturn, 1) := by decide +kernel
theorem dX9_yesWeight_0 : decode cX9_yesWeight 0 = .ok (.aload_n 0, 1) := by decide +kernel
theorem dX9_yesWeight_1 : decode cX9_yesWeight 1 = .ok (.invokevirtual 230, 3) := by decide +kernel
theorem dX9_yesWeight_4 : decode cX9_yesWeight 4 = .ok (.istore_n 1, 1) := by decide +kernel
theorem dX9_yesWeight_5 : decode cX9_yesWeight 5 = .ok (.iconst 0, 1) := by decide +kernel
theorem dX9_yesWeight_6 : decode cX9_yesWeight 6 = .ok (.istore_n 2, 1) := by decide +kernel
theorem dX9_yesWeight_7 : decode cX9_yesWeight 7 = .ok (.iconst 0, 1) := by decide +kernel
theorem dX9_yesWeight_8 : decode cX9_yesWeight 8 = .ok (.istore_n 3, 1) := by decide +kernel
theorem dX9_yesWeight_9 : decode cX9_yesWeight 9 = .ok (.iload_n 3, 1) := by decide +kernel
theorem dX9_yesWeight_10 : decode cX9_yesWeight 10 = .ok (.aload_n 0, 1) := by decide +kernel
theorem dX9_yesWeight_11 : decode cX9_yesWeight 11 = .ok (.getfield 12, 3) := by decide +kernel
theorem dX9_yesWeight_14 : decode cX9_yesWeight 14 = .ok (.getfield 132, 3) := by decide +kernel
theorem dX9_yesWeight_17 : decode cX9_yesWeight 17 = .ok (.if_icmp .ge 30, 3) := by decide +kernel
theorem dX9_yesWeight_20 : decode cX9_yesWeight 20 = .ok (.aload_n 0, 1) := by decide +kernel
theorem dX9_yesWeight_21 : decode cX9_yesWeight 21 = .ok (.iload_n 3, 1) := by decide +kernel
theorem dX9_yesWeight_22 : decode cX9_yesWeight 22 = .ok (.iload_n 1, 1) := by decide +kernel
theorem dX9_yesWeight_23 : decode cX9_yesWeight 23 = .ok (.invokevirtual 233, 3) := by decide +kernel
theorem dX9_yesWeight_26 : decode cX9_yesWeight 26 = .ok (.ifCond .eq 15, 3) := by decide +kernel
theorem dX9_yesWeight_29 : decode cX9_yesWeight 29 = .ok (.iload_n 2, 1) := by decide +kernel
theorem dX9_yesWeight_30 : decode cX9_yesWeight 30 = .ok (.aload_n 0, 1) := by decide +kernel
theorem dX9_yesWeight_31 : decode cX9_yesWeight 31 = .ok (.getfield 12, 3) := by decide +kernel
theorem dX9_yesWeight_34 : decode cX9_yesWeight 34 = .ok (.getfield 287, 3) := by decide +kernel
theorem dX9_yesWeight_37 : decode cX9_yesWeight 37 = .ok (.iload_n 3, 1) := by decide +kernel
theorem dX9_yesWeight_38 : decode cX9_yesWeight 38 = .ok (.iaload, 1) := by decide +kernel
theorem dX9_yesWeight_39 : decode cX9_yesWeight 39 = .ok (.iadd, 1) := by decide +kernel
theorem dX9_yesWeight_40 : decode cX9_yesWeight 40 = .ok (.istore_n 2, 1) := by decide +kernel
theorem dX9_yesWeight_41 : decode cX9_yesWeight 41 = .ok (.iinc 3 1, 3) := by decide +kernel
theorem dX9_yesWeight_44 : decode cX9_yesWeight 44 = .ok (.goto (-35), 3) := by decide +kernel
theorem dX9_yesWeight_47 : decode cX9_yesWeight 47 = .ok (.iload_n 2, 1) := by decide +kernel
theorem dX9_yesWeight_48 : decode cX9_yesWeight 48 = .ok (.ireturn, 1) := by decide +kernel
theorem dX9_isEnough_0 : decode cX9_isEnough 0 = .ok (.aload_n 0, 1) := by decide +kernel
theorem dX9_isEnough_1 : decode cX9_isEnough 1 = .ok (.getfield 12, 3) := by decide +kernel
theorem dX9_isEnough_4 : decode cX9_isEnough 4 = .ok (.invokevirtual 290, 3) := by decide +kernel
theorem dX9_isEnough_7 : decode cX9_isEnough 7 = .ok (.istore_n 2, 1) := by decide +kernel
theorem dX9_isEnough_8 : decode cX9_isEnough 8 = .ok (.aload_n 0, 1) := by decide +kernel
theorem dX9_isEnough_9 : decode cX9_isEnough 9 = .ok (.getfield 28, 3) := by decide +kernel
theorem dX9_isEnough_12 : decode cX9_isEnough 12 = .ok (.invokevirtual 204, 3) := by decide +kernel
theorem dX9_isEnough_15 : decode cX9_isEnough 15 = .ok (.iconst 3, 1) := by decide +kernel
theorem dX9_isEnough_16 : decode cX9_isEnough 16 = .ok (.if_icmp .ne 20, 3) := by decide +kernel
theorem dX9_isEnough_19 : decode cX9_isEnough 19 = .ok (.iconst 3, 1) := by decide +kernel
theorem dX9_isEnough_20 : decode cX9_isEnough 20 = .ok (.iload_n 1, 1) := by decide +kernel
theorem dX9_isEnough_21 : decode cX9_isEnough 21 = .ok (.imul, 1) := by decide +kernel
theorem dX9_isEnough_22 : decode cX9_isEnough 22 = .ok (.iconst 2, 1) := by decide +kernel
theorem dX9_isEnough_23 : decode cX9_isEnough 23 = .ok (.iload_n 2, 1) := by decide +kernel
theorem dX9_isEnough_24 : decode cX9_isEnough 24 = .ok (.imul, 1) := by decide +kernel
theorem dX9_isEnough_25 : decode cX9_isEnough 25 = .ok (.if_icmp .lt 7, 3) := by decide +kernel
theorem dX9_isEnough_28 : decode cX9_isEnough 28 = .ok (.iconst 1, 1) := by decide +kernel
theorem dX9_isEnough_29 : decode cX9_isEnough 29 = .ok (.goto 19, 3) := by decide +kernel
theorem dX9_isEnough_32 : decode cX9_isEnough 32 = .ok (.iconst 0, 1) := by decide +kernel
theorem dX9_isEnough_33 : decode cX9_isEnough 33 = .ok (.goto 15, 3) := by decide +kernel
theorem dX9_isEnough_36 : decode cX9_isEnough 36 = .ok (.iconst 2, 1) := by decide +kernel
theorem dX9_isEnough_37 : decode cX9_isEnough 37 = .ok (.iload_n 1, 1) := by decide +kernel
theorem dX9_isEnough_38 : decode cX9_isEnough 38 = .ok (.imul, 1) := by decide +kernel
theorem dX9_isEnough_39 : decode cX9_isEnough 39 = .ok (.iload_n 2, 1) := by decide +kernel
theorem dX9_isEnough_40 : decode cX9_isEnough 40 = .ok (.if_icmp .le 7, 3) := by decide +kernel
theorem dX9_isEnough_43 : decode cX9_isEnough 43 = .ok (.iconst 1, 1) := by decide +kernel
theorem dX9_isEnough_44 : decode cX9_isEnough 44 = .ok (.goto 4, 3) := by decide +kernel
theorem dX9_isEnough_47 : decode cX9_isEnough 47 = .ok (.iconst 0, 1) := by decide +kernel
theorem dX9_isEnough_48 : decode cX9_isEnough 48 = .ok (.ireturn, 1) := by decide +kernel
theorem dX9_saysYes_0 : decode cX9_saysYes 0 = .ok (.aload_n 0, 1) := by decide +kernel
theorem dX9_saysYes_1 : decode cX9_saysYes 1 = .ok (.getfield 12, 3) := by decide +kernel
theorem dX9_saysYes_4 : decode cX9_saysYes 4 = .ok (.iload_n 1, 1) := by decide +kernel
theorem dX9_saysYes_5 : decode cX9_saysYes 5 = .ok (.invokevirtual 144, 3) := by decide +kernel
theorem dX9_saysYes_8 : decode cX9_saysYes 8 = .ok (.ifCond .ne 5, 3) := by decide +kernel
theorem dX9_saysYes_11 : decode cX9_saysYes 11 = .ok (.iconst 0, 1) := by decide +kernel
theorem dX9_saysYes_12 : decode cX9_saysYes 12 = .ok (.ireturn, 1) := by decide +kernel
theorem dX9_saysYes_13 : decode cX9_saysYes 13 = .ok (.iload_n 2, 1) := by decide +kernel
theorem dX9_saysYes_14 : decode cX9_saysYes 14 = .ok (.aload_n 0, 1) := by decide +kernel
theorem dX9_saysYes_15 : decode cX9_saysYes 15 = .ok (.getfield 12, 3) := by decide +kernel
theorem dX9_saysYes_18 : decode cX9_saysYes 18 = .ok (.getfield 293, 3) := by decide +kernel
theorem dX9_saysYes_21 : decode cX9_saysYes 21 = .ok (.iload_n 1, 1) := by decide +kernel
theorem dX9_saysYes_22 : decode cX9_saysYes 22 = .ok (.iaload, 1) := by decide +kernel
theorem dX9_saysYes_23 : decode cX9_saysYes 23 = .ok (.isub, 1) := by decide +kernel
theorem dX9_saysYes_24 : decode cX9_saysYes 24 = .ok (.invokestatic 296, 3) := by decide +kernel
theorem dX9_saysYes_27 : decode cX9_saysYes 27 = .ok (.istore_n 3, 1) := by decide +kernel
theorem dX9_saysYes_28 : decode cX9_saysYes 28 = .ok (.aload_n 0, 1) := by decide +kernel
theorem dX9_saysYes_29 : decode cX9_saysYes 29 = .ok (.getfield 28, 3) := by decide +kernel
theorem dX9_saysYes_32 : decode cX9_saysYes 32 = .ok (.invokevirtual 204, 3) := by decide +kernel
theorem dX9_saysYes_35 : decode cX9_saysYes 35 = .ok (.tableswitch 122 0 4 #[33, 45, 73, 85, 103], 33) := by decide +kernel
theorem dX9_saysYes_68 : decode cX9_saysYes 68 = .ok (.iload_n 3, 1) := by decide +kernel
theorem dX9_saysYes_69 : decode cX9_saysYes 69 = .ok (.bipush 25, 2) := by decide +kernel
theorem dX9_saysYes_71 : decode cX9_saysYes 71 = .ok (.if_icmp .gt 7, 3) := by decide +kernel
theorem dX9_saysYes_74 : decode cX9_saysYes 74 = .ok (.iconst 1, 1) := by decide +kernel
theorem dX9_saysYes_75 : decode cX9_saysYes 75 = .ok (.goto 4, 3) := by decide +kernel
theorem dX9_saysYes_78 : decode cX9_saysYes 78 = .ok (.iconst 0, 1) := by decide +kernel
theorem dX9_saysYes_79 : decode cX9_saysYes 79 = .ok (.ireturn, 1) := by decide +kernel
theorem dX9_saysYes_80 : decode cX9_saysYes 80 = .ok (.aload_n 0, 1) := by decide +kernel
theorem dX9_saysYes_81 : decode cX9_saysYes 81 = .ok (.iload_n 2, 1) := by decide +kernel
theorem dX9_saysYes_82 : decode cX9_saysYes 82 = .ok (.invokevirtual 248, 3) := by decide +kernel
theorem dX9_saysYes_85 : decode cX9_saysYes 85 = .ok (.aload_n 0, 1) := by decide +kernel
theorem dX9_saysYes_86 : decode cX9_saysYes 86 = .ok (.getfield 12, 3) := by decide +kernel
theorem dX9_saysYes_89 : decode cX9_saysYes 89 = .ok (.getfield 293, 3) := by decide +kernel
theorem dX9_saysYes_92 : decode cX9_saysYes 92 = .ok (.iload_n 1, 1) := by decide +kernel
theorem dX9_saysYes_93 : decode cX9_saysYes 93 = .ok (.iaload, 1) := by decide +kernel
theorem dX9_saysYes_94 : decode cX9_saysYes 94 = .ok (.isub, 1) := by decide +kernel
theorem dX9_saysYes_95 : decode cX9_saysYes 95 = .ok (.invokestatic 296, 3) := by decide +kernel
theorem dX9_saysYes_98 : decode cX9_saysYes 98 = .ok (.iload_n 3, 1) := by decide +kernel
theorem dX9_saysYes_99 : decode cX9_saysYes 99 = .ok (.if_icmp .ge 7, 3) := by decide +kernel
theorem dX9_saysYes_102 : decode cX9_saysYes 102 = .ok (.iconst 1, 1) := by decide +kernel
theorem dX9_saysYes_103 : decode cX9_saysYes 103 = .ok (.goto 4, 3) := by decide +kernel
theorem dX9_saysYes_106 : decode cX9_saysYes 106 = .ok (.iconst 0, 1) := by decide +kernel
theorem dX9_saysYes_107 : decode cX9_saysYes 107 = .ok (.ireturn, 1) := by decide +kernel
theorem dX9_saysYes_108 : decode cX9_saysYes 108 = .ok (.iload_n 3, 1) := by decide +kernel
theorem dX9_saysYes_109 : decode cX9_saysYes 109 = .ok (.bipush 25, 2) := by decide +kernel
theorem dX9_saysYes_111 : decode cX9_saysYes 111 = .ok (.if_icmp .le 7, 3) := by decide +kernel
theorem dX9_saysYes_114 : decode cX9_saysYes 114 = .ok (.iconst 1, 1) := by decide +kernel
theorem dX9_saysYes_115 : decode cX9_saysYes 115 = .ok (.goto 4, 3) := by decide +kernel
theorem dX9_saysYes_118 : decode cX9_saysYes 118 = .ok (.iconst 0, 1) := by decide +kernel
theorem dX9_saysYes_119 : decode cX9_saysYes 119 = .ok (.ireturn, 1) := by decide +kernel
theorem dX9_saysYes_120 : decode cX9_saysYes 120 = .ok (.aload_n 0, 1) := by decide +kernel
theorem dX9_saysYes_121 : decode cX9_saysYes 121 = .ok (.getfield 12, 3) := by decide +kernel
theorem dX9_saysYes_124 : decode cX9_saysYes 124 = .ok (.getfield 154, 3) := by decide +kernel
theorem dX9_saysYes_127 : decode cX9_saysYes 127 = .ok (.iload_n 1, 1) := by decide +kernel
theorem dX9_saysYes_128 : decode cX9_saysYes 128 = .ok (.iaload, 1) := by decide +kernel
theorem dX9_saysYes_129 : decode cX9_saysYes 129 = .ok (.ifCond .le 7, 3) := by decide +kernel
theorem dX9_saysYes_132 : decode cX9_saysYes 132 = .ok (.iconst 1, 1) := by decide +kernel
theorem dX9_saysYes_133 : decode cX9_saysYes 133 = .ok (.goto 4, 3) := by decide +kernel
theorem dX9_saysYes_136 : decode cX9_saysYes 136 = .ok (.iconst 0, 1) := by decide +kernel
theorem dX9_saysYes_137 : decode cX9_saysYes 137 = .ok (.ireturn, 1) := by decide +kernel
theorem dX9_saysYes_138 : decode cX9_saysYes 138 = .ok (.aload_n 0, 1) := by decide +kernel
theorem dX9_saysYes_139 : decode cX9_saysYes 139 = .ok (.getfield 12, 3) := by decide +kernel
theorem dX9_saysYes_142 : decode cX9_saysYes 142 = .ok (.getfield 157, 3) := by decide +kernel
theorem dX9_saysYes_145 : decode cX9_saysYes 145 = .ok (.iload_n 1, 1) := by decide +kernel
theorem dX9_saysYes_146 : decode cX9_saysYes 146 = .ok (.iaload, 1) := by decide +kernel
theorem dX9_saysYes_147 : decode cX9_saysYes 147 = .ok (.iconst 3, 1) := by decide +kernel
theorem dX9_saysYes_148 : decode cX9_saysYes 148 = .ok (.if_icmp .ge 7, 3) := by decide +kernel
theorem dX9_saysYes_151 : decode cX9_saysYes 151 = .ok (.iconst 1, 1) := by decide +kernel
theorem dX9_saysYes_152 : decode cX9_saysYes 152 = .ok (.goto 4, 3) := by decide +kernel
theorem dX9_saysYes_155 : decode cX9_saysYes 155 = .ok (.iconst 0, 1) := by decide +kernel
theorem dX9_saysYes_156 : decode cX9_saysYes 156 = .ok (.ireturn, 1) := by decide +kernel
theorem dX9_saysYes_157 : decode cX9_saysYes 157 = .ok (.iconst 0, 1) := by decide +kernel
theorem dX9_saysYes_158 : decode cX9_saysYes 158 = .ok (.ireturn, 1) := by decide +kernel
theorem dX9_keepsMinute_0 : decode cX9_keepsMinute 0 = .ok (.iload_n 1, 1) := by decide +kernel
theorem dX9_keepsMinute_1 : decode cX9_keepsMinute 1 = .ok (.ifCond .lt 26, 3) := by decide +kernel
theorem dX9_keepsMinute_4 : decode cX9_keepsMinute 4 = .ok (.iload_n 1, 1) := by decide +kernel
theorem dX9_keepsMinute_5 : decode cX9_keepsMinute 5 = .ok (.aload_n 0, 1) := by decide +kernel
theorem dX9_keepsMinute_6 : decode cX9_keepsMinute 6 = .ok (.getfield 61, 3) := by decide +kernel
theorem dX9_keepsMinute_9 : decode cX9_keepsMinute 9 = .ok (.if_icmp .ge 18, 3) := by decide +kernel
theorem dX9_keepsMinute_12 : decode cX9_keepsMinute 12 = .ok (.iload_n 1, 1) := by decide +kernel
theorem dX9_keepsMinute_13 : decode cX9_keepsMinute 13 = .ok (.aload_n 0, 1) := by decide +kernel
theorem dX9_keepsMinute_14 : decode cX9_keepsMinute 14 = .ok (.getfield 61, 3) := by decide +kernel
theorem dX9_keepsMinute_17 : decode cX9_keepsMinute 17 = .ok (.bipush 20, 2) := by decide +kernel
theorem dX9_keepsMinute_19 : decode cX9_keepsMinute 19 = .ok (.isub, 1) := by decide +kernel
theorem dX9_keepsMinute_20 : decode cX9_keepsMinute 20 = .ok (.if_icmp .lt 7, 3) := by decide +kernel
theorem dX9_keepsMinute_23 : decode cX9_keepsMinute 23 = .ok (.iconst 1, 1) := by decide +kernel
theorem dX9_keepsMinute_24 : decode cX9_keepsMinute 24 = .ok (.goto 4, 3) := by decide +kernel
theorem dX9_keepsMinute_27 : decode cX9_keepsMinute 27 = .ok (.iconst 0, 1) := by decide +kernel
theorem dX9_keepsMinute_28 : decode cX9_keepsMinute 28 = .ok (.ireturn, 1) := by decide +kernel
theorem dX9_minuteAt_0 : decode cX9_minuteAt 0 = .ok (.aload_n 0, 1) := by decide +kernel
theorem dX9_minuteAt_1 : decode cX9_minuteAt 1 = .ok (.getfield 39, 3) := by decide +kernel
theorem dX9_minuteAt_4 : decode cX9_minuteAt 4 = .ok (.iload_n 1, 1) := by decide +kernel
theorem dX9_minuteAt_5 : decode cX9_minuteAt 5 = .ok (.bipush 20, 2) := by decide +kernel
theorem dX9_minuteAt_7 : decode cX9_minuteAt 7 = .ok (.invokestatic 240, 3) := by decide +kernel
theorem dX9_minuteAt_10 : decode cX9_minuteAt 10 = .ok (.iaload, 1) := by decide +kernel
theorem dX9_minuteAt_11 : decode cX9_minuteAt 11 = .ok (.ireturn, 1) := by decide +kernel
theorem dX10_init_0 : decode cX10_init 0 = .ok (.aload_n 0, 1) := by decide +kernel
theorem dX10_init_1 : decode cX10_init 1 = .ok (.invokespecial 3, 3) := by decide +kernel
theorem dX10_init_4 : decode cX10_init 4 = .ok (.aload_n 0, 1) := by decide +kernel
theorem dX10_init_5 : decode cX10_init 5 = .ok (.iconst 5, 1) := by decide +kernel
theorem dX10_init_6 : decode cX10_init 6 = .ok (.newarray .int, 2) := by decide +kernel
theorem dX10_init_8 : decode cX10_init 8 = .ok (.putfield 11, 3) := by decide +kernel
theorem dX10_init_11 : decode cX10_init 11 = .ok (.return_, 1) := by decide +kernel
theorem dX10_copyFrom_0 : decode cX10_copyFrom 0 = .ok (.aload_n 1, 1) := by decide +kernel
theorem dX10_copyFrom_1 : decode cX10_copyFrom 1 = .ok (.getfield 11, 3) := by decide +kernel
theorem dX10_copyFrom_4 : decode cX10_copyFrom 4 = .ok (.aload_n 0, 1) := by decide +kernel
theorem dX10_copyFrom_5 : decode cX10_copyFrom 5 = .ok (.getfield 11, 3) := by decide +kernel
theorem dX10_copyFrom_8 : decode cX10_copyFrom 8 = .ok (.invokestatic 15, 3) := by decide +kernel
theorem dX10_copyFrom_11 : decode cX10_copyFrom 11 = .ok (.aload_n 0, 1) := by decide +kernel
theorem dX10_copyFrom_12 : decode cX10_copyFrom 12 = .ok (.aload_n 1, 1) := by decide +kernel
theorem dX10_copyFrom_13 : decode cX10_copyFrom 13 = .ok (.getfield 19, 3) := by decide +kernel
theorem dX10_copyFrom_16 : decode cX10_copyFrom 16 = .ok (.putfield 19, 3) := by decide +kernel
theorem dX10_copyFrom_19 : decode cX10_copyFrom 19 = .ok (.aload_n 0, 1) := by decide +kernel
theorem dX10_copyFrom_20 : decode cX10_copyFrom 20 = .ok (.aload_n 1, 1) := by decide +kernel
theorem dX10_copyFrom_21 : decode cX10_copyFrom 21 = .ok (.getfield 23, 3) := by decide +kernel
theorem dX10_copyFrom_24 : decode cX10_copyFrom 24 = .ok (.putfield 23, 3) := by decide +kernel
theorem dX10_copyFrom_27 : decode cX10_copyFrom 27 = .ok (.aload_n 0, 1) := by decide +kernel
theorem dX10_copyFrom_28 : decode cX10_copyFrom 28 = .ok (.aload_n 1, 1) := by decide +kernel
theorem dX10_copyFrom_29 : decode cX10_copyFrom 29 = .ok (.getfield 26, 3) := by decide +kernel
theorem dX10_copyFrom_32 : decode cX10_copyFrom 32 = .ok (.putfield 26, 3) := by decide +kernel
theorem dX10_copyFrom_35 : decode cX10_copyFrom 35 = .ok (.aload_n 0, 1) := by decide +kernel
theorem dX10_copyFrom_36 : decode cX10_copyFrom 36 = .ok (.aload_n 1, 1) := by decide +kernel
theorem dX10_copyFrom_37 : decode cX10_copyFrom 37 = .ok (.getfield 29, 3) := by decide +kernel
theorem dX10_copyFrom_40 : decode cX10_copyFrom 40 = .ok (.putfield 29, 3) := by decide +kernel
theorem dX10_copyFrom_43 : decode cX10_copyFrom 43 = .ok (.return_, 1) := by decide +kernel
theorem dX10_rankAt_0 : decode cX10_rankAt 0 = .ok (.iload_n 1, 1) := by decide +kernel
theorem dX10_rankAt_1 : decode cX10_rankAt 1 = .ok (.ifCond .lt 20, 3) := by decide +kernel
theorem dX10_rankAt_4 : decode cX10_rankAt 4 = .ok (.iload_n 1, 1) := by decide +kernel
theorem dX10_rankAt_5 : decode cX10_rankAt 5 = .ok (.aload_n 0, 1) := by decide +kernel
theorem dX10_rankAt_6 : decode cX10_rankAt 6 = .ok (.getfield 19, 3) := by decide +kernel
theorem dX10_rankAt_9 : decode cX10_rankAt 9 = .ok (.if_icmp .ge 12, 3) := by decide +kernel
theorem dX10_rankAt_12 : decode cX10_rankAt 12 = .ok (.aload_n 0, 1) := by decide +kernel
theorem dX10_rankAt_13 : decode cX10_rankAt 13 = .ok (.getfield 11, 3) := by decide +kernel
theorem dX10_rankAt_16 : decode cX10_rankAt 16 = .ok (.iload_n 1, 1) := by decide +kernel
theorem dX10_rankAt_17 : decode cX10_rankAt 17 = .ok (.iaload, 1) := by decide +kernel
theorem dX10_rankAt_18 : decode cX10_rankAt 18 = .ok (.goto 4, 3) := by decide +kernel
theorem dX10_rankAt_21 : decode cX10_rankAt 21 = .ok (.iconst (-1), 1) := by decide +kernel
theorem dX10_rankAt_22 : decode cX10_rankAt 22 = .ok (.ireturn, 1) := by decide +kernel
theorem dX10_topRank_0 : decode cX10_topRank 0 = .ok (.aload_n 0, 1) := by decide +kernel
theorem dX10_topRank_1 : decode cX10_topRank 1 = .ok (.aload_n 0, 1) := by decide +kernel
theorem dX10_topRank_2 : decode cX10_topRank 2 = .ok (.getfield 19, 3) := by decide +kernel
theorem dX10_topRank_5 : decode cX10_topRank 5 = .ok (.iconst 1, 1) := by decide +kernel
theorem dX10_topRank_6 : decode cX10_topRank 6 = .ok (.isub, 1) := by decide +kernel
theorem dX10_topRank_7 : decode cX10_topRank 7 = .ok (.invokevirtual 33, 3) := by decide +kernel
theorem dX10_topRank_10 : decode cX10_topRank 10 = .ok (.ireturn, 1) := by decide +kernel
theorem dX10_letterAt_0 : decode cX10_letterAt 0 = .ok (.aload_n 0, 1) := by decide +kernel
theorem dX10_letterAt_1 : decode cX10_letterAt 1 = .ok (.iload_n 1, 1) := by decide +kernel
theorem dX10_letterAt_2 : decode cX10_letterAt 2 = .ok (.invokevirtual 33, 3) := by decide +kernel
theorem dX10_letterAt_5 : decode cX10_letterAt 5 = .ok (.istore_n 2, 1) := by decide +kernel
theorem dX10_letterAt_6 : decode cX10_letterAt 6 = .ok (.iload_n 2, 1) := by decide +kernel
theorem dX10_letterAt_7 : decode cX10_letterAt 7 = .ok (.iconst 0, 1) := by decide +kernel
theorem dX10_letterAt_8 : decode cX10_letterAt 8 = .ok (.iconst 4, 1) := by decide +kernel
theorem dX10_letterAt_9 : decode cX10_letterAt 9 = .ok (.invokestatic 37, 3) := by decide +kernel
theorem dX10_letterAt_12 : decode cX10_letterAt 12 = .ok (.ifCond .eq 12, 3) := by decide +kernel
theorem dX10_letterAt_15 : decode cX10_letterAt 15 = .ok (.ldc 41, 2) := by decide +kernel
theorem dX10_letterAt_17 : decode cX10_letterAt 17 = .ok (.iload_n 2, 1) := by decide +kernel
theorem dX10_letterAt_18 : decode cX10_letterAt 18 = .ok (.invokevirtual 43, 3) := by decide +kernel
theorem dX10_letterAt_21 : decode cX10_letterAt 21 = .ok (.goto 5, 3) := by decide +kernel
theorem dX10_letterAt_24 : decode cX10_letterAt 24 = .ok (.bipush 32, 2) := by decide +kernel
theorem dX10_letterAt_26 : decode cX10_letterAt 26 = .ok (.ireturn, 1) := by decide +kernel
theorem dX10_holds_0 : decode cX10_holds 0 = .ok (.iconst 0, 1) := by decide +kernel
theorem dX10_holds_1 : decode cX10_holds 1 = .ok (.istore_n 2, 1) := by decide +kernel
theorem dX10_holds_2 : decode cX10_holds 2 = .ok (.iload_n 2, 1) := by decide +kernel
theorem dX10_holds_3 : decode cX10_holds 3 = .ok (.aload_n 0, 1) := by decide +kernel
theorem dX10_holds_4 : decode cX10_holds 4 = .ok (.getfield 19, 3) := by decide +kernel
theorem dX10_holds_7 : decode cX10_holds 7 = .ok (.if_icmp .ge 21, 3) := by decide +kernel
theorem dX10_holds_10 : decode cX10_holds 10 = .ok (.aload_n 0, 1) := by decide +kernel
theorem dX10_holds_11 : decode cX10_holds 11 = .ok (.getfield 11, 3) := by decide +kernel
theorem dX10_holds_14 : decode cX10_holds 14 = .ok (.iload_n 2, 1) := by decide +kernel
theorem dX10_holds_15 : decode cX10_holds 15 = .ok (.iaload, 1) := by decide +kernel
theorem dX10_holds_16 : decode cX10_holds 16 = .ok (.iload_n 1, 1) := by decide +kernel
theorem dX10_holds_17 : decode cX10_holds 17 = .ok (.if_icmp .ne 5, 3) := by decide +kernel
theorem dX10_holds_20 : decode cX10_holds 20 = .ok (.iconst 1, 1) := by decide +kernel
theorem dX10_holds_21 : decode cX10_holds 21 = .ok (.ireturn, 1) := by decide +kernel
theorem dX10_holds_22 : decode cX10_holds 22 = .ok (.iinc 2 1, 3) := by decide +kernel
theorem dX10_holds_25 : decode cX10_holds 25 = .ok (.goto (-23), 3) := by decide +kernel
theorem dX10_holds_28 : decode cX10_holds 28 = .ok (.iconst 0, 1) := by decide +kernel
theorem dX10_holds_29 : decode cX10_holds 29 = .ok (.ireturn, 1) := by decide +kernel
theorem dX10_admits_0 : decode cX10_admits 0 = .ok (.aload_n 0, 1) := by decide +kernel
theorem dX10_admits_1 : decode cX10_admits 1 = .ok (.getfield 19, 3) := by decide +kernel
theorem dX10_admits_4 : decode cX10_admits 4 = .ok (.ifCond .ne 18, 3) := by decide +kernel
theorem dX10_admits_7 : decode cX10_admits 7 = .ok (.iload_n 1, 1) := by decide +kernel
theorem dX10_admits_8 : decode cX10_admits 8 = .ok (.ifCond .eq 8, 3) := by decide +kernel
theorem dX10_admits_11 : decode cX10_admits 11 = .ok (.iload_n 1, 1) := by decide +kernel
theorem dX10_admits_12 : decode cX10_admits 12 = .ok (.iconst 4, 1) := by decide +kernel
theorem dX10_admits_13 : decode cX10_admits 13 = .ok (.if_icmp .ne 7, 3) := by decide +kernel
theorem dX10_admits_16 : decode cX10_admits 16 = .ok (.iconst 1, 1) := by decide +kernel
theorem dX10_admits_17 : decode cX10_admits 17 = .ok (.goto 4, 3) := by decide +kernel
theorem dX10_admits_20 : decode cX10_admits 20 = .ok (.iconst 0, 1) := by decide +kernel
theorem dX10_admits_21 : decode cX10_admits 21 = .ok (.ireturn, 1) := by decide +kernel
theorem dX10_admits_22 : decode cX10_admits 22 = .ok (.iload_n 1, 1) := by decide +kernel
theorem dX10_admits_23 : decode cX10_admits 23 = .ok (.aload_n 0, 1) := by decide +kernel
theorem dX10_admits_24 : decode cX10_admits 24 = .ok (.invokevirtual 49, 3) := by decide +kernel
theorem dX10_admits_27 : decode cX10_admits 27 = .ok (.if_icmp .le 19, 3) := by decide +kernel
theorem dX10_admits_30 : decode cX10_admits 30 = .ok (.iload_n 1, 1) := by decide +kernel
theorem dX10_admits_31 : decode cX10_admits 31 = .ok (.iconst 1, 1) := by decide +kernel
theorem dX10_admits_32 : decode cX10_admits 32 = .ok (.if_icmp .ne 10, 3) := by decide +kernel
theorem dX10_admits_35 : decode cX10_admits 35 = .ok (.aload_n 0, 1) := by decide +kernel
theorem dX10_admits_36 : decode cX10_admits 36 = .ok (.getfield 29, 3) := by decide +kernel
theorem dX10_admits_39 : decode cX10_admits 39 = .ok (.ifCond .ne 7, 3) := by decide +kernel
theorem dX10_admits_42 : decode cX10_admits 42 = .ok (.iconst 1, 1) := by decide +kernel
theorem dX10_admits_43 : decode cX10_admits 43 = .ok (.goto 4, 3) := by decide +kernel
theorem dX10_admits_46 : decode cX10_admits 46 = .ok (.iconst 0, 1) := by decide +kernel
theorem dX10_admits_47 : decode cX10_admits 47 = .ok (.ireturn, 1) := by decide +kernel
theorem dX10_put_0 : decode cX10_put 0 = .ok (.aload_n 0, 1) := by decide +kernel
theorem dX10_put_1 : decode cX10_put 1 = .ok (.getfield 19, 3) := by decide +kernel
theorem dX10_put_4 : decode cX10_put 4 = .ok (.iconst 5, 1) := by decide +kernel
theorem dX10_put_5 : decode cX10_put 5 = .ok (.if_icmp .ge 23, 3) := by decide +kernel
theorem dX10_put_8 : decode cX10_put 8 = .ok (.aload_n 0, 1) := by decide +kernel
theorem dX10_put_9 : decode cX10_put 9 = .ok (.getfield 11, 3) := by decide +kernel
theorem dX10_put_12 : decode cX10_put 12 = .ok (.aload_n 0, 1) := by decide +kernel
theorem dX10_put_13 : decode cX10_put 13 = .ok (.getfield 19, 3) := by decide +kernel
theorem dX10_put_16 : decode cX10_put 16 = .ok (.iload_n 1, 1) := by decide +kernel
theorem dX10_put_17 : decode cX10_put 17 = .ok (.iastore, 1) := by decide +kernel
theorem dX10_put_18 : decode cX10_put 18 = .ok (.aload_n 0, 1) := by decide +kernel
theorem dX10_put_19 : decode cX10_put 19 = .ok (.dup, 1) := by decide +kernel
theorem dX10_put_20 : decode cX10_put 20 = .ok (.getfield 19, 3) := by decide +kernel
theorem dX10_put_23 : decode cX10_put 23 = .ok (.iconst 1, 1) := by decide +kernel
theorem dX10_put_24 : decode cX10_put 24 = .ok (.iadd, 1) := by decide +kernel
theorem dX10_put_25 : decode cX10_put 25 = .ok (.putfield 19, 3) := by decide +kernel
theorem dX10_put_28 : decode cX10_put 28 = .ok (.aload_n 0, 1) := by decide +kernel
theorem dX10_put_29 : decode cX10_put 29 = .ok (.getfield 19, 3) := by decide +kernel
theorem dX10_put_32 : decode cX10_put 32 = .ok (.ireturn, 1) := by decide +kernel
theorem dX10_takeTop_0 : decode cX10_takeTop 0 = .ok (.aload_n 0, 1) := by decide +kernel
theorem dX10_takeTop_1 : decode cX10_takeTop 1 = .ok (.getfield 19, 3) := by decide +kernel
theorem dX10_takeTop_4 : decode cX10_takeTop 4 = .ok (.ifCond .le 13, 3) := by decide +kernel
theorem dX10_takeTop_7 : decode cX10_takeTop 7 = .ok (.aload_n 0, 1) := by decide +kernel
theorem dX10_takeTop_8 : decode cX10_takeTop 8 = .ok (.dup, 1) := by decide +kernel
theorem dX10_takeTop_9 : decode cX10_takeTop 9 = .ok (.getfield 19, 3) := by decide +kernel
theorem dX10_takeTop_12 : decode cX10_takeTop 12 = .ok (.iconst 1, 1) := by decide +kernel
theorem dX10_takeTop_13 : decode cX10_takeTop 13 = .ok (.isub, 1) := by decide +kernel
theorem dX10_takeTop_14 : decode cX10_takeTop 14 = .ok (.putfield 19, 3) := by decide +kernel
theorem dX10_takeTop_17 : decode cX10_takeTop 17 = .ok (.return_, 1) := by decide +kernel
theorem dX10_clear_0 : decode cX10_clear 0 = .ok (.aload_n 0, 1) := by decide +kernel
theorem dX10_clear_1 : decode cX10_clear 1 = .ok (.iconst 0, 1) := by decide +kernel
theorem dX10_clear_2 : decode cX10_clear 2 = .ok (.putfield 19, 3) := by decide +kernel
theorem dX10_clear_5 : decode cX10_clear 5 = .ok (.return_, 1) := by decide +kernel
theorem dX11_init_0 : decode cX11_init 0 = .ok (.aload_n 0, 1) := by decide +kernel
theorem dX11_init_1 : decode cX11_init 1 = .ok (.invokespecial 1, 3) := by decide +kernel
theorem dX11_init_4 : decode cX11_init 4 = .ok (.aload_n 0, 1) := by decide +kernel
theorem dX11_init_5 : decode cX11_init 5 = .ok (.new 7, 3) := by decide +kernel
theorem dX11_init_8 : decode cX11_init 8 = .ok (.dup, 1) := by decide +kernel
theorem dX11_init_9 : decode cX11_init 9 = .ok (.invokespecial 9, 3) := by decide +kernel
theorem dX11_init_12 : decode cX11_init 12 = .ok (.putfield 10, 3) := by decide +kernel
theorem dX11_init_15 : decode cX11_init 15 = .ok (.aload_n 0, 1) := by decide +kernel
theorem dX11_init_16 : decode cX11_init 16 = .ok (.new 7, 3) := by decide +kernel
theorem dX11_init_19 : decode cX11_init 19 = .ok (.dup, 1) := by decide +kernel
theorem dX11_init_20 : decode cX11_init 20 = .ok (.invokespecial 9, 3) := by decide +kernel
theorem dX11_init_23 : decode cX11_init 23 = .ok (.putfield 16, 3) := by decide +kernel
theorem dX11_init_26 : decode cX11_init 26 = .ok (.aload_n 0, 1) := by decide +kernel
theorem dX11_init_27 : decode cX11_init 27 = .ok (.new 7, 3) := by decide +kernel
theorem dX11_init_30 : decode cX11_init 30 = .ok (.dup, 1) := by decide +kernel
theorem dX11_init_31 : decode cX11_init 31 = .ok (.invokespecial 9, 3) := by decide +kernel
theorem dX11_init_34 : decode cX11_init 34 = .ok (.putfield 19, 3) := by decide +kernel
theorem dX11_init_37 : decode cX11_init 37 = .ok (.aload_n 0, 1) := by decide +kernel
theorem dX11_init_38 : decode cX11_init 38 = .ok (.new 22, 3) := by decide +kernel
theorem dX11_init_41 : decode cX11_init 41 = .ok (.dup, 1) := by decide +kernel
theorem dX11_init_42 : decode cX11_init 42 = .ok (.invokespecial 24, 3) := by decide +kernel
theorem dX11_init_45 : decode cX11_init 45 = .ok (.putfield 25, 3) := by decide +kernel
theorem dX11_init_48 : decode cX11_init 48 = .ok (.aload_n 0, 1) := by decide +kernel
theorem dX11_init_49 : decode cX11_init 49 = .ok (.new 29, 3) := by decide +kernel
theorem dX11_init_52 : decode cX11_init 52 = .ok (.dup, 1) := by decide +kernel
theorem dX11_init_53 : decode cX11_init 53 = .ok (.invokespecial 31, 3) := by decide +kernel
theorem dX11_init_56 : decode cX11_init 56 = .ok (.putfield 32, 3) := by decide +kernel
theorem dX11_init_59 : decode cX11_init 59 = .ok (.aload_n 0, 1) := by decide +kernel
theorem dX11_init_60 : decode cX11_init 60 = .ok (.new 36, 3) := by decide +kernel
theorem dX11_init_63 : decode cX11_init 63 = .ok (.dup, 1) := by decide +kernel
theorem dX11_init_64 : decode cX11_init 64 = .ok (.invokespecial 38, 3) := by decide +kernel
theorem dX11_init_67 : decode cX11_init 67 = .ok (.putfield 39, 3) := by decide +kernel
theorem dX11_init_70 : decode cX11_init 70 = .ok (.aload_n 0, 1) := by decide +kernel
theorem dX11_init_71 : decode cX11_init 71 = .ok (.new 43, 3) := by decide +kernel
theorem dX11_init_74 : decode cX11_init 74 = .ok (.dup, 1) := by decide +kernel
theorem dX11_init_75 : decode cX11_init 75 = .ok (.invokespecial 45, 3) := by decide +kernel
theorem dX11_init_78 : decode cX11_init 78 = .ok (.putfield 46, 3) := by decide +kernel
theorem dX11_init_81 : decode cX11_init 81 = .ok (.aload_n 0, 1) := by decide +kernel
theorem dX11_init_82 : decode cX11_init 82 = .ok (.iconst 0, 1) := by decide +kernel
theorem dX11_init_83 : decode cX11_init 83 = .ok (.putfield 50, 3) := by decide +kernel
theorem dX11_init_86 : decode cX11_init 86 = .ok (.aload_n 0, 1) := by decide +kernel
theorem dX11_init_87 : decode cX11_init 87 = .ok (.iconst (-1), 1) := by decide +kernel
theorem dX11_init_88 : decode cX11_init 88 = .ok (.putfield 54, 3) := by decide +kernel
theorem dX11_init_91 : decode cX11_init 91 = .ok (.aload_n 0, 1) := by decide +kernel
theorem dX11_init_92 : decode cX11_init 92 = .ok (.iconst (-1), 1) := by decide +kernel
theorem dX11_init_93 : decode cX11_init 93 = .ok (.putfield 58, 3) := by decide +kernel
theorem dX11_init_96 : decode cX11_init 96 = .ok (.return_, 1) := by decide +kernel
theorem dX11_addSpoon_0 : decode cX11_addSpoon 0 = .ok (.aload_n 0, 1) := by decide +kernel
theorem dX11_addSpoon_1 : decode cX11_addSpoon 1 = .ok (.getstatic 61, 3) := by decide +kernel
theorem dX11_addSpoon_4 : decode cX11_addSpoon 4 = .ok (.iload_n 1, 1) := by decide +kernel
theorem dX11_addSpoon_5 : decode cX11_addSpoon 5 = .ok (.iload_n 2, 1) := by decide +kernel
theorem dX11_addSpoon_6 : decode cX11_addSpoon 6 = .ok (.iconst 0, 1) := by decide +kernel
theorem dX11_addSpoon_7 : decode cX11_addSpoon 7 = .ok (.invokevirtual 67, 3) := by decide +kernel
theorem dX11_addSpoon_10 : decode cX11_addSpoon 10 = .ok (.ireturn, 1) := by decide +kernel
theorem dX11_propose_0 : decode cX11_propose 0 = .ok (.aload_n 0, 1) := by decide +kernel
theorem dX11_propose_1 : decode cX11_propose 1 = .ok (.getstatic 71, 3) := by decide +kernel
theorem dX11_propose_4 : decode cX11_propose 4 = .ok (.iload_n 1, 1) := by decide +kernel
theorem dX11_propose_5 : decode cX11_propose 5 = .ok (.iconst 0, 1) := by decide +kernel
theorem dX11_propose_6 : decode cX11_propose 6 = .ok (.iconst 0, 1) := by decide +kernel
theorem dX11_propose_7 : decode cX11_propose 7 = .ok (.invokevirtual 67, 3) := by decide +kernel
theorem dX11_propose_10 : decode cX11_propose 10 = .ok (.ireturn, 1) := by decide +kernel
theorem dX11_moveMain_0 : decode cX11_moveMain 0 = .ok (.aload_n 0, 1) := by decide +kernel
theorem dX11_moveMain_1 : decode cX11_moveMain 1 = .ok (.getstatic 74, 3) := by decide +kernel
theorem dX11_moveMain_4 : decode cX11_moveMain 4 = .ok (.iload_n 1, 1) := by decide +kernel
theorem dX11_moveMain_5 : decode cX11_moveMain 5 = .ok (.iconst 0, 1) := by decide +kernel
theorem dX11_moveMain_6 : decode cX11_moveMain 6 = .ok (.iconst 0, 1) := by decide +kernel
theorem dX11_moveMain_7 : decode cX11_moveMain 7 = .ok (.invokevirtual 67, 3) := by decide +kernel
theorem dX11_moveMain_10 : decode cX11_moveMain 10 = .ok (.ireturn, 1) := by decide +kernel
theorem dX11_moveAmendment_0 : decode cX11_moveAmendment 0 = .ok (.aload_n 0, 1) := by decide +kernel
theorem dX11_moveAmendment_1 : decode cX11_moveAmendment 1 = .ok (.getstatic 77, 3) := by decide +kernel
theorem dX11_moveAmendment_4 : decode cX11_moveAmendment 4 = .ok (.iload_n 1, 1) := by decide +kernel
theorem dX11_moveAmendment_5 : decode cX11_moveAmendment 5 = .ok (.iconst 0, 1) := by decide +kernel
theorem dX11_moveAmendment_6 : decode cX11_moveAmendment 6 = .ok (.iconst 0, 1) := by decide +kernel
theorem dX11_moveAmendment_7 : decode cX11_moveAmendment 7 = .ok (.invokevirtual 67, 3) := by decide +kernel
theorem dX11_moveAmendment_10 : decode cX11_moveAmendment 10 = .ok (.ireturn, 1) := by decide +kernel
theorem dX11_movePostponement_0 : decode cX11_movePostponement 0 = .ok (.aload_n 0, 1) := by decide +kernel
theorem dX11_movePostponement_1 : decode cX11_movePostponement 1 = .ok (.getstatic 80, 3) := by decide +kernel
theorem dX11_movePostponement_4 : decode cX11_movePostponement 4 = .ok (.iconst 0, 1) := by decide +kernel
theorem dX11_movePostponement_5 : decode cX11_movePostponement 5 = .ok (.iconst 0, 1) := by decide +kernel
theorem dX11_movePostponement_6 : decode cX11_movePostponement 6 = .ok (.iconst 0, 1) := by decide +kernel
theorem dX11_movePostponement_7 : decode cX11_movePostponement 7 = .ok (.invokevirtual 67, 3) := by decide +kernel
theorem dX11_movePostponement_10 : decode cX11_movePostponement 10 = .ok (.ireturn, 1) := by decide +kernel
theorem dX11_moveClosure_0 : decode cX11_moveClosure 0 = .ok (.aload_n 0, 1) := by decide +kernel
theorem dX11_moveClosure_1 : decode cX11_moveClosure 1 = .ok (.getstatic 83, 3) := by decide +kernel
theorem dX11_moveClosure_4 : decode cX11_moveClosure 4 = .ok (.iconst 0, 1) := by decide +kernel
theorem dX11_moveClosure_5 : decode cX11_moveClosure 5 = .ok (.iconst 0, 1) := by decide +kernel
theorem dX11_moveClosure_6 : decode cX11_moveClosure 6 = .ok (.iconst 0, 1) := by decide +kernel
theorem dX11_moveClosure_7 : decode cX11_moveClosure 7 = .ok (.invokevirtual 67, 3) := by decide +kernel
theorem dX11_moveClosure_10 : decode cX11_moveClosure 10 = .ok (.ireturn, 1) := by decide +kernel
theorem dX11_moveAdjournment_0 : decode cX11_moveAdjournment 0 = .ok (.aload_n 0, 1) := by decide +kernel
theorem dX11_moveAdjournment_1 : decode cX11_moveAdjournment 1 = .ok (.getstatic 86, 3) := by decide +kernel
theorem dX11_moveAdjournment_4 : decode cX11_moveAdjournment 4 = .ok (.iconst 0, 1) := by decide +kernel
theorem dX11_moveAdjournment_5 : decode cX11_moveAdjournment 5 = .ok (.iconst 0, 1) := by decide +kernel
theorem dX11_moveAdjournment_6 : decode cX11_moveAdjournment 6 = .ok (.iconst 0, 1) := by decide +kernel
theorem dX11_moveAdjournment_7 : decode cX11_moveAdjournment 7 = .ok (.invokevirtual 67, 3) := by decide +kernel
theorem dX11_moveAdjournment_10 : decode cX11_moveAdjournment 10 = .ok (.ireturn, 1) := by decide +kernel
theorem dX11_speak_0 : decode cX11_speak 0 = .ok (.aload_n 0, 1) := by decide +kernel
theorem dX11_speak_1 : decode cX11_speak 1 = .ok (.getstatic 89, 3) := by decide +kernel
theorem dX11_speak_4 : decode cX11_speak 4 = .ok (.iload_n 1, 1) := by decide +kernel
theorem dX11_speak_5 : decode cX11_speak 5 = .ok (.iconst 0, 1) := by decide +kernel
theorem dX11_speak_6 : decode cX11_speak 6 = .ok (.iconst 0, 1) := by decide +kernel
theorem dX11_speak_7 : decode cX11_speak 7 = .ok (.invokevirtual 67, 3) := by decide +kernel
theorem dX11_speak_10 : decode cX11_speak 10 = .ok (.ireturn, 1) := by decide +kernel
theorem dX11_vote_0 : decode cX11_vote 0 = .ok (.aload_n 0, 1) := by decide +kernel
theorem dX11_vote_1 : decode cX11_vote 1 = .ok (.getstatic 92, 3) := by decide +kernel
theorem dX11_vote_4 : decode cX11_vote 4 = .ok (.iconst 0, 1) := by decide +kernel
theorem dX11_vote_5 : decode cX11_vote 5 = .ok (.iconst 0, 1) := by decide +kernel
theorem dX11_vote_6 : decode cX11_vote 6 = .ok (.iconst 0, 1) := by decide +kernel
theorem dX11_vote_7 : decode cX11_vote 7 = .ok (.invokevirtual 67, 3) := by decide +kernel
theorem dX11_vote_10 : decode cX11_vote 10 = .ok (.iconst 1, 1) := by decide +kernel
theorem dX11_vote_11 : decode cX11_vote 11 = .ok (.if_icmp .ne 7, 3) := by decide +kernel
theorem dX11_vote_14 : decode cX11_vote 14 = .ok (.iconst 1, 1) := by decide +kernel
theorem dX11_vote_15 : decode cX11_vote 15 = .ok (.goto 4, 3) := by decide +kernel
theorem dX11_vote_18 : decode cX11_vote 18 = .ok (.iconst 0, 1) := by decide +kernel
theorem dX11_vote_19 : decode cX11_vote 19 = .ok (.ireturn, 1) := by decide +kernel
theorem dX11_spill_0 : decode cX11_spill 0 = .ok (.aload_n 0, 1) := by decide +kernel
theorem dX11_spill_1 : decode cX11_spill 1 = .ok (.getstatic 95, 3) := by decide +kernel
theorem dX11_spill_4 : decode cX11_spill 4 = .ok (.iload_n 1, 1) := by decide +kernel
theorem dX11_spill_5 : decode cX11_spill 5 = .ok (.iload_n 2, 1) := by decide +kernel
theorem dX11_spill_6 : decode cX11_spill 6 = .ok (.iload_n 3, 1) := by decide +kernel
theorem dX11_spill_7 : decode cX11_spill 7 = .ok (.invokevirtual 67, 3) := by decide +kernel
theorem dX11_spill_10 : decode cX11_spill 10 = .ok (.ireturn, 1) := by decide +kernel
theorem dX11_mop_0 : decode cX11_mop 0 = .ok (.aload_n 0, 1) := by decide +kernel
theorem dX11_mop_1 : decode cX11_mop 1 = .ok (.getstatic 98, 3) := by decide +kernel
theorem dX11_mop_4 : decode cX11_mop 4 = .ok (.iload_n 1, 1) := by decide +kernel
theorem dX11_mop_5 : decode cX11_mop 5 = .ok (.iload_n 2, 1) := by decide +kernel
theorem dX11_mop_6 : decode cX11_mop 6 = .ok (.iconst 0, 1) := by decide +kernel
theorem dX11_mop_7 : decode cX11_mop 7 = .ok (.invokevirtual 67, 3) := by decide +kernel
theorem dX11_mop_10 : decode cX11_mop 10 = .ok (.ireturn, 1) := by decide +kernel
theorem dX11_giveSugar_0 : decode cX11_giveSugar 0 = .ok (.aload_n 0, 1) := by decide +kernel
theorem dX11_giveSugar_1 : decode cX11_giveSugar 1 = .ok (.getstatic 101, 3) := by decide +kernel
theorem dX11_giveSugar_4 : decode cX11_giveSugar 4 = .ok (.iload_n 1, 1) := by decide +kernel
theorem dX11_giveSugar_5 : decode cX11_giveSugar 5 = .ok (.iload_n 2, 1) := by decide +kernel
theorem dX11_giveSugar_6 : decode cX11_giveSugar 6 = .ok (.iconst 0, 1) := by decide +kernel
theorem dX11_giveSugar_7 : decode cX11_giveSugar 7 = .ok (.invokevirtual 67, 3) := by decide +kernel
theorem dX11_giveSugar_10 : decode cX11_giveSugar 10 = .ok (.ireturn, 1) := by decide +kernel
theorem dX11_spoonCount_0 : decode cX11_spoonCount 0 = .ok (.aload_n 0, 1) := by decide +kernel
theorem dX11_spoonCount_1 : decode cX11_spoonCount 1 = .ok (.getfield 10, 3) := by decide +kernel
theorem dX11_spoonCount_4 : decode cX11_spoonCount 4 = .ok (.getfield 104, 3) := by decide +kernel
theorem dX11_spoonCount_7 : decode cX11_spoonCount 7 = .ok (.getfield 108, 3) := by decide +kernel
theorem dX11_spoonCount_10 : decode cX11_spoonCount 10 = .ok (.ireturn, 1) := by decide +kernel
theorem dX11_weight_0 : decode cX11_weight 0 = .ok (.aload_n 0, 1) := by decide +kernel
theorem dX11_weight_1 : decode cX11_weight 1 = .ok (.iload_n 1, 1) := by decide +kernel
theorem dX11_weight_2 : decode cX11_weight 2 = .ok (.invokevirtual 113, 3) := by decide +kernel
theorem dX11_weight_5 : decode cX11_weight 5 = .ok (.aload_n 0, 1) := by decide +kernel
theorem dX11_weight_6 : decode cX11_weight 6 = .ok (.getfield 10, 3) := by decide +kernel
theorem dX11_weight_9 : decode cX11_weight 9 = .ok (.getfield 104, 3) := by decide +kernel
theorem dX11_weight_12 : decode cX11_weight 12 = .ok (.getfield 117, 3) := by decide +kernel
theorem dX11_weight_15 : decode cX11_weight 15 = .ok (.iload_n 1, 1) := by decide +kernel
theorem dX11_weight_16 : decode cX11_weight 16 = .ok (.iaload, 1) := by decide +kernel
theorem dX11_weight_17 : decode cX11_weight 17 = .ok (.ireturn, 1) := by decide +kernel
theorem dX11_stance_0 : decode cX11_stance 0 = .ok (.aload_n 0, 1) := by decide +kernel
theorem dX11_stance_1 : decode cX11_stance 1 = .ok (.iload_n 1, 1) := by decide +kernel
theorem dX11_stance_2 : decode cX11_stance 2 = .ok (.invokevirtual 113, 3) := by decide +kernel
theorem dX11_stance_5 : decode cX11_stance 5 = .ok (.aload_n 0, 1) := by decide +kernel
theorem dX11_stance_6 : decode cX11_stance 6 = .ok (.getfield 10, 3) := by decide +kernel
theorem dX11_stance_9 : decode cX11_stance 9 = .ok (.getfield 104, 3) := by decide +kernel
theorem dX11_stance_12 : decode cX11_stance 12 = .ok (.getfield 121, 3) := by decide +kernel
theorem dX11_stance_15 : decode cX11_stance 15 = .ok (.iload_n 1, 1) := by decide +kernel
theorem dX11_stance_16 : decode cX11_stance 16 = .ok (.iaload, 1) := by decide +kernel
theorem dX11_stance_17 : decode cX11_stance 17 = .ok (.ireturn, 1) := by decide +kernel
theorem dX11_sugar_0 : decode cX11_sugar 0 = .ok (.aload_n 0, 1) := by decide +kernel
theorem dX11_sugar_1 : decode cX11_sugar 1 = .ok (.iload_n 1, 1) := by decide +kernel
theorem dX11_sugar_2 : decode cX11_sugar 2 = .ok (.invokevirtual 113, 3) := by decide +kernel
theorem dX11_sugar_5 : decode cX11_sugar 5 = .ok (.aload_n 0, 1) := by decide +kernel
theorem dX11_sugar_6 : decode cX11_sugar 6 = .ok (.getfield 10, 3) := by decide +kernel
theorem dX11_sugar_9 : decode cX11_sugar 9 = .ok (.getfield 104, 3) := by decide +kernel
theorem dX11_sugar_12 : decode cX11_sugar 12 = .ok (.getfield 124, 3) := by decide +kernel
theorem dX11_sugar_15 : decode cX11_sugar 15 = .ok (.iload_n 1, 1) := by decide +kernel
theorem dX11_sugar_16 : decode cX11_sugar 16 = .ok (.iaload, 1) := by decide +kernel
theorem dX11_sugar_17 : decode cX11_sugar 17 = .ok (.ireturn, 1) := by decide +kernel
theorem dX11_speeches_0 : decode cX11_speeches 0 = .ok (.aload_n 0, 1) := by decide +kernel
theorem dX11_speeches_1 : decode cX11_speeches 1 = .ok (.iload_n 1, 1) := by decide +kernel
theorem dX11_speeches_2 : decode cX11_speeches 2 = .ok (.invokevirtual 113, 3) := by decide +kernel
theorem dX11_speeches_5 : decode cX11_speeches 5 = .ok (.aload_n 0, 1) := by decide +kernel
theorem dX11_speeches_6 : decode cX11_speeches 6 = .ok (.getfield 10, 3) := by decide +kernel
theorem dX11_speeches_9 : decode cX11_speeches 9 = .ok (.getfield 104, 3) := by decide +kernel
theorem dX11_speeches_12 : decode cX11_speeches 12 = .ok (.getfield 127, 3) := by decide +kernel
theorem dX11_speeches_15 : decode cX11_speeches 15 = .ok (.iload_n 1, 1) := by decide +kernel
theorem dX11_speeches_16 : decode cX11_speeches 16 = .ok (.iaload, 1) := by decide +kernel
theorem dX11_speeches_17 : decode cX11_speeches 17 = .ok (.ireturn, 1) := by decide +kernel
theorem dX11_proposalCount_0 : decode cX11_proposalCount 0 = .ok (.aload_n 0, 1) := by decide +kernel
theorem dX11_proposalCount_1 : decode cX11_proposalCount 1 = .ok (.getfield 10, 3) := by decide +kernel
theorem dX11_proposalCount_4 : decode cX11_proposalCount 4 = .ok (.getfield 130, 3) := by decide +kernel
theorem dX11_proposalCount_7 : decode cX11_proposalCount 7 = .ok (.getfield 134, 3) := by decide +kernel
theorem dX11_proposalCount_10 : decode cX11_proposalCount 10 = .ok (.ireturn, 1) := by decide +kernel
theorem dX11_proposalAt_0 : decode cX11_proposalAt 0 = .ok (.aload_n 0, 1) := by decide +kernel
theorem dX11_proposalAt_1 : decode cX11_proposalAt 1 = .ok (.iload_n 1, 1) := by decide +kernel
theorem dX11_proposalAt_2 : decode cX11_proposalAt 2 = .ok (.invokevirtual 137, 3) := by decide +kernel
theorem dX11_proposalAt_5 : decode cX11_proposalAt 5 = .ok (.aload_n 0, 1) := by decide +kernel
theorem dX11_proposalAt_6 : decode cX11_proposalAt 6 = .ok (.getfield 10, 3) := by decide +kernel
theorem dX11_proposalAt_9 : decode cX11_proposalAt 9 = .ok (.getfield 130, 3) := by decide +kernel
theorem dX11_proposalAt_12 : decode cX11_proposalAt 12 = .ok (.getfield 140, 3) := by decide +kernel
theorem dX11_proposalAt_15 : decode cX11_proposalAt 15 = .ok (.iload_n 1, 1) := by decide +kernel
theorem dX11_proposalAt_16 : decode cX11_proposalAt 16 = .ok (.iaload, 1) := by decide +kernel
theorem dX11_proposalAt_17 : decode cX11_proposalAt 17 = .ok (.ireturn, 1) := by decide +kernel
theorem dX11_position_0 : decode cX11_position 0 = .ok (.aload_n 0, 1) := by decide +kernel
theorem dX11_position_1 : decode cX11_position 1 = .ok (.iload_n 1, 1) := by decide +kernel
theorem dX11_position_2 : decode cX11_position 2 = .ok (.invokevirtual 143, 3) := by decide +kernel
theorem dX11_position_5 : decode cX11_position 5 = .ok (.aload_n 0, 1) := by decide +kernel
theorem dX11_position_6 : decode cX11_position 6 = .ok (.getfield 10, 3) := by decide +kernel
theorem dX11_position_9 : decode cX11_position 9 = .ok (.getfield 130, 3) := by decide +kernel
theorem dX11_position_12 : decode cX11_position 12 = .ok (.iload_n 1, 1) := by decide +kernel
theorem dX11_position_13 : decode cX11_position 13 = .ok (.invokevirtual 146, 3) := by decide +kernel
theorem dX11_position_16 : decode cX11_position 16 = .ok (.ireturn, 1) := by decide +kernel
theorem dX11_motionCount_0 : decode cX11_motionCount 0 = .ok (.aload_n 0, 1) := by decide +kernel
theorem dX11_motionCount_1 : decode cX11_motionCount 1 = .ok (.getfield 10, 3) := by decide +kernel
theorem dX11_motionCount_4 : decode cX11_motionCount 4 = .ok (.getfield 150, 3) := by decide +kernel
theorem dX11_motionCount_7 : decode cX11_motionCount 7 = .ok (.getfield 154, 3) := by decide +kernel
theorem dX11_motionCount_10 : decode cX11_motionCount 10 = .ok (.ireturn, 1) := by decide +kernel
theorem dX11_motionKind_0 : decode cX11_motionKind 0 = .ok (.iload_n 1, 1) := by decide +kernel
theorem dX11_motionKind_1 : decode cX11_motionKind 1 = .ok (.ifCond .lt 17, 3) := by decide +kernel
theorem dX11_motionKind_4 : decode cX11_motionKind 4 = .ok (.iload_n 1, 1) := by decide +kernel
theorem dX11_motionKind_5 : decode cX11_motionKind 5 = .ok (.aload_n 0, 1) := by decide +kernel
theorem dX11_motionKind_6 : decode cX11_motionKind 6 = .ok (.getfield 10, 3) := by decide +kernel
theorem dX11_motionKind_9 : decode cX11_motionKind 9 = .ok (.getfield 150, 3) := by decide +kernel
theorem dX11_motionKind_12 : decode cX11_motionKind 12 = .ok (.getfield 154, 3) := by decide +kernel
theorem dX11_motionKind_15 : decode cX11_motionKind 15 = .ok (.if_icmp .lt 13, 3) := by decide +kernel
theorem dX11_motionKind_18 : decode cX11_motionKind 18 = .ok (.new 157, 3) := by decide +kernel
theorem dX11_motionKind_21 : decode cX11_motionKind 21 = .ok (.dup, 1) := by decide +kernel
theorem dX11_motionKind_22 : decode cX11_motionKind 22 = .ok (.ldc 159, 2) := by decide +kernel
theorem dX11_motionKind_24 : decode cX11_motionKind 24 = .ok (.invokespecial 161, 3) := by decide +kernel
theorem dX11_motionKind_27 : decode cX11_motionKind 27 = .ok (.athrow, 1) := by decide +kernel
theorem dX11_motionKind_28 : decode cX11_motionKind 28 = .ok (.aload_n 0, 1) := by decide +kernel
theorem dX11_motionKind_29 : decode cX11_motionKind 29 = .ok (.getfield 10, 3) := by decide +kernel
theorem dX11_motionKind_32 : decode cX11_motionKind 32 = .ok (.getfield 150, 3) := by decide +kernel
theorem dX11_motionKind_35 : decode cX11_motionKind 35 = .ok (.iload_n 1, 1) := by decide +kernel
theorem dX11_motionKind_36 : decode cX11_motionKind 36 = .ok (.invokevirtual 164, 3) := by decide +kernel
theorem dX11_motionKind_39 : decode cX11_motionKind 39 = .ok (.ireturn, 1) := by decide +kernel
theorem dX11_amendment_0 : decode cX11_amendment 0 = .ok (.aload_n 0, 1) := by decide +kernel
theorem dX11_amendment_1 : decode cX11_amendment 1 = .ok (.getfield 10, 3) := by decide +kernel
theorem dX11_amendment_4 : decode cX11_amendment 4 = .ok (.getfield 150, 3) := by decide +kernel
theorem dX11_amendment_7 : decode cX11_amendment 7 = .ok (.iconst 1, 1) := by decide +kernel
theorem dX11_amendment_8 : decode cX11_amendment 8 = .ok (.invokevirtual 168, 3) := by decide +kernel
theorem dX11_amendment_11 : decode cX11_amendment 11 = .ok (.ifCond .ne 13, 3) := by decide +kernel
theorem dX11_amendment_14 : decode cX11_amendment 14 = .ok (.new 157, 3) := by decide +kernel
theorem dX11_amendment_17 : decode cX11_amendment 17 = .ok (.dup, 1) := by decide +kernel
theorem dX11_amendment_18 : decode cX11_amendment 18 = .ok (.ldc 172, 2) := by decide +kernel
theorem dX11_amendment_20 : decode cX11_amendment 20 = .ok (.invokespecial 161, 3) := by decide +kernel
theorem dX11_amendment_23 : decode cX11_amendment 23 = .ok (.athrow, 1) := by decide +kernel
theorem dX11_amendment_24 : decode cX11_amendment 24 = .ok (.aload_n 0, 1) := by decide +kernel
theorem dX11_amendment_25 : decode cX11_amendment 25 = .ok (.getfield 10, 3) := by decide +kernel
theorem dX11_amendment_28 : decode cX11_amendment 28 = .ok (.getfield 150, 3) := by decide +kernel
theorem dX11_amendment_31 : decode cX11_amendment 31 = .ok (.getfield 174, 3) := by decide +kernel
theorem dX11_amendment_34 : decode cX11_amendment 34 = .ok (.ireturn, 1) := by decide +kernel
theorem dX11_mainProposal_0 : decode cX11_mainProposal 0 = .ok (.aload_n 0, 1) := by decide +kernel
theorem dX11_mainProposal_1 : decode cX11_mainProposal 1 = .ok (.getfield 10, 3) := by decide +kernel
theorem dX11_mainProposal_4 : decode cX11_mainProposal 4 = .ok (.getfield 150, 3) := by decide +kernel
theorem dX11_mainProposal_7 : decode cX11_mainProposal 7 = .ok (.iconst 0, 1) := by decide +kernel
theorem dX11_mainProposal_8 : decode cX11_mainProposal 8 = .ok (.invokevirtual 168, 3) := by decide +kernel
theorem dX11_mainProposal_11 : decode cX11_mainProposal 11 = .ok (.ifCond .ne 13, 3) := by decide +kernel
theorem dX11_mainProposal_14 : decode cX11_mainProposal 14 = .ok (.new 157, 3) := by decide +kernel
theorem dX11_mainProposal_17 : decode cX11_mainProposal 17 = .ok (.dup, 1) := by decide +kernel
theorem dX11_mainProposal_18 : decode cX11_mainProposal 18 = .ok (.ldc 177, 2) := by decide +kernel
theorem dX11_mainProposal_20 : decode cX11_mainProposal 20 = .ok (.invokespecial 161, 3) := by decide +kernel
theorem dX11_mainProposal_23 : decode cX11_mainProposal 23 = .ok (.athrow, 1) := by decide +kernel
theorem dX11_mainProposal_24 : decode cX11_mainProposal 24 = .ok (.aload_n 0, 1) := by decide +kernel
theorem dX11_mainProposal_25 : decode cX11_mainProposal 25 = .ok (.getfield 10, 3) := by decide +kernel
theorem dX11_mainProposal_28 : decode cX11_mainProposal 28 = .ok (.getfield 150, 3) := by decide +kernel
theorem dX11_mainProposal_31 : decode cX11_mainProposal 31 = .ok (.getfield 179, 3) := by decide +kernel
theorem dX11_mainProposal_34 : decode cX11_mainProposal 34 = .ok (.ireturn, 1) := by decide +kernel
theorem dX11_isClosed_0 : decode cX11_isClosed 0 = .ok (.aload_n 0, 1) := by decide +kernel
theorem dX11_isClosed_1 : decode cX11_isClosed 1 = .ok (.getfield 10, 3) := by decide +kernel
theorem dX11_isClosed_4 : decode cX11_isClosed 4 = .ok (.getfield 150, 3) := by decide +kernel
theorem dX11_isClosed_7 : decode cX11_isClosed 7 = .ok (.getfield 182, 3) := by decide +kernel
theorem dX11_isClosed_10 : decode cX11_isClosed 10 = .ok (.ireturn, 1) := by decide +kernel
theorem dX11_canMove_0 : decode cX11_canMove 0 = .ok (.ldc 185, 2) := by decide +kernel
theorem dX11_canMove_2 : decode cX11_canMove 2 = .ok (.iload_n 1, 1) := by decide +kernel
theorem dX11_canMove_3 : decode cX11_canMove 3 = .ok (.invokevirtual 187, 3) := by decide +kernel
theorem dX11_canMove_6 : decode cX11_canMove 6 = .ok (.istore_n 2, 1) := by decide +kernel
theorem dX11_canMove_7 : decode cX11_canMove 7 = .ok (.iload_n 2, 1) := by decide +kernel
theorem dX11_canMove_8 : decode cX11_canMove 8 = .ok (.ifCond .ge 13, 3) := by decide +kernel
theorem dX11_canMove_11 : decode cX11_canMove 11 = .ok (.new 192, 3) := by decide +kernel
theorem dX11_canMove_14 : decode cX11_canMove 14 = .ok (.dup, 1) := by decide +kernel
theorem dX11_canMove_15 : decode cX11_canMove 15 = .ok (.ldc 194, 2) := by decide +kernel
theorem dX11_canMove_17 : decode cX11_canMove 17 = .ok (.invokespecial 196, 3) := by decide +kernel
theorem dX11_canMove_20 : decode cX11_canMove 20 = .ok (.athrow, 1) := by decide +kernel
theorem dX11_canMove_21 : decode cX11_canMove 21 = .ok (.aload_n 0, 1) := by decide +kernel
theorem dX11_canMove_22 : decode cX11_canMove 22 = .ok (.getfield 10, 3) := by decide +kernel
theorem dX11_canMove_25 : decode cX11_canMove 25 = .ok (.getfield 150, 3) := by decide +kernel
theorem dX11_canMove_28 : decode cX11_canMove 28 = .ok (.iload_n 2, 1) := by decide +kernel
theorem dX11_canMove_29 : decode cX11_canMove 29 = .ok (.invokevirtual 197, 3) := by decide +kernel
theorem dX11_canMove_32 : decode cX11_canMove 32 = .ok (.ifCond .eq 24, 3) := by decide +kernel
theorem dX11_canMove_35 : decode cX11_canMove 35 = .ok (.iload_n 2, 1) := by decide +kernel
theorem dX11_canMove_36 : decode cX11_canMove 36 = .ok (.ifCond .ne 16, 3) := by decide +kernel
theorem dX11_canMove_39 : decode cX11_canMove 39 = .ok (.aload_n 0, 1) := by decide +kernel
theorem dX11_canMove_40 : decode cX11_canMove 40 = .ok (.getfield 10, 3) := by decide +kernel
theorem dX11_canMove_43 : decode cX11_canMove 43 = .ok (.getfield 130, 3) := by decide +kernel
theorem dX11_canMove_46 : decode cX11_canMove 46 = .ok (.getfield 134, 3) := by decide +kernel
theorem dX11_canMove_49 : decode cX11_canMove 49 = .ok (.ifCond .le 7, 3) := by decide +kernel
theorem dX11_canMove_52 : decode cX11_canMove 52 = .ok (.iconst 1, 1) := by decide +kernel
theorem dX11_canMove_53 : decode cX11_canMove 53 = .ok (.goto 4, 3) := by decide +kernel
theorem dX11_canMove_56 : decode cX11_canMove 56 = .ok (.iconst 0, 1) := by decide +kernel
theorem dX11_canMove_57 : decode cX11_canMove 57 = .ok (.ireturn, 1) := by decide +kernel
theorem dX11_yesVotes_0 : decode cX11_yesVotes 0 = .ok (.aload_n 0, 1) := by decide +kernel
theorem dX11_yesVotes_1 : decode cX11_yesVotes 1 = .ok (.invokevirtual 200, 3) := by decide +kernel
theorem dX11_yesVotes_4 : decode cX11_yesVotes 4 = .ok (.aload_n 0, 1) := by decide +kernel
theorem dX11_yesVotes_5 : decode cX11_yesVotes 5 = .ok (.getfield 10, 3) := by decide +kernel
theorem dX11_yesVotes_8 : decode cX11_yesVotes 8 = .ok (.invokevirtual 203, 3) := by decide +kernel
theorem dX11_yesVotes_11 : decode cX11_yesVotes 11 = .ok (.ireturn, 1) := by decide +kernel
theorem dX11_wouldPass_0 : decode cX11_wouldPass 0 = .ok (.aload_n 0, 1) := by decide +kernel
theorem dX11_wouldPass_1 : decode cX11_wouldPass 1 = .ok (.invokevirtual 200, 3) := by decide +kernel
theorem dX11_wouldPass_4 : decode cX11_wouldPass 4 = .ok (.aload_n 0, 1) := by decide +kernel
theorem dX11_wouldPass_5 : decode cX11_wouldPass 5 = .ok (.getfield 10, 3) := by decide +kernel
theorem dX11_wouldPass_8 : decode cX11_wouldPass 8 = .ok (.aload_n 0, 1) := by decide +kernel
theorem dX11_wouldPass_9 : decode cX11_wouldPass 9 = .ok (.getfield 10, 3) := by decide +kernel
theorem dX11_wouldPass_12 : decode cX11_wouldPass 12 = .ok (.invokevirtual 203, 3) := by decide +kernel
theorem dX11_wouldPass_15 : decode cX11_wouldPass 15 = .ok (.invokevirtual 207, 3) := by decide +kernel
theorem dX11_wouldPass_18 : decode cX11_wouldPass 18 = .ok (.ireturn, 1) := by decide +kernel
theorem dX11_votesYes_0 : decode cX11_votesYes 0 = .ok (.aload_n 0, 1) := by decide +kernel
theorem dX11_votesYes_1 : decode cX11_votesYes 1 = .ok (.iload_n 1, 1) := by decide +kernel
theorem dX11_votesYes_2 : decode cX11_votesYes 2 = .ok (.invokevirtual 113, 3) := by decide +kernel
theorem dX11_votesYes_5 : decode cX11_votesYes 5 = .ok (.aload_n 0, 1) := by decide +kernel
theorem dX11_votesYes_6 : decode cX11_votesYes 6 = .ok (.invokevirtual 200, 3) := by decide +kernel
theorem dX11_votesYes_9 : decode cX11_votesYes 9 = .ok (.aload_n 0, 1) := by decide +kernel
theorem dX11_votesYes_10 : decode cX11_votesYes 10 = .ok (.getfield 10, 3) := by decide +kernel
theorem dX11_votesYes_13 : decode cX11_votesYes 13 = .ok (.iload_n 1, 1) := by decide +kernel
theorem dX11_votesYes_14 : decode cX11_votesYes 14 = .ok (.aload_n 0, 1) := by decide +kernel
theorem dX11_votesYes_15 : decode cX11_votesYes 15 = .ok (.getfield 10, 3) := by decide +kernel
theorem dX11_votesYes_18 : decode cX11_votesYes 18 = .ok (.invokevirtual 210, 3) := by decide +kernel
theorem dX11_votesYes_21 : decode cX11_votesYes 21 = .ok (.invokevirtual 213, 3) := by decide +kernel
theorem dX11_votesYes_24 : decode cX11_votesYes 24 = .ok (.ireturn, 1) := by decide +kernel
theorem dX11_support_0 : decode cX11_support 0 = .ok (.aload_n 0, 1) := by decide +kernel
theorem dX11_support_1 : decode cX11_support 1 = .ok (.iload_n 1, 1) := by decide +kernel
theorem dX11_support_2 : decode cX11_support 2 = .ok (.invokevirtual 143, 3) := by decide +kernel
theorem dX11_support_5 : decode cX11_support 5 = .ok (.aload_n 0, 1) := by decide +kernel
theorem dX11_support_6 : decode cX11_support 6 = .ok (.iload_n 2, 1) := by decide +kernel
theorem dX11_support_7 : decode cX11_support 7 = .ok (.invokevirtual 143, 3) := by decide +kernel
theorem dX11_support_10 : decode cX11_support 10 = .ok (.aload_n 0, 1) := by decide +kernel
theorem dX11_support_11 : decode cX11_support 11 = .ok (.getfield 10, 3) := by decide +kernel
theorem dX11_support_14 : decode cX11_support 14 = .ok (.getfield 104, 3) := by decide +kernel
theorem dX11_support_17 : decode cX11_support 17 = .ok (.aload_n 0, 1) := by decide +kernel
theorem dX11_support_18 : decode cX11_support 18 = .ok (.getfield 10, 3) := by decide +kernel
theorem dX11_support_21 : decode cX11_support 21 = .ok (.getfield 130, 3) := by decide +kernel
theorem dX11_support_24 : decode cX11_support 24 = .ok (.iload_n 1, 1) := by decide +kernel
theorem dX11_support_25 : decode cX11_support 25 = .ok (.invokevirtual 146, 3) := by decide +kernel
theorem dX11_support_28 : decode cX11_support 28 = .ok (.aload_n 0, 1) := by decide +kernel
theorem dX11_support_29 : decode cX11_support 29 = .ok (.getfield 10, 3) := by decide +kernel
theorem dX11_support_32 : decode cX11_support 32 = .ok (.getfield 130, 3) := by decide +kernel
theorem dX11_support_35 : decode cX11_support 35 = .ok (.iload_n 2, 1) := by decide +kernel
theorem dX11_support_36 : decode cX11_support 36 = .ok (.invokevirtual 146, 3) := by decide +kernel
theorem dX11_support_39 : decode cX11_support 39 = .ok (.invokevirtual 217, 3) := by decide +kernel
theorem dX11_support_42 : decode cX11_support 42 = .ok (.ireturn, 1) := by decide +kernel
theorem dX11_fewestDisagreements_0 : decode cX11_fewestDisagreements 0 = .ok (.aload_n 0, 1) := by decide +kernel
theorem dX11_fewestDisagreements_1 : decode cX11_fewestDisagreements 1 = .ok (.getfield 32, 3) := by decide +kernel
theorem dX11_fewestDisagreements_4 : decode cX11_fewestDisagreements 4 = .ok (.aload_n 0, 1) := by decide +kernel
theorem dX11_fewestDisagreements_5 : decode cX11_fewestDisagreements 5 = .ok (.getfield 10, 3) := by decide +kernel
theorem dX11_fewestDisagreements_8 : decode cX11_fewestDisagreements 8 = .ok (.invokevirtual 221, 3) := by decide +kernel
theorem dX11_fewestDisagreements_11 : decode cX11_fewestDisagreements 11 = .ok (.aload_n 0, 1) := by decide +kernel
theorem dX11_fewestDisagreements_12 : decode cX11_fewestDisagreements 12 = .ok (.getfield 32, 3) := by decide +kernel
theorem dX11_fewestDisagreements_15 : decode cX11_fewestDisagreements 15 = .ok (.invokevirtual 225, 3) := by decide +kernel
theorem dX11_fewestDisagreements_18 : decode cX11_fewestDisagreements 18 = .ok (.ireturn, 1) := by decide +kernel
theorem dX11_fewestDisagreementsByOrders_0 : decode cX11_fewestDisagreementsByOrders 0 = .ok (.aload_n 0, 1) := by decide +kernel
theorem dX11_fewestDisagreementsByOrders_1 : decode cX11_fewestDisagreementsByOrders 1 = .ok (.getfield 32, 3) := by decide +kernel
theorem dX11_fewestDisagreementsByOrders_4 : decode cX11_fewestDisagreementsByOrders 4 = .ok (.aload_n 0, 1) := by decide +kernel
theorem dX11_fewestDisagreementsByOrders_5 : decode cX11_fewestDisagreementsByOrders 5 = .ok (.getfield 10, 3) := by decide +kernel
theorem dX11_fewestDisagreementsByOrders_8 : decode cX11_fewestDisagreementsByOrders 8 = .ok (.invokevirtual 221, 3) := by decide +kernel
theorem dX11_fewestDisagreementsByOrders_11 : decode cX11_fewestDisagreementsByOrders 11 = .ok (.aload_n 0, 1) := by decide +kernel
theorem dX11_fewestDisagreementsByOrders_12 : decode cX11_fewestDisagreementsByOrders 12 = .ok (.getfield 32, 3) := by decide +kernel
theorem dX11_fewestDisagreementsByOrders_15 : decode cX11_fewestDisagreementsByOrders 15 = .ok (.invokevirtual 228, 3) := by decide +kernel
theorem dX11_fewestDisagreementsByOrders_18 : decode cX11_fewestDisagreementsByOrders 18 = .ok (.ireturn, 1) := by decide +kernel
theorem dX11_bestOrder_0 : decode cX11_bestOrder 0 = .ok (.aload_n 0, 1) := by decide +kernel
theorem dX11_bestOrder_1 : decode cX11_bestOrder 1 = .ok (.iload_n 1, 1) := by decide +kernel
theorem dX11_bestOrder_2 : decode cX11_bestOrder 2 = .ok (.invokevirtual 137, 3) := by decide +kernel
theorem dX11_bestOrder_5 : decode cX11_bestOrder 5 = .ok (.aload_n 0, 1) := by decide +kernel
theorem dX11_bestOrder_6 : decode cX11_bestOrder 6 = .ok (.getfield 32, 3) := by decide +kernel
theorem dX11_bestOrder_9 : decode cX11_bestOrder 9 = .ok (.aload_n 0, 1) := by decide +kernel
theorem dX11_bestOrder_10 : decode cX11_bestOrder 10 = .ok (.getfield 10, 3) := by decide +kernel
theorem dX11_bestOrder_13 : decode cX11_bestOrder 13 = .ok (.invokevirtual 221, 3) := by decide +kernel
theorem dX11_bestOrder_16 : decode cX11_bestOrder 16 = .ok (.aload_n 0, 1) := by decide +kernel
theorem dX11_bestOrder_17 : decode cX11_bestOrder 17 = .ok (.getfield 32, 3) := by decide +kernel
theorem dX11_bestOrder_20 : decode cX11_bestOrder 20 = .ok (.iload_n 1, 1) := by decide +kernel
theorem dX11_bestOrder_21 : decode cX11_bestOrder 21 = .ok (.aload_n 0, 1) := by decide +kernel
theorem dX11_bestOrder_22 : decode cX11_bestOrder 22 = .ok (.getfield 10, 3) := by decide +kernel
theorem dX11_bestOrder_25 : decode cX11_bestOrder 25 = .ok (.getfield 130, 3) := by decide +kernel
theorem dX11_bestOrder_28 : decode cX11_bestOrder 28 = .ok (.invokevirtual 231, 3) := by decide +kernel
theorem dX11_bestOrder_31 : decode cX11_bestOrder 31 = .ok (.ireturn, 1) := by decide +kernel
theorem dX11_isInTop_0 : decode cX11_isInTop 0 = .ok (.aload_n 0, 1) := by decide +kernel
theorem dX11_isInTop_1 : decode cX11_isInTop 1 = .ok (.iload_n 1, 1) := by decide +kernel
theorem dX11_isInTop_2 : decode cX11_isInTop 2 = .ok (.invokevirtual 143, 3) := by decide +kernel
theorem dX11_isInTop_5 : decode cX11_isInTop 5 = .ok (.aload_n 0, 1) := by decide +kernel
theorem dX11_isInTop_6 : decode cX11_isInTop 6 = .ok (.getfield 32, 3) := by decide +kernel
theorem dX11_isInTop_9 : decode cX11_isInTop 9 = .ok (.aload_n 0, 1) := by decide +kernel
theorem dX11_isInTop_10 : decode cX11_isInTop 10 = .ok (.getfield 10, 3) := by decide +kernel
theorem dX11_isInTop_13 : decode cX11_isInTop 13 = .ok (.invokevirtual 221, 3) := by decide +kernel
theorem dX11_isInTop_16 : decode cX11_isInTop 16 = .ok (.aload_n 0, 1) := by decide +kernel
theorem dX11_isInTop_17 : decode cX11_isInTop 17 = .ok (.getfield 32, 3) := by decide +kernel
theorem dX11_isInTop_20 : decode cX11_isInTop 20 = .ok (.aload_n 0, 1) := by decide +kernel
theorem dX11_isInTop_21 : decode cX11_isInTop 21 = .ok (.getfield 10, 3) := by decide +kernel
theorem dX11_isInTop_24 : decode cX11_isInTop 24 = .ok (.getfield 130, 3) := by decide +kernel
theorem dX11_isInTop_27 : decode cX11_isInTop 27 = .ok (.iload_n 1, 1) := by decide +kernel
theorem dX11_isInTop_28 : decode cX11_isInTop 28 = .ok (.invokevirtual 235, 3) := by decide +kernel
theorem dX11_isInTop_31 : decode cX11_isInTop 31 = .ok (.invokevirtual 238, 3) := by decide +kernel
theorem dX11_isInTop_34 : decode cX11_isInTop 34 = .ok (.ireturn, 1) := by decide +kernel
theorem dX11_isInTopBySets_0 : decode cX11_isInTopBySets 0 = .ok (.aload_n 0, 1) := by decide +kernel
theorem dX11_isInTopBySets_1 : decode cX11_isInTopBySets 1 = .ok (.iload_n 1, 1) := by decide +kernel
theorem dX11_isInTopBySets_2 : decode cX11_isInTopBySets 2 = .ok (.invokevirtual 143, 3) := by decide +kernel
theorem dX11_isInTopBySets_5 : decode cX11_isInTopBySets 5 = .ok (.aload_n 0, 1) := by decide +kernel
theorem dX11_isInTopBySets_6 : decode cX11_isInTopBySets 6 = .ok (.getfield 32, 3) := by decide +kernel
theorem dX11_isInTopBySets_9 : decode cX11_isInTopBySets 9 = .ok (.aload_n 0, 1) := by decide +kernel
theorem dX11_isInTopBySets_10 : decode cX11_isInTopBySets 10 = .ok (.getfield 10, 3) := by decide +kernel
theorem dX11_isInTopBySets_13 : decode cX11_isInTopBySets 13 = .ok (.invokevirtual 221, 3) := by decide +kernel
theorem dX11_isInTopBySets_16 : decode cX11_isInTopBySets 16 = .ok (.aload_n 0, 1) := by decide +kernel
theorem dX11_isInTopBySets_17 : decode cX11_isInTopBySets 17 = .ok (.getfield 10, 3) := by decide +kernel
theorem dX11_isInTopBySets_20 : decode cX11_isInTopBySets 20 = .ok (.getfield 130, 3) := by decide +kernel
theorem dX11_isInTopBySets_23 : decode cX11_isInTopBySets 23 = .ok (.iload_n 1, 1) := by decide +kernel
theorem dX11_isInTopBySets_24 : decode cX11_isInTopBySets 24 = .ok (.invokevirtual 235, 3) := by decide +kernel
theorem dX11_isInTopBySets_27 : decode cX11_isInTopBySets 27 = .ok (.aload_n 0, 1) := by decide +kernel
theorem dX11_isInTopBySets_28 : decode cX11_isInTopBySets 28 = .ok (.getfield 32, 3) := by decide +kernel
theorem dX11_isInTopBySets_31 : decode cX11_isInTopBySets 31 = .ok (.invokevirtual 241, 3) := by decide +kernel
theorem dX11_isInTopBySets_34 : decode cX11_isInTopBySets 34 = .ok (.invokestatic 244, 3) := by decide +kernel
theorem dX11_isInTopBySets_37 : decode cX11_isInTopBySets 37 = .ok (.ireturn, 1) := by decide +kernel
theorem dX11_isWet_0 : decode cX11_isWet 0 = .ok (.aload_n 0, 1) := by decide +kernel
theorem dX11_isWet_1 : decode cX11_isWet 1 = .ok (.iload_n 1, 1) := by decide +kernel
theorem dX11_isWet_2 : decode cX11_isWet 2 = .ok (.iload_n 2, 1) := by decide +kernel
theorem dX11_isWet_3 : decode cX11_isWet 3 = .ok (.invokevirtual 247, 3) := by decide +kernel
theorem dX11_isWet_6 : decode cX11_isWet 6 = .ok (.aload_n 0, 1) := by decide +kernel
theorem dX11_isWet_7 : decode cX11_isWet 7 = .ok (.getfield 10, 3) := by decide +kernel
theorem dX11_isWet_10 : decode cX11_isWet 10 = .ok (.getfield 251, 3) := by decide +kernel
theorem dX11_isWet_13 : decode cX11_isWet 13 = .ok (.iload_n 1, 1) := by decide +kernel
theorem dX11_isWet_14 : decode cX11_isWet 14 = .ok (.iload_n 2, 1) := by decide +kernel
theorem dX11_isWet_15 : decode cX11_isWet 15 = .ok (.invokevirtual 255, 3) := by decide +kernel
theorem dX11_isWet_18 : decode cX11_isWet 18 = .ok (.lconst 0, 1) := by decide +kernel
theorem dX11_isWet_19 : decode cX11_isWet 19 = .ok (.lcmp, 1) := by decide +kernel
theorem dX11_isWet_20 : decode cX11_isWet 20 = .ok (.ifCond .eq 7, 3) := by decide +kernel
theorem dX11_isWet_23 : decode cX11_isWet 23 = .ok (.iconst 1, 1) := by decide +kernel
theorem dX11_isWet_24 : decode cX11_isWet 24 = .ok (.goto 4, 3) := by decide +kernel
theorem dX11_isWet_27 : decode cX11_isWet 27 = .ok (.iconst 0, 1) := by decide +kernel
theorem dX11_isWet_28 : decode cX11_isWet 28 = .ok (.ireturn, 1) := by decide +kernel
theorem dX11_wetCells_0 : decode cX11_wetCells 0 = .ok (.aload_n 0, 1) := by decide +kernel
theorem dX11_wetCells_1 : decode cX11_wetCells 1 = .ok (.getfield 10, 3) := by decide +kernel
theorem dX11_wetCells_4 : decode cX11_wetCells 4 = .ok (.getfield 251, 3) := by decide +kernel
theorem dX11_wetCells_7 : decode cX11_wetCells 7 = .ok (.getfield 261, 3) := by decide +kernel
theorem dX11_wetCells_10 : decode cX11_wetCells 10 = .ok (.invokestatic 265, 3) := by decide +kernel
theorem dX11_wetCells_13 : decode cX11_wetCells 13 = .ok (.ireturn, 1) := by decide +kernel
theorem dX11_puddle_0 : decode cX11_puddle 0 = .ok (.aload_n 0, 1) := by decide +kernel
theorem dX11_puddle_1 : decode cX11_puddle 1 = .ok (.iload_n 1, 1) := by decide +kernel
theorem dX11_puddle_2 : decode cX11_puddle 2 = .ok (.iload_n 2, 1) := by decide +kernel
theorem dX11_puddle_3 : decode cX11_puddle 3 = .ok (.invokevirtual 247, 3) := by decide +kernel
theorem dX11_puddle_6 : decode cX11_puddle 6 = .ok (.aload_n 0, 1) := by decide +kernel
theorem dX11_puddle_7 : decode cX11_puddle 7 = .ok (.getfield 10, 3) := by decide +kernel
theorem dX11_puddle_10 : decode cX11_puddle 10 = .ok (.getfield 251, 3) := by decide +kernel
theorem dX11_puddle_13 : decode cX11_puddle 13 = .ok (.iload_n 1, 1) := by decide +kernel
theorem dX11_puddle_14 : decode cX11_puddle 14 = .ok (.iload_n 2, 1) := by decide +kernel
theorem dX11_puddle_15 : decode cX11_puddle 15 = .ok (.invokestatic 271, 3) := by decide +kernel
theorem dX11_puddle_18 : decode cX11_puddle 18 = .ok (.invokevirtual 274, 3) := by decide +kernel
theorem dX11_puddle_21 : decode cX11_puddle 21 = .ok (.invokestatic 265, 3) := by decide +kernel
theorem dX11_puddle_24 : decode cX11_puddle 24 = .ok (.ireturn, 1) := by decide +kernel
theorem dX11_puddleByGroups_0 : decode cX11_puddleByGroups 0 = .ok (.aload_n 0, 1) := by decide +kernel
theorem dX11_puddleByGroups_1 : decode cX11_puddleByGroups 1 = .ok (.iload_n 1, 1) := by decide +kernel
theorem dX11_puddleByGroups_2 : decode cX11_puddleByGroups 2 = .ok (.iload_n 2, 1) := by decide +kernel
theorem dX11_puddleByGroups_3 : decode cX11_puddleByGroups 3 = .ok (.invokevirtual 247, 3) := by decide +kernel
theorem dX11_puddleByGroups_6 : decode cX11_puddleByGroups 6 = .ok (.aload_n 0, 1) := by decide +kernel
theorem dX11_puddleByGroups_7 : decode cX11_puddleByGroups 7 = .ok (.getfield 10, 3) := by decide +kernel
theorem dX11_puddleByGroups_10 : decode cX11_puddleByGroups 10 = .ok (.getfield 251, 3) := by decide +kernel
theorem dX11_puddleByGroups_13 : decode cX11_puddleByGroups 13 = .ok (.invokevirtual 278, 3) := by decide +kernel
theorem dX11_puddleByGroups_16 : decode cX11_puddleByGroups 16 = .ok (.aload_n 0, 1) := by decide +kernel
theorem dX11_puddleByGroups_17 : decode cX11_puddleByGroups 17 = .ok (.getfield 10, 3) := by decide +kernel
theorem dX11_puddleByGroups_20 : decode cX11_puddleByGroups 20 = .ok (.getfield 251, 3) := by decide +kernel
theorem dX11_puddleByGroups_23 : decode cX11_puddleByGroups 23 = .ok (.iload_n 1, 1) := by decide +kernel
theorem dX11_puddleByGroups_24 : decode cX11_puddleByGroups 24 = .ok (.iload_n 2, 1) := by decide +kernel
theorem dX11_puddleByGroups_25 : decode cX11_puddleByGroups 25 = .ok (.invokestatic 271, 3) := by decide +kernel
theorem dX11_puddleByGroups_28 : decode cX11_puddleByGroups 28 = .ok (.invokevirtual 281, 3) := by decide +kernel
theorem dX11_puddleByGroups_31 : decode cX11_puddleByGroups 31 = .ok (.invokestatic 265, 3) := by decide +kernel
theorem dX11_puddleByGroups_34 : decode cX11_puddleByGroups 34 = .ok (.ireturn, 1) := by decide +kernel
theorem dX11_largestPuddle_0 : decode cX11_largestPuddle 0 = .ok (.aload_n 0, 1) := by decide +kernel
theorem dX11_largestPuddle_1 : decode cX11_largestPuddle 1 = .ok (.getfield 10, 3) := by decide +kernel
theorem dX11_largestPuddle_4 : decode cX11_largestPuddle 4 = .ok (.getfield 251, 3) := by decide +kernel
theorem dX11_largestPuddle_7 : decode cX11_largestPuddle 7 = .ok (.invokevirtual 284, 3) := by decide +kernel
theorem dX11_largestPuddle_10 : decode cX11_largestPuddle 10 = .ok (.ireturn, 1) := by decide +kernel
theorem dX11_puddleCount_0 : decode cX11_puddleCount 0 = .ok (.aload_n 0, 1) := by decide +kernel
theorem dX11_puddleCount_1 : decode cX11_puddleCount 1 = .ok (.getfield 10, 3) := by decide +kernel
theorem dX11_puddleCount_4 : decode cX11_puddleCount 4 = .ok (.getfield 251, 3) := by decide +kernel
theorem dX11_puddleCount_7 : decode cX11_puddleCount 7 = .ok (.invokevirtual 287, 3) := by decide +kernel
theorem dX11_puddleCount_10 : decode cX11_puddleCount 10 = .ok (.ireturn, 1) := by decide +kernel
theorem dX11_spoonBySugar_0 : decode cX11_spoonBySugar 0 = .ok (.iload_n 1, 1) := by decide +kernel
theorem dX11_spoonBySugar_1 : decode cX11_spoonBySugar 1 = .ok (.ifCond .lt 17, 3) := by decide +kernel
theorem dX11_spoonBySugar_4 : decode cX11_spoonBySugar 4 = .ok (.iload_n 1, 1) := by decide +kernel
theorem dX11_spoonBySugar_5 : decode cX11_spoonBySugar 5 = .ok (.aload_n 0, 1) := by decide +kernel
theorem dX11_spoonBySugar_6 : decode cX11_spoonBySugar 6 = .ok (.getfield 10, 3) := by decide +kernel
theorem dX11_spoonBySugar_9 : decode cX11_spoonBySugar 9 = .ok (.getfield 104, 3) := by decide +kernel
theorem dX11_spoonBySugar_12 : decode cX11_spoonBySugar 12 = .ok (.getfield 108, 3) := by decide +kernel
theorem dX11_spoonBySugar_15 : decode cX11_spoonBySugar 15 = .ok (.if_icmp .lt 14, 3) := by decide +kernel
theorem dX11_spoonBySugar_18 : decode cX11_spoonBySugar 18 = .ok (.new 157, 3) := by decide +kernel
theorem dX11_spoonBySugar_21 : decode cX11_spoonBySugar 21 = .ok (.dup, 1) := by decide +kernel
theorem dX11_spoonBySugar_22 : decode cX11_spoonBySugar 22 = .ok (.ldc_w 290, 3) := by decide +kernel
theorem dX11_spoonBySugar_25 : decode cX11_spoonBySugar 25 = .ok (.invokespecial 161, 3) := by decide +kernel
theorem dX11_spoonBySugar_28 : decode cX11_spoonBySugar 28 = .ok (.athrow, 1) := by decide +kernel
theorem dX11_spoonBySugar_29 : decode cX11_spoonBySugar 29 = .ok (.aload_n 0, 1) := by decide +kernel
theorem dX11_spoonBySugar_30 : decode cX11_spoonBySugar 30 = .ok (.getfield 10, 3) := by decide +kernel
theorem dX11_spoonBySugar_33 : decode cX11_spoonBySugar 33 = .ok (.getfield 104, 3) := by decide +kernel
theorem dX11_spoonBySugar_36 : decode cX11_spoonBySugar 36 = .ok (.iload_n 1, 1) := by decide +kernel
theorem dX11_spoonBySugar_37 : decode cX11_spoonBySugar 37 = .ok (.invokevirtual 292, 3) := by decide +kernel
theorem dX11_spoonBySugar_40 : decode cX11_spoonBySugar 40 = .ok (.ireturn, 1) := by decide +kernel
theorem dX11_minutesCount_0 : decode cX11_minutesCount 0 = .ok (.aload_n 0, 1) := by decide +kernel
theorem dX11_minutesCount_1 : decode cX11_minutesCount 1 = .ok (.getfield 10, 3) := by decide +kernel
theorem dX11_minutesCount_4 : decode cX11_minutesCount 4 = .ok (.getfield 295, 3) := by decide +kernel
theorem dX11_minutesCount_7 : decode cX11_minutesCount 7 = .ok (.ireturn, 1) := by decide +kernel
theorem dX11_minute_0 : decode cX11_minute 0 = .ok (.aload_n 0, 1) := by decide +kernel
theorem dX11_minute_1 : decode cX11_minute 1 = .ok (.getfield 10, 3) := by decide +kernel
theorem dX11_minute_4 : decode cX11_minute 4 = .ok (.iload_n 1, 1) := by decide +kernel
theorem dX11_minute_5 : decode cX11_minute 5 = .ok (.invokevirtual 298, 3) := by decide +kernel
theorem dX11_minute_8 : decode cX11_minute 8 = .ok (.ifCond .ne 14, 3) := by decide +kernel
theorem dX11_minute_11 : decode cX11_minute 11 = .ok (.new 157, 3) := by decide +kernel
theorem dX11_minute_14 : decode cX11_minute 14 = .ok (.dup, 1) := by decide +kernel
theorem dX11_minute_15 : decode cX11_minute 15 = .ok (.ldc_w 301, 3) := by decide +kernel
theorem dX11_minute_18 : decode cX11_minute 18 = .ok (.invokespecial 161, 3) := by decide +kernel
theorem dX11_minute_21 : decode cX11_minute 21 = .ok (.athrow, 1) := by decide +kernel
theorem dX11_minute_22 : decode cX11_minute 22 = .ok (.aload_n 0, 1) := by decide +kernel
theorem dX11_minute_23 : decode cX11_minute 23 = .ok (.getfield 10, 3) := by decide +kernel
theorem dX11_minute_26 : decode cX11_minute 26 = .ok (.iload_n 1, 1) := by decide +kernel
theorem dX11_minute_27 : decode cX11_minute 27 = .ok (.invokevirtual 303, 3) := by decide +kernel
theorem dX11_minute_30 : decode cX11_minute 30 = .ok (.ireturn, 1) := by decide +kernel
theorem dX11_sittings_0 : decode cX11_sittings 0 = .ok (.aload_n 0, 1) := by decide +kernel
theorem dX11_sittings_1 : decode cX11_sittings 1 = .ok (.getfield 10, 3) := by decide +kernel
theorem dX11_sittings_4 : decode cX11_sittings 4 = .ok (.getfield 306, 3) := by decide +kernel
theorem dX11_sittings_7 : decode cX11_sittings 7 = .ok (.ireturn, 1) := by decide +kernel
theorem dX11_sugarTotal_0 : decode cX11_sugarTotal 0 = .ok (.aload_n 0, 1) := by decide +kernel
theorem dX11_sugarTotal_1 : decode cX11_sugarTotal 1 = .ok (.getfield 10, 3) := by decide +kernel
theorem dX11_sugarTotal_4 : decode cX11_sugarTotal 4 = .ok (.getfield 104, 3) := by decide +kernel
theorem dX11_sugarTotal_7 : decode cX11_sugarTotal 7 = .ok (.invokevirtual 309, 3) := by decide +kernel
theorem dX11_sugarTotal_10 : decode cX11_sugarTotal 10 = .ok (.ireturn, 1) := by decide +kernel
theorem dX11_sugarByAccounts_0 : decode cX11_sugarByAccounts 0 = .ok (.aload_n 0, 1) := by decide +kernel
theorem dX11_sugarByAccounts_1 : decode cX11_sugarByAccounts 1 = .ok (.getfield 10, 3) := by decide +kernel
theorem dX11_sugarByAccounts_4 : decode cX11_sugarByAccounts 4 = .ok (.getfield 104, 3) := by decide +kernel
theorem dX11_sugarByAccounts_7 : decode cX11_sugarByAccounts 7 = .ok (.invokevirtual 312, 3) := by decide +kernel
theorem dX11_sugarByAccounts_10 : decode cX11_sugarByAccounts 10 = .ok (.ireturn, 1) := by decide +kernel
theorem dX11_meanStance_0 : decode cX11_meanStance 0 = .ok (.aload_n 0, 1) := by decide +kernel
theorem dX11_meanStance_1 : decode cX11_meanStance 1 = .ok (.getfield 10, 3) := by decide +kernel
theorem dX11_meanStance_4 : decode cX11_meanStance 4 = .ok (.getfield 104, 3) := by decide +kernel
theorem dX11_meanStance_7 : decode cX11_meanStance 7 = .ok (.getfield 108, 3) := by decide +kernel
theorem dX11_meanStance_10 : decode cX11_meanStance 10 = .ok (.istore_n 1, 1) := by decide +kernel
theorem dX11_meanStance_11 : decode cX11_meanStance 11 = .ok (.iload_n 1, 1) := by decide +kernel
theorem dX11_meanStance_12 : decode cX11_meanStance 12 = .ok (.ifCond .ne 14, 3) := by decide +kernel
theorem dX11_meanStance_15 : decode cX11_meanStance 15 = .ok (.new 315, 3) := by decide +kernel
theorem dX11_meanStance_18 : decode cX11_meanStance 18 = .ok (.dup, 1) := by decide +kernel
theorem dX11_meanStance_19 : decode cX11_meanStance 19 = .ok (.ldc_w 317, 3) := by decide +kernel
theorem dX11_meanStance_22 : decode cX11_meanStance 22 = .ok (.invokespecial 319, 3) := by decide +kernel
theorem dX11_meanStance_25 : decode cX11_meanStance 25 = .ok (.athrow, 1) := by decide +kernel
theorem dX11_meanStance_26 : decode cX11_meanStance 26 = .ok (.aload_n 0, 1) := by decide +kernel
theorem dX11_meanStance_27 : decode cX11_meanStance 27 = .ok (.getfield 10, 3) := by decide +kernel
theorem dX11_meanStance_30 : decode cX11_meanStance 30 = .ok (.getfield 104, 3) := by decide +kernel
theorem dX11_meanStance_33 : decode cX11_meanStance 33 = .ok (.invokevirtual 320, 3) := by decide +kernel
theorem dX11_meanStance_36 : decode cX11_meanStance 36 = .ok (.i2d, 1) := by decide +kernel
theorem dX11_meanStance_37 : decode cX11_meanStance 37 = .ok (.iload_n 1, 1) := by decide +kernel
theorem dX11_meanStance_38 : decode cX11_meanStance 38 = .ok (.i2d, 1) := by decide +kernel
theorem dX11_meanStance_39 : decode cX11_meanStance 39 = .ok (.ddiv, 1) := by decide +kernel
theorem dX11_meanStance_40 : decode cX11_meanStance 40 = .ok (.dreturn, 1) := by decide +kernel
theorem dX11_adoptedShare_0 : decode cX11_adoptedShare 0 = .ok (.aload_n 0, 1) := by decide +kernel
theorem dX11_adoptedShare_1 : decode cX11_adoptedShare 1 = .ok (.getfield 10, 3) := by decide +kernel
theorem dX11_adoptedShare_4 : decode cX11_adoptedShare 4 = .ok (.getfield 323, 3) := by decide +kernel
theorem dX11_adoptedShare_7 : decode cX11_adoptedShare 7 = .ok (.istore_n 1, 1) := by decide +kernel
theorem dX11_adoptedShare_8 : decode cX11_adoptedShare 8 = .ok (.iload_n 1, 1) := by decide +kernel
theorem dX11_adoptedShare_9 : decode cX11_adoptedShare 9 = .ok (.ifCond .ne 14, 3) := by decide +kernel
theorem dX11_adoptedShare_12 : decode cX11_adoptedShare 12 = .ok (.new 315, 3) := by decide +kernel
theorem dX11_adoptedShare_15 : decode cX11_adoptedShare 15 = .ok (.dup, 1) := by decide +kernel
theorem dX11_adoptedShare_16 : decode cX11_adoptedShare 16 = .ok (.ldc_w 326, 3) := by decide +kernel
theorem dX11_adoptedShare_19 : decode cX11_adoptedShare 19 = .ok (.invokespecial 319, 3) := by decide +kernel
theorem dX11_adoptedShare_22 : decode cX11_adoptedShare 22 = .ok (.athrow, 1) := by decide +kernel
theorem dX11_adoptedShare_23 : decode cX11_adoptedShare 23 = .ok (.aload_n 0, 1) := by decide +kernel
theorem dX11_adoptedShare_24 : decode cX11_adoptedShare 24 = .ok (.getfield 10, 3) := by decide +kernel
theorem dX11_adoptedShare_27 : decode cX11_adoptedShare 27 = .ok (.getfield 328, 3) := by decide +kernel
theorem dX11_adoptedShare_30 : decode cX11_adoptedShare 30 = .ok (.i2f, 1) := by decide +kernel
theorem dX11_adoptedShare_31 : decode cX11_adoptedShare 31 = .ok (.iload_n 1, 1) := by decide +kernel
theorem dX11_adoptedShare_32 : decode cX11_adoptedShare 32 = .ok (.i2f, 1) := by decide +kernel
theorem dX11_adoptedShare_33 : decode cX11_adoptedShare 33 = .ok (.fdiv, 1) := by decide +kernel
theorem dX11_adoptedShare_34 : decode cX11_adoptedShare 34 = .ok (.freturn, 1) := by decide +kernel
theorem dX11_isConsistent_0 : decode cX11_isConsistent 0 = .ok (.aload_n 0, 1) := by decide +kernel
theorem dX11_isConsistent_1 : decode cX11_isConsistent 1 = .ok (.getfield 32, 3) := by decide +kernel
theorem dX11_isConsistent_4 : decode cX11_isConsistent 4 = .ok (.aload_n 0, 1) := by decide +kernel
theorem dX11_isConsistent_5 : decode cX11_isConsistent 5 = .ok (.getfield 10, 3) := by decide +kernel
theorem dX11_isConsistent_8 : decode cX11_isConsistent 8 = .ok (.invokevirtual 221, 3) := by decide +kernel
theorem dX11_isConsistent_11 : decode cX11_isConsistent 11 = .ok (.aload_n 0, 1) := by decide +kernel
theorem dX11_isConsistent_12 : decode cX11_isConsistent 12 = .ok (.getfield 32, 3) := by decide +kernel
theorem dX11_isConsistent_15 : decode cX11_isConsistent 15 = .ok (.invokevirtual 225, 3) := by decide +kernel
theorem dX11_isConsistent_18 : decode cX11_isConsistent 18 = .ok (.aload_n 0, 1) := by decide +kernel
theorem dX11_isConsistent_19 : decode cX11_isConsistent 19 = .ok (.getfield 32, 3) := by decide +kernel
theorem dX11_isConsistent_22 : decode cX11_isConsistent 22 = .ok (.invokevirtual 228, 3) := by decide +kernel
theorem dX11_isConsistent_25 : decode cX11_isConsistent 25 = .ok (.if_icmp .ne 53, 3) := by decide +kernel
theorem dX11_isConsistent_28 : decode cX11_isConsistent 28 = .ok (.aload_n 0, 1) := by decide +kernel
theorem dX11_isConsistent_29 : decode cX11_isConsistent 29 = .ok (.getfield 32, 3) := by decide +kernel
theorem dX11_isConsistent_32 : decode cX11_isConsistent 32 = .ok (.invokevirtual 331, 3) := by decide +kernel
theorem dX11_isConsistent_35 : decode cX11_isConsistent 35 = .ok (.ifCond .eq 43, 3) := by decide +kernel
theorem dX11_isConsistent_38 : decode cX11_isConsistent 38 = .ok (.aload_n 0, 1) := by decide +kernel
theorem dX11_isConsistent_39 : decode cX11_isConsistent 39 = .ok (.getfield 10, 3) := by decide +kernel
theorem dX11_isConsistent_42 : decode cX11_isConsistent 42 = .ok (.getfield 251, 3) := by decide +kernel
theorem dX11_isConsistent_45 : decode cX11_isConsistent 45 = .ok (.invokevirtual 335, 3) := by decide +kernel
theorem dX11_isConsistent_48 : decode cX11_isConsistent 48 = .ok (.ifCond .eq 30, 3) := by decide +kernel
theorem dX11_isConsistent_51 : decode cX11_isConsistent 51 = .ok (.aload_n 0, 1) := by decide +kernel
theorem dX11_isConsistent_52 : decode cX11_isConsistent 52 = .ok (.getfield 10, 3) := by decide +kernel
theorem dX11_isConsistent_55 : decode cX11_isConsistent 55 = .ok (.getfield 104, 3) := by decide +kernel
theorem dX11_isConsistent_58 : decode cX11_isConsistent 58 = .ok (.invokevirtual 309, 3) := by decide +kernel
theorem dX11_isConsistent_61 : decode cX11_isConsistent 61 = .ok (.aload_n 0, 1) := by decide +kernel
theorem dX11_isConsistent_62 : decode cX11_isConsistent 62 = .ok (.getfield 10, 3) := by decide +kernel
theorem dX11_isConsistent_65 : decode cX11_isConsistent 65 = .ok (.getfield 104, 3) := by decide +kernel
theorem dX11_isConsistent_68 : decode cX11_isConsistent 68 = .ok (.invokevirtual 312, 3) := by decide +kernel
theorem dX11_isConsistent_71 : decode cX11_isConsistent 71 = .ok (.if_icmp .ne 7, 3) := by decide +kernel
theorem dX11_isConsistent_74 : decode cX11_isConsistent 74 = .ok (.iconst 1, 1) := by decide +kernel
theorem dX11_isConsistent_75 : decode cX11_isConsistent 75 = .ok (.goto 4, 3) := by decide +kernel
theorem dX11_isConsistent_78 : decode cX11_isConsistent 78 = .ok (.iconst 0, 1) := by decide +kernel
theorem dX11_isConsistent_79 : decode cX11_isConsistent 79 = .ok (.ireturn, 1) := by decide +kernel
theorem dX11_renderTable_0 : decode cX11_renderTable 0 = .ok (.aload_n 0, 1) := by decide +kernel
theorem dX11_renderTable_1 : decode cX11_renderTable 1 = .ok (.getfield 46, 3) := by decide +kernel
theorem dX11_renderTable_4 : decode cX11_renderTable 4 = .ok (.iconst 0, 1) := by decide +kernel
theorem dX11_renderTable_5 : decode cX11_renderTable 5 = .ok (.invokevirtual 338, 3) := by decide +kernel
theorem dX11_renderTable_8 : decode cX11_renderTable 8 = .ok (.aload_n 0, 1) := by decide +kernel
theorem dX11_renderTable_9 : decode cX11_renderTable 9 = .ok (.getfield 10, 3) := by decide +kernel
theorem dX11_renderTable_12 : decode cX11_renderTable 12 = .ok (.getfield 150, 3) := by decide +kernel
theorem dX11_renderTable_15 : decode cX11_renderTable 15 = .ok (.astore_n 1, 1) := by decide +kernel
theorem dX11_renderTable_16 : decode cX11_renderTable 16 = .ok (.iconst 0, 1) := by decide +kernel
theorem dX11_renderTable_17 : decode cX11_renderTable 17 = .ok (.istore_n 2, 1) := by decide +kernel
theorem dX11_renderTable_18 : decode cX11_renderTable 18 = .ok (.iload_n 2, 1) := by decide +kernel
theorem dX11_renderTable_19 : decode cX11_renderTable 19 = .ok (.aload_n 1, 1) := by decide +kernel
theorem dX11_renderTable_20 : decode cX11_renderTable 20 = .ok (.getfield 154, 3) := by decide +kernel
theorem dX11_renderTable_23 : decode cX11_renderTable 23 = .ok (.if_icmp .ge 66, 3) := by decide +kernel
theorem dX11_renderTable_26 : decode cX11_renderTable 26 = .ok (.aload_n 0, 1) := by decide +kernel
theorem dX11_renderTable_27 : decode cX11_renderTable 27 = .ok (.getfield 46, 3) := by decide +kernel
theorem dX11_renderTable_30 : decode cX11_renderTable 30 = .ok (.aload_n 1, 1) := by decide +kernel
theorem dX11_renderTable_31 : decode cX11_renderTable 31 = .ok (.iload_n 2, 1) := by decide +kernel
theorem dX11_renderTable_32 : decode cX11_renderTable 32 = .ok (.invokevirtual 164, 3) := by decide +kernel
theorem dX11_renderTable_35 : decode cX11_renderTable 35 = .ok (.invokevirtual 341, 3) := by decide +kernel
theorem dX11_renderTable_38 : decode cX11_renderTable 38 = .ok (.pop, 1) := by decide +kernel
theorem dX11_renderTable_39 : decode cX11_renderTable 39 = .ok (.aload_n 1, 1) := by decide +kernel
theorem dX11_renderTable_40 : decode cX11_renderTable 40 = .ok (.iload_n 2, 1) := by decide +kernel
theorem dX11_renderTable_41 : decode cX11_renderTable 41 = .ok (.invokevirtual 345, 3) := by decide +kernel
theorem dX11_renderTable_44 : decode cX11_renderTable 44 = .ok (.ifCond .ne 18, 3) := by decide +kernel
theorem dX11_renderTable_47 : decode cX11_renderTable 47 = .ok (.aload_n 0, 1) := by decide +kernel
theorem dX11_renderTable_48 : decode cX11_renderTable 48 = .ok (.getfield 46, 3) := by decide +kernel
theorem dX11_renderTable_51 : decode cX11_renderTable 51 = .ok (.aload_n 1, 1) := by decide +kernel
theorem dX11_renderTable_52 : decode cX11_renderTable 52 = .ok (.getfield 179, 3) := by decide +kernel
theorem dX11_renderTable_55 : decode cX11_renderTable 55 = .ok (.invokevirtual 348, 3) := by decide +kernel
theorem dX11_renderTable_58 : decode cX11_renderTable 58 = .ok (.pop, 1) := by decide +kernel
theorem dX11_renderTable_59 : decode cX11_renderTable 59 = .ok (.goto 24, 3) := by decide +kernel
theorem dX11_renderTable_62 : decode cX11_renderTable 62 = .ok (.aload_n 1, 1) := by decide +kernel
theorem dX11_renderTable_63 : decode cX11_renderTable 63 = .ok (.iload_n 2, 1) := by decide +kernel
theorem dX11_renderTable_64 : decode cX11_renderTable 64 = .ok (.invokevirtual 345, 3) := by decide +kernel
theorem dX11_renderTable_67 : decode cX11_renderTable 67 = .ok (.iconst 1, 1) := by decide +kernel
theorem dX11_renderTable_68 : decode cX11_renderTable 68 = .ok (.if_icmp .ne 15, 3) := by decide +kernel
theorem dX11_renderTable_71 : decode cX11_renderTable 71 = .ok (.aload_n 0, 1) := by decide +kernel
theorem dX11_renderTable_72 : decode cX11_renderTable 72 = .ok (.getfield 46, 3) := by decide +kernel
theorem dX11_renderTable_75 : decode cX11_renderTable 75 = .ok (.aload_n 1, 1) := by decide +kernel
theorem dX11_renderTable_76 : decode cX11_renderTable 76 = .ok (.getfield 174, 3) := by decide +kernel
theorem dX11_renderTable_79 : decode cX11_renderTable 79 = .ok (.invokevirtual 348, 3) := by decide +kernel
theorem dX11_renderTable_82 : decode cX11_renderTable 82 = .ok (.pop, 1) := by decide +kernel
theorem dX11_renderTable_83 : decode cX11_renderTable 83 = .ok (.iinc 2 1, 3) := by decide +kernel
theorem dX11_renderTable_86 : decode cX11_renderTable 86 = .ok (.goto (-68), 3) := by decide +kernel
theorem dX11_renderTable_89 : decode cX11_renderTable 89 = .ok (.aload_n 1, 1) := by decide +kernel
theorem dX11_renderTable_90 : decode cX11_renderTable 90 = .ok (.getfield 182, 3) := by decide +kernel
theorem dX11_renderTable_93 : decode cX11_renderTable 93 = .ok (.ifCond .eq 13, 3) := by decide +kernel
theorem dX11_renderTable_96 : decode cX11_renderTable 96 = .ok (.aload_n 0, 1) := by decide +kernel
theorem dX11_renderTable_97 : decode cX11_renderTable 97 = .ok (.getfield 46, 3) := by decide +kernel
theorem dX11_renderTable_100 : decode cX11_renderTable 100 = .ok (.bipush 33, 2) := by decide +kernel
theorem dX11_renderTable_102 : decode cX11_renderTable 102 = .ok (.invokevirtual 341, 3) := by decide +kernel
theorem dX11_renderTable_105 : decode cX11_renderTable 105 = .ok (.pop, 1) := by decide +kernel
theorem dX11_renderTable_106 : decode cX11_renderTable 106 = .ok (.aload_n 0, 1) := by decide +kernel
theorem dX11_renderTable_107 : decode cX11_renderTable 107 = .ok (.getfield 46, 3) := by decide +kernel
theorem dX11_renderTable_110 : decode cX11_renderTable 110 = .ok (.invokevirtual 351, 3) := by decide +kernel
theorem dX11_renderTable_113 : decode cX11_renderTable 113 = .ok (.ireturn, 1) := by decide +kernel
theorem dX11_renderList_0 : decode cX11_renderList 0 = .ok (.aload_n 0, 1) := by decide +kernel
theorem dX11_renderList_1 : decode cX11_renderList 1 = .ok (.getfield 46, 3) := by decide +kernel
theorem dX11_renderList_4 : decode cX11_renderList 4 = .ok (.iconst 0, 1) := by decide +kernel
theorem dX11_renderList_5 : decode cX11_renderList 5 = .ok (.invokevirtual 338, 3) := by decide +kernel
theorem dX11_renderList_8 : decode cX11_renderList 8 = .ok (.aload_n 0, 1) := by decide +kernel
theorem dX11_renderList_9 : decode cX11_renderList 9 = .ok (.getfield 10, 3) := by decide +kernel
theorem dX11_renderList_12 : decode cX11_renderList 12 = .ok (.getfield 130, 3) := by decide +kernel
theorem dX11_renderList_15 : decode cX11_renderList 15 = .ok (.astore_n 1, 1) := by decide +kernel
theorem dX11_renderList_16 : decode cX11_renderList 16 = .ok (.iconst 0, 1) := by decide +kernel
theorem dX11_renderList_17 : decode cX11_renderList 17 = .ok (.istore_n 2, 1) := by decide +kernel
theorem dX11_renderList_18 : decode cX11_renderList 18 = .ok (.iload_n 2, 1) := by decide +kernel
theorem dX11_renderList_19 : decode cX11_renderList 19 = .ok (.aload_n 1, 1) := by decide +kernel
theorem dX11_renderList_20 : decode cX11_renderList 20 = .ok (.getfield 134, 3) := by decide +kernel
theorem dX11_renderList_23 : decode cX11_renderList 23 = .ok (.if_icmp .ge 61, 3) := by decide +kernel
theorem dX11_renderList_26 : decode cX11_renderList 26 = .ok (.iload_n 2, 1) := by decide +kernel
theorem dX11_renderList_27 : decode cX11_renderList 27 = .ok (.ifCond .le 13, 3) := by decide +kernel
theorem dX11_renderList_30 : decode cX11_renderList 30 = .ok (.aload_n 0, 1) := by decide +kernel
theorem dX11_renderList_31 : decode cX11_renderList 31 = .ok (.getfield 46, 3) := by decide +kernel
theorem dX11_renderList_34 : decode cX11_renderList 34 = .ok (.bipush 44, 2) := by decide +kernel
theorem dX11_renderList_36 : decode cX11_renderList 36 = .ok (.invokevirtual 341, 3) := by decide +kernel
theorem dX11_renderList_39 : decode cX11_renderList 39 = .ok (.pop, 1) := by decide +kernel
theorem dX11_renderList_40 : decode cX11_renderList 40 = .ok (.aload_n 0, 1) := by decide +kernel
theorem dX11_renderList_41 : decode cX11_renderList 41 = .ok (.getfield 46, 3) := by decide +kernel
theorem dX11_renderList_44 : decode cX11_renderList 44 = .ok (.aload_n 1, 1) := by decide +kernel
theorem dX11_renderList_45 : decode cX11_renderList 45 = .ok (.getfield 140, 3) := by decide +kernel
theorem dX11_renderList_48 : decode cX11_renderList 48 = .ok (.iload_n 2, 1) := by decide +kernel
theorem dX11_renderList_49 : decode cX11_renderList 49 = .ok (.iaload, 1) := by decide +kernel
theorem dX11_renderList_50 : decode cX11_renderList 50 = .ok (.invokevirtual 348, 3) := by decide +kernel
theorem dX11_renderList_53 : decode cX11_renderList 53 = .ok (.pop, 1) := by decide +kernel
theorem dX11_renderList_54 : decode cX11_renderList 54 = .ok (.aload_n 0, 1) := by decide +kernel
theorem dX11_renderList_55 : decode cX11_renderList 55 = .ok (.getfield 46, 3) := by decide +kernel
theorem dX11_renderList_58 : decode cX11_renderList 58 = .ok (.bipush 64, 2) := by decide +kernel
theorem dX11_renderList_60 : decode cX11_renderList 60 = .ok (.invokevirtual 341, 3) := by decide +kernel
theorem dX11_renderList_63 : decode cX11_renderList 63 = .ok (.pop, 1) := by decide +kernel
theorem dX11_renderList_64 : decode cX11_renderList 64 = .ok (.aload_n 0, 1) := by decide +kernel
theorem dX11_renderList_65 : decode cX11_renderList 65 = .ok (.getfield 46, 3) := by decide +kernel
theorem dX11_renderList_68 : decode cX11_renderList 68 = .ok (.aload_n 1, 1) := by decide +kernel
theorem dX11_renderList_69 : decode cX11_renderList 69 = .ok (.getfield 354, 3) := by decide +kernel
theorem dX11_renderList_72 : decode cX11_renderList 72 = .ok (.iload_n 2, 1) := by decide +kernel
theorem dX11_renderList_73 : decode cX11_renderList 73 = .ok (.iaload, 1) := by decide +kernel
theorem dX11_renderList_74 : decode cX11_renderList 74 = .ok (.invokevirtual 348, 3) := by decide +kernel
theorem dX11_renderList_77 : decode cX11_renderList 77 = .ok (.pop, 1) := by decide +kernel
theorem dX11_renderList_78 : decode cX11_renderList 78 = .ok (.iinc 2 1, 3) := by decide +kernel
theorem dX11_renderList_81 : decode cX11_renderList 81 = .ok (.goto (-63), 3) := by decide +kernel
theorem dX11_renderList_84 : decode cX11_renderList 84 = .ok (.aload_n 0, 1) := by decide +kernel
theorem dX11_renderList_85 : decode cX11_renderList 85 = .ok (.getfield 46, 3) := by decide +kernel
theorem dX11_renderList_88 : decode cX11_renderList 88 = .ok (.invokevirtual 351, 3) := by decide +kernel
theorem dX11_renderList_91 : decode cX11_renderList 91 = .ok (.ireturn, 1) := by decide +kernel
theorem dX11_outputAt_0 : decode cX11_outputAt 0 = .ok (.iload_n 1, 1) := by decide +kernel
theorem dX11_outputAt_1 : decode cX11_outputAt 1 = .ok (.ifCond .lt 14, 3) := by decide +kernel
theorem dX11_outputAt_4 : decode cX11_outputAt 4 = .ok (.iload_n 1, 1) := by decide +kernel
theorem dX11_outputAt_5 : decode cX11_outputAt 5 = .ok (.aload_n 0, 1) := by decide +kernel
theorem dX11_outputAt_6 : decode cX11_outputAt 6 = .ok (.getfield 46, 3) := by decide +kernel
theorem dX11_outputAt_9 : decode cX11_outputAt 9 = .ok (.invokevirtual 351, 3) := by decide +kernel
theorem dX11_outputAt_12 : decode cX11_outputAt 12 = .ok (.if_icmp .lt 14, 3) := by decide +kernel
theorem dX11_outputAt_15 : decode cX11_outputAt 15 = .ok (.new 357, 3) := by decide +kernel
theorem dX11_outputAt_18 : decode cX11_outputAt 18 = .ok (.dup, 1) := by decide +kernel
theorem dX11_outputAt_19 : decode cX11_outputAt 19 = .ok (.ldc_w 359, 3) := by decide +kernel
theorem dX11_outputAt_22 : decode cX11_outputAt 22 = .ok (.invokespecial 361, 3) := by decide +kernel
theorem dX11_outputAt_25 : decode cX11_outputAt 25 = .ok (.athrow, 1) := by decide +kernel
theorem dX11_outputAt_26 : decode cX11_outputAt 26 = .ok (.aload_n 0, 1) := by decide +kernel
theorem dX11_outputAt_27 : decode cX11_outputAt 27 = .ok (.getfield 46, 3) := by decide +kernel
theorem dX11_outputAt_30 : decode cX11_outputAt 30 = .ok (.iload_n 1, 1) := by decide +kernel
theorem dX11_outputAt_31 : decode cX11_outputAt 31 = .ok (.invokevirtual 362, 3) := by decide +kernel
theorem dX11_outputAt_34 : decode cX11_outputAt 34 = .ok (.ireturn, 1) := by decide +kernel
theorem dX11_type_0 : decode cX11_type 0 = .ok (.iload_n 1, 1) := by decide +kernel
theorem dX11_type_1 : decode cX11_type 1 = .ok (.bipush 32, 2) := by decide +kernel
theorem dX11_type_3 : decode cX11_type 3 = .ok (.if_icmp .lt 9, 3) := by decide +kernel
theorem dX11_type_6 : decode cX11_type 6 = .ok (.iload_n 1, 1) := by decide +kernel
theorem dX11_type_7 : decode cX11_type 7 = .ok (.bipush 126, 2) := by decide +kernel
theorem dX11_type_9 : decode cX11_type 9 = .ok (.if_icmp .le 14, 3) := by decide +kernel
theorem dX11_type_12 : decode cX11_type 12 = .ok (.new 192, 3) := by decide +kernel
theorem dX11_type_15 : decode cX11_type 15 = .ok (.dup, 1) := by decide +kernel
theorem dX11_type_16 : decode cX11_type 16 = .ok (.ldc_w 365, 3) := by decide +kernel
theorem dX11_type_19 : decode cX11_type 19 = .ok (.invokespecial 196, 3) := by decide +kernel
theorem dX11_type_22 : decode cX11_type 22 = .ok (.athrow, 1) := by decide +kernel
theorem dX11_type_23 : decode cX11_type 23 = .ok (.aload_n 0, 1) := by decide +kernel
theorem dX11_type_24 : decode cX11_type 24 = .ok (.getfield 39, 3) := by decide +kernel
theorem dX11_type_27 : decode cX11_type 27 = .ok (.invokevirtual 367, 3) := by decide +kernel
theorem dX11_type_30 : decode cX11_type 30 = .ok (.ifCond .eq 14, 3) := by decide +kernel
theorem dX11_type_33 : decode cX11_type 33 = .ok (.new 370, 3) := by decide +kernel
theorem dX11_type_36 : decode cX11_type 36 = .ok (.dup, 1) := by decide +kernel
theorem dX11_type_37 : decode cX11_type 37 = .ok (.ldc_w 372, 3) := by decide +kernel
theorem dX11_type_40 : decode cX11_type 40 = .ok (.invokespecial 374, 3) := by decide +kernel
theorem dX11_type_43 : decode cX11_type 43 = .ok (.athrow, 1) := by decide +kernel
theorem dX11_type_44 : decode cX11_type 44 = .ok (.aload_n 0, 1) := by decide +kernel
theorem dX11_type_45 : decode cX11_type 45 = .ok (.getfield 39, 3) := by decide +kernel
theorem dX11_type_48 : decode cX11_type 48 = .ok (.iload_n 1, 1) := by decide +kernel
theorem dX11_type_49 : decode cX11_type 49 = .ok (.invokevirtual 375, 3) := by decide +kernel
theorem dX11_type_52 : decode cX11_type 52 = .ok (.ireturn, 1) := by decide +kernel
theorem dX11_runScript_0 : decode cX11_runScript 0 = .ok (.aload_n 0, 1) := by decide +kernel
theorem dX11_runScript_1 : decode cX11_runScript 1 = .ok (.getfield 39, 3) := by decide +kernel
theorem dX11_runScript_4 : decode cX11_runScript 4 = .ok (.invokevirtual 379, 3) := by decide +kernel
theorem dX11_runScript_7 : decode cX11_runScript 7 = .ok (.istore_n 1, 1) := by decide +kernel
theorem dX11_runScript_8 : decode cX11_runScript 8 = .ok (.aload_n 0, 1) := by decide +kernel
theorem dX11_runScript_9 : decode cX11_runScript 9 = .ok (.getfield 39, 3) := by decide +kernel
theorem dX11_runScript_12 : decode cX11_runScript 12 = .ok (.invokevirtual 382, 3) := by decide +kernel
theorem dX11_runScript_15 : decode cX11_runScript 15 = .ok (.iload_n 1, 1) := by decide +kernel
theorem dX11_runScript_16 : decode cX11_runScript 16 = .ok (.iconst (-1), 1) := by decide +kernel
theorem dX11_runScript_17 : decode cX11_runScript 17 = .ok (.if_icmp .eq 19, 3) := by decide +kernel
theorem dX11_runScript_20 : decode cX11_runScript 20 = .ok (.aload_n 0, 1) := by decide +kernel
theorem dX11_runScript_21 : decode cX11_runScript 21 = .ok (.iload_n 1, 1) := by decide +kernel
theorem dX11_runScript_22 : decode cX11_runScript 22 = .ok (.putfield 54, 3) := by decide +kernel
theorem dX11_runScript_25 : decode cX11_runScript 25 = .ok (.new 192, 3) := by decide +kernel
theorem dX11_runScript_28 : decode cX11_runScript 28 = .ok (.dup, 1) := by decide +kernel
theorem dX11_runScript_29 : decode cX11_runScript 29 = .ok (.ldc_w 385, 3) := by decide +kernel
theorem dX11_runScript_32 : decode cX11_runScript 32 = .ok (.invokespecial 196, 3) := by decide +kernel
theorem dX11_runScript_35 : decode cX11_runScript 35 = .ok (.athrow, 1) := by decide +kernel
theorem dX11_runScript_36 : decode cX11_runScript 36 = .ok (.aload_n 0, 1) := by decide +kernel
theorem dX11_runScript_37 : decode cX11_runScript 37 = .ok (.invokevirtual 387, 3) := by decide +kernel
theorem dX11_runScript_40 : decode cX11_runScript 40 = .ok (.istore_n 2, 1) := by decide +kernel
theorem dX11_runScript_41 : decode cX11_runScript 41 = .ok (.iload_n 2, 1) := by decide +kernel
theorem dX11_runScript_42 : decode cX11_runScript 42 = .ok (.iconst (-1), 1) := by decide +kernel
theorem dX11_runScript_43 : decode cX11_runScript 43 = .ok (.if_icmp .eq 19, 3) := by decide +kernel
theorem dX11_runScript_46 : decode cX11_runScript 46 = .ok (.aload_n 0, 1) := by decide +kernel
theorem dX11_runScript_47 : decode cX11_runScript 47 = .ok (.iload_n 2, 1) := by decide +kernel
theorem dX11_runScript_48 : decode cX11_runScript 48 = .ok (.putfield 58, 3) := by decide +kernel
theorem dX11_runScript_51 : decode cX11_runScript 51 = .ok (.new 370, 3) := by decide +kernel
theorem dX11_runScript_54 : decode cX11_runScript 54 = .ok (.dup, 1) := by decide +kernel
theorem dX11_runScript_55 : decode cX11_runScript 55 = .ok (.ldc_w 390, 3) := by decide +kernel
theorem dX11_runScript_58 : decode cX11_runScript 58 = .ok (.invokespecial 374, 3) := by decide +kernel
theorem dX11_runScript_61 : decode cX11_runScript 61 = .ok (.athrow, 1) := by decide +kernel
theorem dX11_runScript_62 : decode cX11_runScript 62 = .ok (.aload_n 0, 1) := by decide +kernel
theorem dX11_runScript_63 : decode cX11_runScript 63 = .ok (.getfield 25, 3) := by decide +kernel
theorem dX11_runScript_66 : decode cX11_runScript 66 = .ok (.aload_n 0, 1) := by decide +kernel
theorem dX11_runScript_67 : decode cX11_runScript 67 = .ok (.getfield 10, 3) := by decide +kernel
theorem dX11_runScript_70 : decode cX11_runScript 70 = .ok (.invokevirtual 392, 3) := by decide +kernel
theorem dX11_runScript_73 : decode cX11_runScript 73 = .ok (.aload_n 0, 1) := by decide +kernel
theorem dX11_runScript_74 : decode cX11_runScript 74 = .ok (.getfield 10, 3) := by decide +kernel
theorem dX11_runScript_77 : decode cX11_runScript 77 = .ok (.aload_n 0, 1) := by decide +kernel
theorem dX11_runScript_78 : decode cX11_runScript 78 = .ok (.getfield 16, 3) := by decide +kernel
theorem dX11_runScript_81 : decode cX11_runScript 81 = .ok (.invokevirtual 395, 3) := by decide +kernel
theorem dX11_runScript_84 : decode cX11_runScript 84 = .ok (.aload_n 0, 1) := by decide +kernel
theorem dX11_runScript_85 : decode cX11_runScript 85 = .ok (.getfield 39, 3) := by decide +kernel
theorem dX11_runScript_88 : decode cX11_runScript 88 = .ok (.getfield 398, 3) := by decide +kernel
theorem dX11_runScript_91 : decode cX11_runScript 91 = .ok (.ireturn, 1) := by decide +kernel
theorem dX11_errorPosition_0 : decode cX11_errorPosition 0 = .ok (.aload_n 0, 1) := by decide +kernel
theorem dX11_errorPosition_1 : decode cX11_errorPosition 1 = .ok (.getfield 54, 3) := by decide +kernel
theorem dX11_errorPosition_4 : decode cX11_errorPosition 4 = .ok (.iconst (-1), 1) := by decide +kernel
theorem dX11_errorPosition_5 : decode cX11_errorPosition 5 = .ok (.if_icmp .ne 14, 3) := by decide +kernel
theorem dX11_errorPosition_8 : decode cX11_errorPosition 8 = .ok (.new 157, 3) := by decide +kernel
theorem dX11_errorPosition_11 : decode cX11_errorPosition 11 = .ok (.dup, 1) := by decide +kernel
theorem dX11_errorPosition_12 : decode cX11_errorPosition 12 = .ok (.ldc_w 401, 3) := by decide +kernel
theorem dX11_errorPosition_15 : decode cX11_errorPosition 15 = .ok (.invokespecial 161, 3) := by decide +kernel
theorem dX11_errorPosition_18 : decode cX11_errorPosition 18 = .ok (.athrow, 1) := by decide +kernel
theorem dX11_errorPosition_19 : decode cX11_errorPosition 19 = .ok (.aload_n 0, 1) := by decide +kernel
theorem dX11_errorPosition_20 : decode cX11_errorPosition 20 = .ok (.getfield 54, 3) := by decide +kernel
theorem dX11_errorPosition_23 : decode cX11_errorPosition 23 = .ok (.ireturn, 1) := by decide +kernel
theorem dX11_failedCommand_0 : decode cX11_failedCommand 0 = .ok (.aload_n 0, 1) := by decide +kernel
theorem dX11_failedCommand_1 : decode cX11_failedCommand 1 = .ok (.getfield 58, 3) := by decide +kernel
theorem dX11_failedCommand_4 : decode cX11_failedCommand 4 = .ok (.iconst (-1), 1) := by decide +kernel
theorem dX11_failedCommand_5 : decode cX11_failedCommand 5 = .ok (.if_icmp .ne 14, 3) := by decide +kernel
theorem dX11_failedCommand_8 : decode cX11_failedCommand 8 = .ok (.new 157, 3) := by decide +kernel
theorem dX11_failedCommand_11 : decode cX11_failedCommand 11 = .ok (.dup, 1) := by decide +kernel
theorem dX11_failedCommand_12 : decode cX11_failedCommand 12 = .ok (.ldc_w 403, 3) := by decide +kernel
theorem dX11_failedCommand_15 : decode cX11_failedCommand 15 = .ok (.invokespecial 161, 3) := by decide +kernel
theorem dX11_failedCommand_18 : decode cX11_failedCommand 18 = .ok (.athrow, 1) := by decide +kernel
theorem dX11_failedCommand_19 : decode cX11_failedCommand 19 = .ok (.aload_n 0, 1) := by decide +kernel
theorem dX11_failedCommand_20 : decode cX11_failedCommand 20 = .ok (.getfield 58, 3) := by decide +kernel
theorem dX11_failedCommand_23 : decode cX11_failedCommand 23 = .ok (.ireturn, 1) := by decide +kernel
theorem dX11_undo_0 : decode cX11_undo 0 = .ok (.aload_n 0, 1) := by decide +kernel
theorem dX11_undo_1 : decode cX11_undo 1 = .ok (.getfield 25, 3) := by decide +kernel
theorem dX11_undo_4 : decode cX11_undo 4 = .ok (.getfield 405, 3) := by decide +kernel
theorem dX11_undo_7 : decode cX11_undo 7 = .ok (.ifCond .ne 14, 3) := by decide +kernel
theorem dX11_undo_10 : decode cX11_undo 10 = .ok (.new 370, 3) := by decide +kernel
theorem dX11_undo_13 : decode cX11_undo 13 = .ok (.dup, 1) := by decide +kernel
theorem dX11_undo_14 : decode cX11_undo 14 = .ok (.ldc_w 406, 3) := by decide +kernel
theorem dX11_undo_17 : decode cX11_undo 17 = .ok (.invokespecial 374, 3) := by decide +kernel
theorem dX11_undo_20 : decode cX11_undo 20 = .ok (.athrow, 1) := by decide +kernel
theorem dX11_undo_21 : decode cX11_undo 21 = .ok (.aload_n 0, 1) := by decide +kernel
theorem dX11_undo_22 : decode cX11_undo 22 = .ok (.getfield 25, 3) := by decide +kernel
theorem dX11_undo_25 : decode cX11_undo 25 = .ok (.aload_n 0, 1) := by decide +kernel
theorem dX11_undo_26 : decode cX11_undo 26 = .ok (.getfield 10, 3) := by decide +kernel
theorem dX11_undo_29 : decode cX11_undo 29 = .ok (.invokevirtual 408, 3) := by decide +kernel
theorem dX11_undo_32 : decode cX11_undo 32 = .ok (.aload_n 0, 1) := by decide +kernel
theorem dX11_undo_33 : decode cX11_undo 33 = .ok (.getfield 25, 3) := by decide +kernel
theorem dX11_undo_36 : decode cX11_undo 36 = .ok (.getfield 405, 3) := by decide +kernel
theorem dX11_undo_39 : decode cX11_undo 39 = .ok (.ireturn, 1) := by decide +kernel
theorem dX11_save_0 : decode cX11_save 0 = .ok (.aload_n 0, 1) := by decide +kernel
theorem dX11_save_1 : decode cX11_save 1 = .ok (.getfield 19, 3) := by decide +kernel
theorem dX11_save_4 : decode cX11_save 4 = .ok (.aload_n 0, 1) := by decide +kernel
theorem dX11_save_5 : decode cX11_save 5 = .ok (.getfield 10, 3) := by decide +kernel
theorem dX11_save_8 : decode cX11_save 8 = .ok (.invokevirtual 395, 3) := by decide +kernel
theorem dX11_save_11 : decode cX11_save 11 = .ok (.aload_n 0, 1) := by decide +kernel
theorem dX11_save_12 : decode cX11_save 12 = .ok (.iconst 1, 1) := by decide +kernel
theorem dX11_save_13 : decode cX11_save 13 = .ok (.putfield 50, 3) := by decide +kernel
theorem dX11_save_16 : decode cX11_save 16 = .ok (.aload_n 0, 1) := by decide +kernel
theorem dX11_save_17 : decode cX11_save 17 = .ok (.getfield 10, 3) := by decide +kernel
theorem dX11_save_20 : decode cX11_save 20 = .ok (.getfield 104, 3) := by decide +kernel
theorem dX11_save_23 : decode cX11_save 23 = .ok (.getfield 108, 3) := by decide +kernel
theorem dX11_save_26 : decode cX11_save 26 = .ok (.ireturn, 1) := by decide +kernel
theorem dX11_restore_0 : decode cX11_restore 0 = .ok (.aload_n 0, 1) := by decide +kernel
theorem dX11_restore_1 : decode cX11_restore 1 = .ok (.getfield 50, 3) := by decide +kernel
theorem dX11_restore_4 : decode cX11_restore 4 = .ok (.ifCond .ne 14, 3) := by decide +kernel
theorem dX11_restore_7 : decode cX11_restore 7 = .ok (.new 370, 3) := by decide +kernel
theorem dX11_restore_10 : decode cX11_restore 10 = .ok (.dup, 1) := by decide +kernel
theorem dX11_restore_11 : decode cX11_restore 11 = .ok (.ldc_w 411, 3) := by decide +kernel
theorem dX11_restore_14 : decode cX11_restore 14 = .ok (.invokespecial 374, 3) := by decide +kernel
theorem dX11_restore_17 : decode cX11_restore 17 = .ok (.athrow, 1) := by decide +kernel
theorem dX11_restore_18 : decode cX11_restore 18 = .ok (.aload_n 0, 1) := by decide +kernel
theorem dX11_restore_19 : decode cX11_restore 19 = .ok (.getfield 10, 3) := by decide +kernel
theorem dX11_restore_22 : decode cX11_restore 22 = .ok (.aload_n 0, 1) := by decide +kernel
theorem dX11_restore_23 : decode cX11_restore 23 = .ok (.getfield 19, 3) := by decide +kernel
theorem dX11_restore_26 : decode cX11_restore 26 = .ok (.invokevirtual 395, 3) := by decide +kernel
theorem dX11_restore_29 : decode cX11_restore 29 = .ok (.aload_n 0, 1) := by decide +kernel
theorem dX11_restore_30 : decode cX11_restore 30 = .ok (.getfield 25, 3) := by decide +kernel
theorem dX11_restore_33 : decode cX11_restore 33 = .ok (.invokevirtual 413, 3) := by decide +kernel
theorem dX11_restore_36 : decode cX11_restore 36 = .ok (.aload_n 0, 1) := by decide +kernel
theorem dX11_restore_37 : decode cX11_restore 37 = .ok (.getfield 10, 3) := by decide +kernel
theorem dX11_restore_40 : decode cX11_restore 40 = .ok (.getfield 104, 3) := by decide +kernel
theorem dX11_restore_43 : decode cX11_restore 43 = .ok (.getfield 108, 3) := by decide +kernel
theorem dX11_restore_46 : decode cX11_restore 46 = .ok (.ireturn, 1) := by decide +kernel
theorem dX11_change_0 : decode cX11_change 0 = .ok (.aload_n 0, 1) := by decide +kernel
theorem dX11_change_1 : decode cX11_change 1 = .ok (.getfield 10, 3) := by decide +kernel
theorem dX11_change_4 : decode cX11_change 4 = .ok (.aload_n 1, 1) := by decide +kernel
theorem dX11_change_5 : decode cX11_change 5 = .ok (.iload_n 2, 1) := by decide +kernel
theorem dX11_change_6 : decode cX11_change 6 = .ok (.iload_n 3, 1) := by decide +kernel
theorem dX11_change_7 : decode cX11_change 7 = .ok (.iload 4, 2) := by decide +kernel
theorem dX11_change_9 : decode cX11_change 9 = .ok (.invokevirtual 416, 3) := by decide +kernel
theorem dX11_change_12 : decode cX11_change 12 = .ok (.invokestatic 420, 3) := by decide +kernel
theorem dX11_change_15 : decode cX11_change 15 = .ok (.aload_n 0, 1) := by decide +kernel
theorem dX11_change_16 : decode cX11_change 16 = .ok (.getfield 25, 3) := by decide +kernel
theorem dX11_change_19 : decode cX11_change 19 = .ok (.aload_n 0, 1) := by decide +kernel
theorem dX11_change_20 : decode cX11_change 20 = .ok (.getfield 10, 3) := by decide +kernel
theorem dX11_change_23 : decode cX11_change 23 = .ok (.invokevirtual 392, 3) := by decide +kernel
theorem dX11_change_26 : decode cX11_change 26 = .ok (.aload_n 0, 1) := by decide +kernel
theorem dX11_change_27 : decode cX11_change 27 = .ok (.getfield 10, 3) := by decide +kernel
theorem dX11_change_30 : decode cX11_change 30 = .ok (.aload_n 1, 1) := by decide +kernel
theorem dX11_change_31 : decode cX11_change 31 = .ok (.iload_n 2, 1) := by decide +kernel
theorem dX11_change_32 : decode cX11_change 32 = .ok (.iload_n 3, 1) := by decide +kernel
theorem dX11_change_33 : decode cX11_change 33 = .ok (.iload 4, 2) := by decide +kernel
theorem dX11_change_35 : decode cX11_change 35 = .ok (.invokevirtual 424, 3) := by decide +kernel
theorem dX11_change_38 : decode cX11_change 38 = .ok (.ireturn, 1) := by decide +kernel
theorem dX11_throwIfRefused_0 : decode cX11_throwIfRefused 0 = .ok (.aload_n 0, 1) := by decide +kernel
theorem dX11_throwIfRefused_1 : decode cX11_throwIfRefused 1 = .ok (.getstatic 427, 3) := by decide +kernel
theorem dX11_throwIfRefused_4 : decode cX11_throwIfRefused 4 = .ok (.if_acmp .ne 14, 3) := by decide +kernel
theorem dX11_throwIfRefused_7 : decode cX11_throwIfRefused 7 = .ok (.new 192, 3) := by decide +kernel
theorem dX11_throwIfRefused_10 : decode cX11_throwIfRefused 10 = .ok (.dup, 1) := by decide +kernel
theorem dX11_throwIfRefused_11 : decode cX11_throwIfRefused 11 = .ok (.ldc_w 433, 3) := by decide +kernel
theorem dX11_throwIfRefused_14 : decode cX11_throwIfRefused 14 = .ok (.invokespecial 196, 3) := by decide +kernel
theorem dX11_throwIfRefused_17 : decode cX11_throwIfRefused 17 = .ok (.athrow, 1) := by decide +kernel
theorem dX11_throwIfRefused_18 : decode cX11_throwIfRefused 18 = .ok (.aload_n 0, 1) := by decide +kernel
theorem dX11_throwIfRefused_19 : decode cX11_throwIfRefused 19 = .ok (.getstatic 435, 3) := by decide +kernel
theorem dX11_throwIfRefused_22 : decode cX11_throwIfRefused 22 = .ok (.if_acmp .ne 14, 3) := by decide +kernel
theorem dX11_throwIfRefused_25 : decode cX11_throwIfRefused 25 = .ok (.new 370, 3) := by decide +kernel
theorem dX11_throwIfRefused_28 : decode cX11_throwIfRefused 28 = .ok (.dup, 1) := by decide +kernel
theorem dX11_throwIfRefused_29 : decode cX11_throwIfRefused 29 = .ok (.ldc_w 438, 3) := by decide +kernel
theorem dX11_throwIfRefused_32 : decode cX11_throwIfRefused 32 = .ok (.invokespecial 374, 3) := by decide +kernel
theorem dX11_throwIfRefused_35 : decode cX11_throwIfRefused 35 = .ok (.athrow, 1) := by decide +kernel
theorem dX11_throwIfRefused_36 : decode cX11_throwIfRefused 36 = .ok (.aload_n 0, 1) := by decide +kernel
theorem dX11_throwIfRefused_37 : decode cX11_throwIfRefused 37 = .ok (.getstatic 440, 3) := by decide +kernel
theorem dX11_throwIfRefused_40 : decode cX11_throwIfRefused 40 = .ok (.if_acmp .ne 14, 3) := by decide +kernel
theorem dX11_throwIfRefused_43 : decode cX11_throwIfRefused 43 = .ok (.new 357, 3) := by decide +kernel
theorem dX11_throwIfRefused_46 : decode cX11_throwIfRefused 46 = .ok (.dup, 1) := by decide +kernel
theorem dX11_throwIfRefused_47 : decode cX11_throwIfRefused 47 = .ok (.ldc_w 443, 3) := by decide +kernel
theorem dX11_throwIfRefused_50 : decode cX11_throwIfRefused 50 = .ok (.invokespecial 361, 3) := by decide +kernel
theorem dX11_throwIfRefused_53 : decode cX11_throwIfRefused 53 = .ok (.athrow, 1) := by decide +kernel
theorem dX11_throwIfRefused_54 : decode cX11_throwIfRefused 54 = .ok (.aload_n 0, 1) := by decide +kernel
theorem dX11_throwIfRefused_55 : decode cX11_throwIfRefused 55 = .ok (.getstatic 445, 3) := by decide +kernel
theorem dX11_throwIfRefused_58 : decode cX11_throwIfRefused 58 = .ok (.if_acmp .ne 14, 3) := by decide +kernel
theorem dX11_throwIfRefused_61 : decode cX11_throwIfRefused 61 = .ok (.new 157, 3) := by decide +kernel
theorem dX11_throwIfRefused_64 : decode cX11_throwIfRefused 64 = .ok (.dup, 1) := by decide +kernel
theorem dX11_throwIfRefused_65 : decode cX11_throwIfRefused 65 = .ok (.ldc_w 448, 3) := by decide +kernel
theorem dX11_throwIfRefused_68 : decode cX11_throwIfRefused 68 = .ok (.invokespecial 161, 3) := by decide +kernel
theorem dX11_throwIfRefused_71 : decode cX11_throwIfRefused 71 = .ok (.athrow, 1) := by decide +kernel
theorem dX11_throwIfRefused_72 : decode cX11_throwIfRefused 72 = .ok (.aload_n 0, 1) := by decide +kernel
theorem dX11_throwIfRefused_73 : decode cX11_throwIfRefused 73 = .ok (.getstatic 450, 3) := by decide +kernel
theorem dX11_throwIfRefused_76 : decode cX11_throwIfRefused 76 = .ok (.if_acmp .ne 14, 3) := by decide +kernel
theorem dX11_throwIfRefused_79 : decode cX11_throwIfRefused 79 = .ok (.new 453, 3) := by decide +kernel
theorem dX11_throwIfRefused_82 : decode cX11_throwIfRefused 82 = .ok (.dup, 1) := by decide +kernel
theorem dX11_throwIfRefused_83 : decode cX11_throwIfRefused 83 = .ok (.ldc_w 455, 3) := by decide +kernel
theorem dX11_throwIfRefused_86 : decode cX11_throwIfRefused 86 = .ok (.invokespecial 457, 3) := by decide +kernel
theorem dX11_throwIfRefused_89 : decode cX11_throwIfRefused 89 = .ok (.athrow, 1) := by decide +kernel
theorem dX11_throwIfRefused_90 : decode cX11_throwIfRefused 90 = .ok (.return_, 1) := by decide +kernel
theorem dX11_firstFailureOnDraft_0 : decode cX11_firstFailureOnDraft 0 = .ok (.aload_n 0, 1) := by decide +kernel
theorem dX11_firstFailureOnDraft_1 : decode cX11_firstFailureOnDraft 1 = .ok (.getfield 16, 3) := by decide +kernel
theorem dX11_firstFailureOnDraft_4 : decode cX11_firstFailureOnDraft 4 = .ok (.aload_n 0, 1) := by decide +kernel
theorem dX11_firstFailureOnDraft_5 : decode cX11_firstFailureOnDraft 5 = .ok (.getfield 10, 3) := by decide +kernel
theorem dX11_firstFailureOnDraft_8 : decode cX11_firstFailureOnDraft 8 = .ok (.invokevirtual 395, 3) := by decide +kernel
theorem dX11_firstFailureOnDraft_11 : decode cX11_firstFailureOnDraft 11 = .ok (.iconst 0, 1) := by decide +kernel
theorem dX11_firstFailureOnDraft_12 : decode cX11_firstFailureOnDraft 12 = .ok (.istore_n 1, 1) := by decide +kernel
theorem dX11_firstFailureOnDraft_13 : decode cX11_firstFailureOnDraft 13 = .ok (.iload_n 1, 1) := by decide +kernel
theorem dX11_firstFailureOnDraft_14 : decode cX11_firstFailureOnDraft 14 = .ok (.aload_n 0, 1) := by decide +kernel
theorem dX11_firstFailureOnDraft_15 : decode cX11_firstFailureOnDraft 15 = .ok (.getfield 39, 3) := by decide +kernel
theorem dX11_firstFailureOnDraft_18 : decode cX11_firstFailureOnDraft 18 = .ok (.getfield 398, 3) := by decide +kernel
theorem dX11_firstFailureOnDraft_21 : decode cX11_firstFailureOnDraft 21 = .ok (.if_icmp .ge 85, 3) := by decide +kernel
theorem dX11_firstFailureOnDraft_24 : decode cX11_firstFailureOnDraft 24 = .ok (.aload_n 0, 1) := by decide +kernel
theorem dX11_firstFailureOnDraft_25 : decode cX11_firstFailureOnDraft 25 = .ok (.getfield 39, 3) := by decide +kernel
theorem dX11_firstFailureOnDraft_28 : decode cX11_firstFailureOnDraft 28 = .ok (.iload_n 1, 1) := by decide +kernel
theorem dX11_firstFailureOnDraft_29 : decode cX11_firstFailureOnDraft 29 = .ok (.invokevirtual 458, 3) := by decide +kernel
theorem dX11_firstFailureOnDraft_32 : decode cX11_firstFailureOnDraft 32 = .ok (.astore_n 2, 1) := by decide +kernel
theorem dX11_firstFailureOnDraft_33 : decode cX11_firstFailureOnDraft 33 = .ok (.aload_n 0, 1) := by decide +kernel
theorem dX11_firstFailureOnDraft_34 : decode cX11_firstFailureOnDraft 34 = .ok (.getfield 39, 3) := by decide +kernel
theorem dX11_firstFailureOnDraft_37 : decode cX11_firstFailureOnDraft 37 = .ok (.iload_n 1, 1) := by decide +kernel
theorem dX11_firstFailureOnDraft_38 : decode cX11_firstFailureOnDraft 38 = .ok (.iconst 0, 1) := by decide +kernel
theorem dX11_firstFailureOnDraft_39 : decode cX11_firstFailureOnDraft 39 = .ok (.invokevirtual 462, 3) := by decide +kernel
theorem dX11_firstFailureOnDraft_42 : decode cX11_firstFailureOnDraft 42 = .ok (.istore_n 3, 1) := by decide +kernel
theorem dX11_firstFailureOnDraft_43 : decode cX11_firstFailureOnDraft 43 = .ok (.aload_n 0, 1) := by decide +kernel
theorem dX11_firstFailureOnDraft_44 : decode cX11_firstFailureOnDraft 44 = .ok (.getfield 39, 3) := by decide +kernel
theorem dX11_firstFailureOnDraft_47 : decode cX11_firstFailureOnDraft 47 = .ok (.iload_n 1, 1) := by decide +kernel
theorem dX11_firstFailureOnDraft_48 : decode cX11_firstFailureOnDraft 48 = .ok (.iconst 1, 1) := by decide +kernel
theorem dX11_firstFailureOnDraft_49 : decode cX11_firstFailureOnDraft 49 = .ok (.invokevirtual 462, 3) := by decide +kernel
theorem dX11_firstFailureOnDraft_52 : decode cX11_firstFailureOnDraft 52 = .ok (.istore 4, 2) := by decide +kernel
theorem dX11_firstFailureOnDraft_54 : decode cX11_firstFailureOnDraft 54 = .ok (.aload_n 0, 1) := by decide +kernel
theorem dX11_firstFailureOnDraft_55 : decode cX11_firstFailureOnDraft 55 = .ok (.getfield 39, 3) := by decide +kernel
theorem dX11_firstFailureOnDraft_58 : decode cX11_firstFailureOnDraft 58 = .ok (.iload_n 1, 1) := by decide +kernel
theorem dX11_firstFailureOnDraft_59 : decode cX11_firstFailureOnDraft 59 = .ok (.iconst 2, 1) := by decide +kernel
theorem dX11_firstFailureOnDraft_60 : decode cX11_firstFailureOnDraft 60 = .ok (.invokevirtual 462, 3) := by decide +kernel
theorem dX11_firstFailureOnDraft_63 : decode cX11_firstFailureOnDraft 63 = .ok (.istore 5, 2) := by decide +kernel
theorem dX11_firstFailureOnDraft_65 : decode cX11_firstFailureOnDraft 65 = .ok (.aload_n 0, 1) := by decide +kernel
theorem dX11_firstFailureOnDraft_66 : decode cX11_firstFailureOnDraft 66 = .ok (.getfield 16, 3) := by decide +kernel
theorem dX11_firstFailureOnDraft_69 : decode cX11_firstFailureOnDraft 69 = .ok (.aload_n 2, 1) := by decide +kernel
theorem dX11_firstFailureOnDraft_70 : decode cX11_firstFailureOnDraft 70 = .ok (.iload_n 3, 1) := by decide +kernel
theorem dX11_firstFailureOnDraft_71 : decode cX11_firstFailureOnDraft 71 = .ok (.iload 4, 2) := by decide +kernel
theorem dX11_firstFailureOnDraft_73 : decode cX11_firstFailureOnDraft 73 = .ok (.iload 5, 2) := by decide +kernel
theorem dX11_firstFailureOnDraft_75 : decode cX11_firstFailureOnDraft 75 = .ok (.invokevirtual 416, 3) := by decide +kernel
theorem dX11_firstFailureOnDraft_78 : decode cX11_firstFailureOnDraft 78 = .ok (.getstatic 465, 3) := by decide +kernel
theorem dX11_firstFailureOnDraft_81 : decode cX11_firstFailureOnDraft 81 = .ok (.if_acmp .eq 5, 3) := by decide +kernel
theorem dX11_firstFailureOnDraft_84 : decode cX11_firstFailureOnDraft 84 = .ok (.iload_n 1, 1) := by decide +kernel
theorem dX11_firstFailureOnDraft_85 : decode cX11_firstFailureOnDraft 85 = .ok (.ireturn, 1) := by decide +kernel
theorem dX11_firstFailureOnDraft_86 : decode cX11_firstFailureOnDraft 86 = .ok (.aload_n 0, 1) := by decide +kernel
theorem dX11_firstFailureOnDraft_87 : decode cX11_firstFailureOnDraft 87 = .ok (.getfield 16, 3) := by decide +kernel
theorem dX11_firstFailureOnDraft_90 : decode cX11_firstFailureOnDraft 90 = .ok (.aload_n 2, 1) := by decide +kernel
theorem dX11_firstFailureOnDraft_91 : decode cX11_firstFailureOnDraft 91 = .ok (.iload_n 3, 1) := by decide +kernel
theorem dX11_firstFailureOnDraft_92 : decode cX11_firstFailureOnDraft 92 = .ok (.iload 4, 2) := by decide +kernel
theorem dX11_firstFailureOnDraft_94 : decode cX11_firstFailureOnDraft 94 = .ok (.iload 5, 2) := by decide +kernel
theorem dX11_firstFailureOnDraft_96 : decode cX11_firstFailureOnDraft 96 = .ok (.invokevirtual 424, 3) := by decide +kernel
theorem dX11_firstFailureOnDraft_99 : decode cX11_firstFailureOnDraft 99 = .ok (.pop, 1) := by decide +kernel
theorem dX11_firstFailureOnDraft_100 : decode cX11_firstFailureOnDraft 100 = .ok (.iinc 1 1, 3) := by decide +kernel
theorem dX11_firstFailureOnDraft_103 : decode cX11_firstFailureOnDraft 103 = .ok (.goto (-90), 3) := by decide +kernel
theorem dX11_firstFailureOnDraft_106 : decode cX11_firstFailureOnDraft 106 = .ok (.iconst (-1), 1) := by decide +kernel
theorem dX11_firstFailureOnDraft_107 : decode cX11_firstFailureOnDraft 107 = .ok (.ireturn, 1) := by decide +kernel
theorem dX11_checkSpoon_0 : decode cX11_checkSpoon 0 = .ok (.aload_n 0, 1) := by decide +kernel
theorem dX11_checkSpoon_1 : decode cX11_checkSpoon 1 = .ok (.getfield 10, 3) := by decide +kernel
theorem dX11_checkSpoon_4 : decode cX11_checkSpoon 4 = .ok (.getfield 104, 3) := by decide +kernel
theorem dX11_checkSpoon_7 : decode cX11_checkSpoon 7 = .ok (.iload_n 1, 1) := by decide +kernel
theorem dX11_checkSpoon_8 : decode cX11_checkSpoon 8 = .ok (.invokevirtual 468, 3) := by decide +kernel
theorem dX11_checkSpoon_11 : decode cX11_checkSpoon 11 = .ok (.ifCond .ne 14, 3) := by decide +kernel
theorem dX11_checkSpoon_14 : decode cX11_checkSpoon 14 = .ok (.new 357, 3) := by decide +kernel
theorem dX11_checkSpoon_17 : decode cX11_checkSpoon 17 = .ok (.dup, 1) := by decide +kernel
theorem dX11_checkSpoon_18 : decode cX11_checkSpoon 18 = .ok (.ldc_w 471, 3) := by decide +kernel
theorem dX11_checkSpoon_21 : decode cX11_checkSpoon 21 = .ok (.invokespecial 361, 3) := by decide +kernel
theorem dX11_checkSpoon_24 : decode cX11_checkSpoon 24 = .ok (.athrow, 1) := by decide +kernel
theorem dX11_checkSpoon_25 : decode cX11_checkSpoon 25 = .ok (.return_, 1) := by decide +kernel
theorem dX11_checkCell_0 : decode cX11_checkCell 0 = .ok (.iload_n 1, 1) := by decide +kernel
theorem dX11_checkCell_1 : decode cX11_checkCell 1 = .ok (.iload_n 2, 1) := by decide +kernel
theorem dX11_checkCell_2 : decode cX11_checkCell 2 = .ok (.invokestatic 473, 3) := by decide +kernel
theorem dX11_checkCell_5 : decode cX11_checkCell 5 = .ok (.ifCond .ne 14, 3) := by decide +kernel
theorem dX11_checkCell_8 : decode cX11_checkCell 8 = .ok (.new 357, 3) := by decide +kernel
theorem dX11_checkCell_11 : decode cX11_checkCell 11 = .ok (.dup, 1) := by decide +kernel
theorem dX11_checkCell_12 : decode cX11_checkCell 12 = .ok (.ldc_w 476, 3) := by decide +kernel
theorem dX11_checkCell_15 : decode cX11_checkCell 15 = .ok (.invokespecial 361, 3) := by decide +kernel
theorem dX11_checkCell_18 : decode cX11_checkCell 18 = .ok (.athrow, 1) := by decide +kernel
theorem dX11_checkCell_19 : decode cX11_checkCell 19 = .ok (.return_, 1) := by decide +kernel
theorem dX11_checkPlaceOnList_0 : decode cX11_checkPlaceOnList 0 = .ok (.iload_n 1, 1) := by decide +kernel
theorem dX11_checkPlaceOnList_1 : decode cX11_checkPlaceOnList 1 = .ok (.ifCond .lt 17, 3) := by decide +kernel
theorem dX11_checkPlaceOnList_4 : decode cX11_checkPlaceOnList 4 = .ok (.iload_n 1, 1) := by decide +kernel
theorem dX11_checkPlaceOnList_5 : decode cX11_checkPlaceOnList 5 = .ok (.aload_n 0, 1) := by decide +kernel
theorem dX11_checkPlaceOnList_6 : decode cX11_checkPlaceOnList 6 = .ok (.getfield 10, 3) := by decide +kernel
theorem dX11_checkPlaceOnList_9 : decode cX11_checkPlaceOnList 9 = .ok (.getfield 130, 3) := by decide +kernel
theorem dX11_checkPlaceOnList_12 : decode cX11_checkPlaceOnList 12 = .ok (.getfield 134, 3) := by decide +kernel
theorem dX11_checkPlaceOnList_15 : decode cX11_checkPlaceOnList 15 = .ok (.if_icmp .lt 14, 3) := by decide +kernel
theorem dX11_checkPlaceOnList_18 : decode cX11_checkPlaceOnList 18 = .ok (.new 157, 3) := by decide +kernel
theorem dX11_checkPlaceOnList_21 : decode cX11_checkPlaceOnList 21 = .ok (.dup, 1) := by decide +kernel
theorem dX11_checkPlaceOnList_22 : decode cX11_checkPlaceOnList 22 = .ok (.ldc_w 478, 3) := by decide +kernel
theorem dX11_checkPlaceOnList_25 : decode cX11_checkPlaceOnList 25 = .ok (.invokespecial 161, 3) := by decide +kernel
theorem dX11_checkPlaceOnList_28 : decode cX11_checkPlaceOnList 28 = .ok (.athrow, 1) := by decide +kernel
theorem dX11_checkPlaceOnList_29 : decode cX11_checkPlaceOnList 29 = .ok (.return_, 1) := by decide +kernel
theorem dX11_checkOnList_0 : decode cX11_checkOnList 0 = .ok (.aload_n 0, 1) := by decide +kernel
theorem dX11_checkOnList_1 : decode cX11_checkOnList 1 = .ok (.getfield 10, 3) := by decide +kernel
theorem dX11_checkOnList_4 : decode cX11_checkOnList 4 = .ok (.getfield 130, 3) := by decide +kernel
theorem dX11_checkOnList_7 : decode cX11_checkOnList 7 = .ok (.iload_n 1, 1) := by decide +kernel
theorem dX11_checkOnList_8 : decode cX11_checkOnList 8 = .ok (.invokevirtual 235, 3) := by decide +kernel
theorem dX11_checkOnList_11 : decode cX11_checkOnList 11 = .ok (.iconst (-1), 1) := by decide +kernel
theorem dX11_checkOnList_12 : decode cX11_checkOnList 12 = .ok (.if_icmp .ne 14, 3) := by decide +kernel
theorem dX11_checkOnList_15 : decode cX11_checkOnList 15 = .ok (.new 157, 3) := by decide +kernel
theorem dX11_checkOnList_18 : decode cX11_checkOnList 18 = .ok (.dup, 1) := by decide +kernel
theorem dX11_checkOnList_19 : decode cX11_checkOnList 19 = .ok (.ldc_w 480, 3) := by decide +kernel
theorem dX11_checkOnList_22 : decode cX11_checkOnList 22 = .ok (.invokespecial 161, 3) := by decide +kernel
theorem dX11_checkOnList_25 : decode cX11_checkOnList 25 = .ok (.athrow, 1) := by decide +kernel
theorem dX11_checkOnList_26 : decode cX11_checkOnList 26 = .ok (.return_, 1) := by decide +kernel
theorem dX11_checkMotion_0 : decode cX11_checkMotion 0 = .ok (.aload_n 0, 1) := by decide +kernel
theorem dX11_checkMotion_1 : decode cX11_checkMotion 1 = .ok (.getfield 10, 3) := by decide +kernel
theorem dX11_checkMotion_4 : decode cX11_checkMotion 4 = .ok (.getfield 150, 3) := by decide +kernel
theorem dX11_checkMotion_7 : decode cX11_checkMotion 7 = .ok (.getfield 154, 3) := by decide +kernel
theorem dX11_checkMotion_10 : decode cX11_checkMotion 10 = .ok (.ifCond .ne 14, 3) := by decide +kernel
theorem dX11_checkMotion_13 : decode cX11_checkMotion 13 = .ok (.new 157, 3) := by decide +kernel
theorem dX11_checkMotion_16 : decode cX11_checkMotion 16 = .ok (.dup, 1) := by decide +kernel
theorem dX11_checkMotion_17 : decode cX11_checkMotion 17 = .ok (.ldc_w 482, 3) := by decide +kernel
theorem dX11_checkMotion_20 : decode cX11_checkMotion 20 = .ok (.invokespecial 161, 3) := by decide +kernel
theorem dX11_checkMotion_23 : decode cX11_checkMotion 23 = .ok (.athrow, 1) := by decide +kernel
theorem dX11_checkMotion_24 : decode cX11_checkMotion 24 = .ok (.return_, 1) := by decide +kernel
theorem dX11_copyRow_0 : decode cX11_copyRow 0 = .ok (.aload_n 0, 1) := by decide +kernel
theorem dX11_copyRow_1 : decode cX11_copyRow 1 = .ok (.iconst 0, 1) := by decide +kernel
theorem dX11_copyRow_2 : decode cX11_copyRow 2 = .ok (.aload_n 1, 1) := by decide +kernel
theorem dX11_copyRow_3 : decode cX11_copyRow 3 = .ok (.iconst 0, 1) := by decide +kernel
theorem dX11_copyRow_4 : decode cX11_copyRow 4 = .ok (.aload_n 0, 1) := by decide +kernel
theorem dX11_copyRow_5 : decode cX11_copyRow 5 = .ok (.arraylength, 1) := by decide +kernel
theorem dX11_copyRow_6 : decode cX11_copyRow 6 = .ok (.aload_n 1, 1) := by decide +kernel
theorem dX11_copyRow_7 : decode cX11_copyRow 7 = .ok (.arraylength, 1) := by decide +kernel
theorem dX11_copyRow_8 : decode cX11_copyRow 8 = .ok (.invokestatic 484, 3) := by decide +kernel
theorem dX11_copyRow_11 : decode cX11_copyRow 11 = .ok (.invokestatic 489, 3) := by decide +kernel
theorem dX11_copyRow_14 : decode cX11_copyRow 14 = .ok (.return_, 1) := by decide +kernel
theorem dX11_isBetween_0 : decode cX11_isBetween 0 = .ok (.iload_n 0, 1) := by decide +kernel
theorem dX11_isBetween_1 : decode cX11_isBetween 1 = .ok (.iload_n 1, 1) := by decide +kernel
theorem dX11_isBetween_2 : decode cX11_isBetween 2 = .ok (.if_icmp .lt 12, 3) := by decide +kernel
theorem dX11_isBetween_5 : decode cX11_isBetween 5 = .ok (.iload_n 0, 1) := by decide +kernel
theorem dX11_isBetween_6 : decode cX11_isBetween 6 = .ok (.iload_n 2, 1) := by decide +kernel
theorem dX11_isBetween_7 : decode cX11_isBetween 7 = .ok (.if_icmp .gt 7, 3) := by decide +kernel
theorem dX11_isBetween_10 : decode cX11_isBetween 10 = .ok (.iconst 1, 1) := by decide +kernel
theorem dX11_isBetween_11 : decode cX11_isBetween 11 = .ok (.goto 4, 3) := by decide +kernel
theorem dX11_isBetween_14 : decode cX11_isBetween 14 = .ok (.iconst 0, 1) := by decide +kernel
theorem dX11_isBetween_15 : decode cX11_isBetween 15 = .ok (.ireturn, 1) := by decide +kernel

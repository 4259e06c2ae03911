theorem dX12_init_0 : decode cX12_init 0 = .ok (.aload_n 0, 1) := by decide +kernel
theorem dX12_init_1 : decode cX12_init 1 = .ok (.invokespecial 1, 3) := by decide +kernel
theorem dX12_init_4 : decode cX12_init 4 = .ok (.aload_n 0, 1) := by decide +kernel
theorem dX12_init_5 : decode cX12_init 5 = .ok (.sipush 146, 3) := by decide +kernel
theorem dX12_init_8 : decode cX12_init 8 = .ok (.newarray .int, 2) := by decide +kernel
theorem dX12_init_10 : decode cX12_init 10 = .ok (.putfield 7, 3) := by decide +kernel
theorem dX12_init_13 : decode cX12_init 13 = .ok (.aload_n 0, 1) := by decide +kernel
theorem dX12_init_14 : decode cX12_init 14 = .ok (.sipush 1168, 3) := by decide +kernel
theorem dX12_init_17 : decode cX12_init 17 = .ok (.newarray .int, 2) := by decide +kernel
theorem dX12_init_19 : decode cX12_init 19 = .ok (.putfield 13, 3) := by decide +kernel
theorem dX12_init_22 : decode cX12_init 22 = .ok (.aload_n 0, 1) := by decide +kernel
theorem dX12_init_23 : decode cX12_init 23 = .ok (.sipush 146, 3) := by decide +kernel
theorem dX12_init_26 : decode cX12_init 26 = .ok (.newarray .int, 2) := by decide +kernel
theorem dX12_init_28 : decode cX12_init 28 = .ok (.putfield 16, 3) := by decide +kernel
theorem dX12_init_31 : decode cX12_init 31 = .ok (.aload_n 0, 1) := by decide +kernel
theorem dX12_init_32 : decode cX12_init 32 = .ok (.sipush 146, 3) := by decide +kernel
theorem dX12_init_35 : decode cX12_init 35 = .ok (.newarray .int, 2) := by decide +kernel
theorem dX12_init_37 : decode cX12_init 37 = .ok (.putfield 19, 3) := by decide +kernel
theorem dX12_init_40 : decode cX12_init 40 = .ok (.aload_n 0, 1) := by decide +kernel
theorem dX12_init_41 : decode cX12_init 41 = .ok (.bipush 64, 2) := by decide +kernel
theorem dX12_init_43 : decode cX12_init 43 = .ok (.newarray .int, 2) := by decide +kernel
theorem dX12_init_45 : decode cX12_init 45 = .ok (.putfield 22, 3) := by decide +kernel
theorem dX12_init_48 : decode cX12_init 48 = .ok (.aload_n 0, 1) := by decide +kernel
theorem dX12_init_49 : decode cX12_init 49 = .ok (.bipush 64, 2) := by decide +kernel
theorem dX12_init_51 : decode cX12_init 51 = .ok (.newarray .int, 2) := by decide +kernel
theorem dX12_init_53 : decode cX12_init 53 = .ok (.putfield 25, 3) := by decide +kernel
theorem dX12_init_56 : decode cX12_init 56 = .ok (.aload_n 0, 1) := by decide +kernel
theorem dX12_init_57 : decode cX12_init 57 = .ok (.bipush 64, 2) := by decide +kernel
theorem dX12_init_59 : decode cX12_init 59 = .ok (.newarray .int, 2) := by decide +kernel
theorem dX12_init_61 : decode cX12_init 61 = .ok (.putfield 28, 3) := by decide +kernel
theorem dX12_init_64 : decode cX12_init 64 = .ok (.aload_n 0, 1) := by decide +kernel
theorem dX12_init_65 : decode cX12_init 65 = .ok (.bipush 80, 2) := by decide +kernel
theorem dX12_init_67 : decode cX12_init 67 = .ok (.newarray .char, 2) := by decide +kernel
theorem dX12_init_69 : decode cX12_init 69 = .ok (.putfield 31, 3) := by decide +kernel
theorem dX12_init_72 : decode cX12_init 72 = .ok (.aload_n 0, 1) := by decide +kernel
theorem dX12_init_73 : decode cX12_init 73 = .ok (.bipush 60, 2) := by decide +kernel
theorem dX12_init_75 : decode cX12_init 75 = .ok (.newarray .char, 2) := by decide +kernel
theorem dX12_init_77 : decode cX12_init 77 = .ok (.putfield 35, 3) := by decide +kernel
theorem dX12_init_80 : decode cX12_init 80 = .ok (.aload_n 0, 1) := by decide +kernel
theorem dX12_init_81 : decode cX12_init 81 = .ok (.iconst (-1), 1) := by decide +kernel
theorem dX12_init_82 : decode cX12_init 82 = .ok (.putfield 38, 3) := by decide +kernel
theorem dX12_init_85 : decode cX12_init 85 = .ok (.aload_n 0, 1) := by decide +kernel
theorem dX12_init_86 : decode cX12_init 86 = .ok (.iconst (-1), 1) := by decide +kernel
theorem dX12_init_87 : decode cX12_init 87 = .ok (.putfield 42, 3) := by decide +kernel
theorem dX12_init_90 : decode cX12_init 90 = .ok (.aload_n 0, 1) := by decide +kernel
theorem dX12_init_91 : decode cX12_init 91 = .ok (.iconst 3, 1) := by decide +kernel
theorem dX12_init_92 : decode cX12_init 92 = .ok (.newarray .int, 2) := by decide +kernel
theorem dX12_init_94 : decode cX12_init 94 = .ok (.putfield 45, 3) := by decide +kernel
theorem dX12_init_97 : decode cX12_init 97 = .ok (.return_, 1) := by decide +kernel
theorem dX12_thrown_0 : decode cX12_thrown 0 = .ok (.aload_n 0, 1) := by decide +kernel
theorem dX12_thrown_1 : decode cX12_thrown 1 = .ok (.getfield 48, 3) := by decide +kernel
theorem dX12_thrown_4 : decode cX12_thrown 4 = .ok (.ireturn, 1) := by decide +kernel
theorem dX12_fails_0 : decode cX12_fails 0 = .ok (.aload_n 0, 1) := by decide +kernel
theorem dX12_fails_1 : decode cX12_fails 1 = .ok (.iload_n 1, 1) := by decide +kernel
theorem dX12_fails_2 : decode cX12_fails 2 = .ok (.putfield 48, 3) := by decide +kernel
theorem dX12_fails_5 : decode cX12_fails 5 = .ok (.iconst 0, 1) := by decide +kernel
theorem dX12_fails_6 : decode cX12_fails 6 = .ok (.ireturn, 1) := by decide +kernel
theorem dX12_isBetween_0 : decode cX12_isBetween 0 = .ok (.iload_n 1, 1) := by decide +kernel
theorem dX12_isBetween_1 : decode cX12_isBetween 1 = .ok (.iload_n 0, 1) := by decide +kernel
theorem dX12_isBetween_2 : decode cX12_isBetween 2 = .ok (.if_icmp .gt 12, 3) := by decide +kernel
theorem dX12_isBetween_5 : decode cX12_isBetween 5 = .ok (.iload_n 0, 1) := by decide +kernel
theorem dX12_isBetween_6 : decode cX12_isBetween 6 = .ok (.iload_n 2, 1) := by decide +kernel
theorem dX12_isBetween_7 : decode cX12_isBetween 7 = .ok (.if_icmp .gt 7, 3) := by decide +kernel
theorem dX12_isBetween_10 : decode cX12_isBetween 10 = .ok (.iconst 1, 1) := by decide +kernel
theorem dX12_isBetween_11 : decode cX12_isBetween 11 = .ok (.goto 4, 3) := by decide +kernel
theorem dX12_isBetween_14 : decode cX12_isBetween 14 = .ok (.iconst 0, 1) := by decide +kernel
theorem dX12_isBetween_15 : decode cX12_isBetween 15 = .ok (.ireturn, 1) := by decide +kernel
theorem dX12_difference_0 : decode cX12_difference 0 = .ok (.iload_n 0, 1) := by decide +kernel
theorem dX12_difference_1 : decode cX12_difference 1 = .ok (.iload_n 1, 1) := by decide +kernel
theorem dX12_difference_2 : decode cX12_difference 2 = .ok (.if_icmp .ge 9, 3) := by decide +kernel
theorem dX12_difference_5 : decode cX12_difference 5 = .ok (.iload_n 1, 1) := by decide +kernel
theorem dX12_difference_6 : decode cX12_difference 6 = .ok (.iload_n 0, 1) := by decide +kernel
theorem dX12_difference_7 : decode cX12_difference 7 = .ok (.isub, 1) := by decide +kernel
theorem dX12_difference_8 : decode cX12_difference 8 = .ok (.goto 6, 3) := by decide +kernel
theorem dX12_difference_11 : decode cX12_difference 11 = .ok (.iload_n 0, 1) := by decide +kernel
theorem dX12_difference_12 : decode cX12_difference 12 = .ok (.iload_n 1, 1) := by decide +kernel
theorem dX12_difference_13 : decode cX12_difference 13 = .ok (.isub, 1) := by decide +kernel
theorem dX12_difference_14 : decode cX12_difference 14 = .ok (.ireturn, 1) := by decide +kernel
theorem dX12_copies_0 : decode cX12_copies 0 = .ok (.iconst 0, 1) := by decide +kernel
theorem dX12_copies_1 : decode cX12_copies 1 = .ok (.istore_n 1, 1) := by decide +kernel
theorem dX12_copies_2 : decode cX12_copies 2 = .ok (.iload_n 1, 1) := by decide +kernel
theorem dX12_copies_3 : decode cX12_copies 3 = .ok (.sipush 146, 3) := by decide +kernel
theorem dX12_copies_6 : decode cX12_copies 6 = .ok (.if_icmp .ge 21, 3) := by decide +kernel
theorem dX12_copies_9 : decode cX12_copies 9 = .ok (.aload_n 0, 1) := by decide +kernel
theorem dX12_copies_10 : decode cX12_copies 10 = .ok (.getfield 19, 3) := by decide +kernel
theorem dX12_copies_13 : decode cX12_copies 13 = .ok (.iload_n 1, 1) := by decide +kernel
theorem dX12_copies_14 : decode cX12_copies 14 = .ok (.aload_n 0, 1) := by decide +kernel
theorem dX12_copies_15 : decode cX12_copies 15 = .ok (.getfield 7, 3) := by decide +kernel
theorem dX12_copies_18 : decode cX12_copies 18 = .ok (.iload_n 1, 1) := by decide +kernel
theorem dX12_copies_19 : decode cX12_copies 19 = .ok (.iaload, 1) := by decide +kernel
theorem dX12_copies_20 : decode cX12_copies 20 = .ok (.iastore, 1) := by decide +kernel
theorem dX12_copies_21 : decode cX12_copies 21 = .ok (.iinc 1 1, 3) := by decide +kernel
theorem dX12_copies_24 : decode cX12_copies 24 = .ok (.goto (-22), 3) := by decide +kernel
theorem dX12_copies_27 : decode cX12_copies 27 = .ok (.return_, 1) := by decide +kernel
theorem dX12_goesBack_0 : decode cX12_goesBack 0 = .ok (.iconst 0, 1) := by decide +kernel
theorem dX12_goesBack_1 : decode cX12_goesBack 1 = .ok (.istore_n 1, 1) := by decide +kernel
theorem dX12_goesBack_2 : decode cX12_goesBack 2 = .ok (.iload_n 1, 1) := by decide +kernel
theorem dX12_goesBack_3 : decode cX12_goesBack 3 = .ok (.sipush 146, 3) := by decide +kernel
theorem dX12_goesBack_6 : decode cX12_goesBack 6 = .ok (.if_icmp .ge 21, 3) := by decide +kernel
theorem dX12_goesBack_9 : decode cX12_goesBack 9 = .ok (.aload_n 0, 1) := by decide +kernel
theorem dX12_goesBack_10 : decode cX12_goesBack 10 = .ok (.getfield 7, 3) := by decide +kernel
theorem dX12_goesBack_13 : decode cX12_goesBack 13 = .ok (.iload_n 1, 1) := by decide +kernel
theorem dX12_goesBack_14 : decode cX12_goesBack 14 = .ok (.aload_n 0, 1) := by decide +kernel
theorem dX12_goesBack_15 : decode cX12_goesBack 15 = .ok (.getfield 19, 3) := by decide +kernel
theorem dX12_goesBack_18 : decode cX12_goesBack 18 = .ok (.iload_n 1, 1) := by decide +kernel
theorem dX12_goesBack_19 : decode cX12_goesBack 19 = .ok (.iaload, 1) := by decide +kernel
theorem dX12_goesBack_20 : decode cX12_goesBack 20 = .ok (.iastore, 1) := by decide +kernel
theorem dX12_goesBack_21 : decode cX12_goesBack 21 = .ok (.iinc 1 1, 3) := by decide +kernel
theorem dX12_goesBack_24 : decode cX12_goesBack 24 = .ok (.goto (-22), 3) := by decide +kernel
theorem dX12_goesBack_27 : decode cX12_goesBack 27 = .ok (.return_, 1) := by decide +kernel
theorem dX12_keeps_0 : decode cX12_keeps 0 = .ok (.aload_n 0, 1) := by decide +kernel
theorem dX12_keeps_1 : decode cX12_keeps 1 = .ok (.getfield 51, 3) := by decide +kernel
theorem dX12_keeps_4 : decode cX12_keeps 4 = .ok (.bipush 8, 2) := by decide +kernel
theorem dX12_keeps_6 : decode cX12_keeps 6 = .ok (.if_icmp .ne 26, 3) := by decide +kernel
theorem dX12_keeps_9 : decode cX12_keeps 9 = .ok (.aload_n 0, 1) := by decide +kernel
theorem dX12_keeps_10 : decode cX12_keeps 10 = .ok (.aload_n 0, 1) := by decide +kernel
theorem dX12_keeps_11 : decode cX12_keeps 11 = .ok (.getfield 54, 3) := by decide +kernel
theorem dX12_keeps_14 : decode cX12_keeps 14 = .ok (.iconst 1, 1) := by decide +kernel
theorem dX12_keeps_15 : decode cX12_keeps 15 = .ok (.iadd, 1) := by decide +kernel
theorem dX12_keeps_16 : decode cX12_keeps 16 = .ok (.bipush 8, 2) := by decide +kernel
theorem dX12_keeps_18 : decode cX12_keeps 18 = .ok (.irem, 1) := by decide +kernel
theorem dX12_keeps_19 : decode cX12_keeps 19 = .ok (.putfield 54, 3) := by decide +kernel
theorem dX12_keeps_22 : decode cX12_keeps 22 = .ok (.aload_n 0, 1) := by decide +kernel
theorem dX12_keeps_23 : decode cX12_keeps 23 = .ok (.dup, 1) := by decide +kernel
theorem dX12_keeps_24 : decode cX12_keeps 24 = .ok (.getfield 51, 3) := by decide +kernel
theorem dX12_keeps_27 : decode cX12_keeps 27 = .ok (.iconst 1, 1) := by decide +kernel
theorem dX12_keeps_28 : decode cX12_keeps 28 = .ok (.isub, 1) := by decide +kernel
theorem dX12_keeps_29 : decode cX12_keeps 29 = .ok (.putfield 51, 3) := by decide +kernel
theorem dX12_keeps_32 : decode cX12_keeps 32 = .ok (.aload_n 0, 1) := by decide +kernel
theorem dX12_keeps_33 : decode cX12_keeps 33 = .ok (.getfield 54, 3) := by decide +kernel
theorem dX12_keeps_36 : decode cX12_keeps 36 = .ok (.aload_n 0, 1) := by decide +kernel
theorem dX12_keeps_37 : decode cX12_keeps 37 = .ok (.getfield 51, 3) := by decide +kernel
theorem dX12_keeps_40 : decode cX12_keeps 40 = .ok (.iadd, 1) := by decide +kernel
theorem dX12_keeps_41 : decode cX12_keeps 41 = .ok (.bipush 8, 2) := by decide +kernel
theorem dX12_keeps_43 : decode cX12_keeps 43 = .ok (.irem, 1) := by decide +kernel
theorem dX12_keeps_44 : decode cX12_keeps 44 = .ok (.istore_n 1, 1) := by decide +kernel
theorem dX12_keeps_45 : decode cX12_keeps 45 = .ok (.iconst 0, 1) := by decide +kernel
theorem dX12_keeps_46 : decode cX12_keeps 46 = .ok (.istore_n 2, 1) := by decide +kernel
theorem dX12_keeps_47 : decode cX12_keeps 47 = .ok (.iload_n 2, 1) := by decide +kernel
theorem dX12_keeps_48 : decode cX12_keeps 48 = .ok (.sipush 146, 3) := by decide +kernel
theorem dX12_keeps_51 : decode cX12_keeps 51 = .ok (.if_icmp .ge 27, 3) := by decide +kernel
theorem dX12_keeps_54 : decode cX12_keeps 54 = .ok (.aload_n 0, 1) := by decide +kernel
theorem dX12_keeps_55 : decode cX12_keeps 55 = .ok (.getfield 13, 3) := by decide +kernel
theorem dX12_keeps_58 : decode cX12_keeps 58 = .ok (.sipush 146, 3) := by decide +kernel
theorem dX12_keeps_61 : decode cX12_keeps 61 = .ok (.iload_n 1, 1) := by decide +kernel
theorem dX12_keeps_62 : decode cX12_keeps 62 = .ok (.imul, 1) := by decide +kernel
theorem dX12_keeps_63 : decode cX12_keeps 63 = .ok (.iload_n 2, 1) := by decide +kernel
theorem dX12_keeps_64 : decode cX12_keeps 64 = .ok (.iadd, 1) := by decide +kernel
theorem dX12_keeps_65 : decode cX12_keeps 65 = .ok (.aload_n 0, 1) := by decide +kernel
theorem dX12_keeps_66 : decode cX12_keeps 66 = .ok (.getfield 19, 3) := by decide +kernel
theorem dX12_keeps_69 : decode cX12_keeps 69 = .ok (.iload_n 2, 1) := by decide +kernel
theorem dX12_keeps_70 : decode cX12_keeps 70 = .ok (.iaload, 1) := by decide +kernel
theorem dX12_keeps_71 : decode cX12_keeps 71 = .ok (.iastore, 1) := by decide +kernel
theorem dX12_keeps_72 : decode cX12_keeps 72 = .ok (.iinc 2 1, 3) := by decide +kernel
theorem dX12_keeps_75 : decode cX12_keeps 75 = .ok (.goto (-28), 3) := by decide +kernel
theorem dX12_keeps_78 : decode cX12_keeps 78 = .ok (.aload_n 0, 1) := by decide +kernel
theorem dX12_keeps_79 : decode cX12_keeps 79 = .ok (.dup, 1) := by decide +kernel
theorem dX12_keeps_80 : decode cX12_keeps 80 = .ok (.getfield 51, 3) := by decide +kernel
theorem dX12_keeps_83 : decode cX12_keeps 83 = .ok (.iconst 1, 1) := by decide +kernel
theorem dX12_keeps_84 : decode cX12_keeps 84 = .ok (.iadd, 1) := by decide +kernel
theorem dX12_keeps_85 : decode cX12_keeps 85 = .ok (.putfield 51, 3) := by decide +kernel
theorem dX12_keeps_88 : decode cX12_keeps 88 = .ok (.return_, 1) := by decide +kernel
theorem dX12_remembers_0 : decode cX12_remembers 0 = .ok (.aload_n 0, 1) := by decide +kernel
theorem dX12_remembers_1 : decode cX12_remembers 1 = .ok (.invokevirtual 57, 3) := by decide +kernel
theorem dX12_remembers_4 : decode cX12_remembers 4 = .ok (.aload_n 0, 1) := by decide +kernel
theorem dX12_remembers_5 : decode cX12_remembers 5 = .ok (.invokevirtual 60, 3) := by decide +kernel
theorem dX12_remembers_8 : decode cX12_remembers 8 = .ok (.return_, 1) := by decide +kernel
theorem dX12_isSpoon_0 : decode cX12_isSpoon 0 = .ok (.iload_n 1, 1) := by decide +kernel
theorem dX12_isSpoon_1 : decode cX12_isSpoon 1 = .ok (.iconst 0, 1) := by decide +kernel
theorem dX12_isSpoon_2 : decode cX12_isSpoon 2 = .ok (.aload_n 0, 1) := by decide +kernel
theorem dX12_isSpoon_3 : decode cX12_isSpoon 3 = .ok (.getfield 7, 3) := by decide +kernel
theorem dX12_isSpoon_6 : decode cX12_isSpoon 6 = .ok (.iconst 0, 1) := by decide +kernel
theorem dX12_isSpoon_7 : decode cX12_isSpoon 7 = .ok (.iaload, 1) := by decide +kernel
theorem dX12_isSpoon_8 : decode cX12_isSpoon 8 = .ok (.iconst 1, 1) := by decide +kernel
theorem dX12_isSpoon_9 : decode cX12_isSpoon 9 = .ok (.isub, 1) := by decide +kernel
theorem dX12_isSpoon_10 : decode cX12_isSpoon 10 = .ok (.invokestatic 63, 3) := by decide +kernel
theorem dX12_isSpoon_13 : decode cX12_isSpoon 13 = .ok (.ireturn, 1) := by decide +kernel
theorem dX12_spoon_0 : decode cX12_spoon 0 = .ok (.aload_n 0, 1) := by decide +kernel
theorem dX12_spoon_1 : decode cX12_spoon 1 = .ok (.getfield 7, 3) := by decide +kernel
theorem dX12_spoon_4 : decode cX12_spoon 4 = .ok (.bipush 11, 2) := by decide +kernel
theorem dX12_spoon_6 : decode cX12_spoon 6 = .ok (.iconst 4, 1) := by decide +kernel
theorem dX12_spoon_7 : decode cX12_spoon 7 = .ok (.iload_n 1, 1) := by decide +kernel
theorem dX12_spoon_8 : decode cX12_spoon 8 = .ok (.imul, 1) := by decide +kernel
theorem dX12_spoon_9 : decode cX12_spoon 9 = .ok (.iadd, 1) := by decide +kernel
theorem dX12_spoon_10 : decode cX12_spoon 10 = .ok (.iload_n 2, 1) := by decide +kernel
theorem dX12_spoon_11 : decode cX12_spoon 11 = .ok (.iadd, 1) := by decide +kernel
theorem dX12_spoon_12 : decode cX12_spoon 12 = .ok (.iaload, 1) := by decide +kernel
theorem dX12_spoon_13 : decode cX12_spoon 13 = .ok (.ireturn, 1) := by decide +kernel
theorem dX12_puts_0 : decode cX12_puts 0 = .ok (.aload_n 0, 1) := by decide +kernel
theorem dX12_puts_1 : decode cX12_puts 1 = .ok (.getfield 7, 3) := by decide +kernel
theorem dX12_puts_4 : decode cX12_puts 4 = .ok (.bipush 11, 2) := by decide +kernel
theorem dX12_puts_6 : decode cX12_puts 6 = .ok (.iconst 4, 1) := by decide +kernel
theorem dX12_puts_7 : decode cX12_puts 7 = .ok (.iload_n 1, 1) := by decide +kernel
theorem dX12_puts_8 : decode cX12_puts 8 = .ok (.imul, 1) := by decide +kernel
theorem dX12_puts_9 : decode cX12_puts 9 = .ok (.iadd, 1) := by decide +kernel
theorem dX12_puts_10 : decode cX12_puts 10 = .ok (.iload_n 2, 1) := by decide +kernel
theorem dX12_puts_11 : decode cX12_puts 11 = .ok (.iadd, 1) := by decide +kernel
theorem dX12_puts_12 : decode cX12_puts 12 = .ok (.iload_n 3, 1) := by decide +kernel
theorem dX12_puts_13 : decode cX12_puts 13 = .ok (.iastore, 1) := by decide +kernel
theorem dX12_puts_14 : decode cX12_puts 14 = .ok (.return_, 1) := by decide +kernel
theorem dX12_idAt_0 : decode cX12_idAt 0 = .ok (.aload_n 0, 1) := by decide +kernel
theorem dX12_idAt_1 : decode cX12_idAt 1 = .ok (.getfield 7, 3) := by decide +kernel
theorem dX12_idAt_4 : decode cX12_idAt 4 = .ok (.bipush 43, 2) := by decide +kernel
theorem dX12_idAt_6 : decode cX12_idAt 6 = .ok (.iconst 2, 1) := by decide +kernel
theorem dX12_idAt_7 : decode cX12_idAt 7 = .ok (.iload_n 1, 1) := by decide +kernel
theorem dX12_idAt_8 : decode cX12_idAt 8 = .ok (.imul, 1) := by decide +kernel
theorem dX12_idAt_9 : decode cX12_idAt 9 = .ok (.iadd, 1) := by decide +kernel
theorem dX12_idAt_10 : decode cX12_idAt 10 = .ok (.iaload, 1) := by decide +kernel
theorem dX12_idAt_11 : decode cX12_idAt 11 = .ok (.ireturn, 1) := by decide +kernel
theorem dX12_positionAt_0 : decode cX12_positionAt 0 = .ok (.aload_n 0, 1) := by decide +kernel
theorem dX12_positionAt_1 : decode cX12_positionAt 1 = .ok (.getfield 7, 3) := by decide +kernel
theorem dX12_positionAt_4 : decode cX12_positionAt 4 = .ok (.bipush 43, 2) := by decide +kernel
theorem dX12_positionAt_6 : decode cX12_positionAt 6 = .ok (.iconst 2, 1) := by decide +kernel
theorem dX12_positionAt_7 : decode cX12_positionAt 7 = .ok (.iload_n 1, 1) := by decide +kernel
theorem dX12_positionAt_8 : decode cX12_positionAt 8 = .ok (.imul, 1) := by decide +kernel
theorem dX12_positionAt_9 : decode cX12_positionAt 9 = .ok (.iadd, 1) := by decide +kernel
theorem dX12_positionAt_10 : decode cX12_positionAt 10 = .ok (.iconst 1, 1) := by decide +kernel
theorem dX12_positionAt_11 : decode cX12_positionAt 11 = .ok (.iadd, 1) := by decide +kernel
theorem dX12_positionAt_12 : decode cX12_positionAt 12 = .ok (.iaload, 1) := by decide +kernel
theorem dX12_positionAt_13 : decode cX12_positionAt 13 = .ok (.ireturn, 1) := by decide +kernel
theorem dX12_place_0 : decode cX12_place 0 = .ok (.iconst 0, 1) := by decide +kernel
theorem dX12_place_1 : decode cX12_place 1 = .ok (.istore_n 2, 1) := by decide +kernel
theorem dX12_place_2 : decode cX12_place 2 = .ok (.iload_n 2, 1) := by decide +kernel
theorem dX12_place_3 : decode cX12_place 3 = .ok (.aload_n 0, 1) := by decide +kernel
theorem dX12_place_4 : decode cX12_place 4 = .ok (.getfield 7, 3) := by decide +kernel
theorem dX12_place_7 : decode cX12_place 7 = .ok (.iconst 1, 1) := by decide +kernel
theorem dX12_place_8 : decode cX12_place 8 = .ok (.iaload, 1) := by decide +kernel
theorem dX12_place_9 : decode cX12_place 9 = .ok (.if_icmp .ge 20, 3) := by decide +kernel
theorem dX12_place_12 : decode cX12_place 12 = .ok (.aload_n 0, 1) := by decide +kernel
theorem dX12_place_13 : decode cX12_place 13 = .ok (.iload_n 2, 1) := by decide +kernel
theorem dX12_place_14 : decode cX12_place 14 = .ok (.invokevirtual 67, 3) := by decide +kernel
theorem dX12_place_17 : decode cX12_place 17 = .ok (.iload_n 1, 1) := by decide +kernel
theorem dX12_place_18 : decode cX12_place 18 = .ok (.if_icmp .ne 5, 3) := by decide +kernel
theorem dX12_place_21 : decode cX12_place 21 = .ok (.iload_n 2, 1) := by decide +kernel
theorem dX12_place_22 : decode cX12_place 22 = .ok (.ireturn, 1) := by decide +kernel
theorem dX12_place_23 : decode cX12_place 23 = .ok (.iinc 2 1, 3) := by decide +kernel
theorem dX12_place_26 : decode cX12_place 26 = .ok (.goto (-24), 3) := by decide +kernel
theorem dX12_place_29 : decode cX12_place 29 = .ok (.iconst (-1), 1) := by decide +kernel
theorem dX12_place_30 : decode cX12_place 30 = .ok (.ireturn, 1) := by decide +kernel
theorem dX12_weights_0 : decode cX12_weights 0 = .ok (.iconst 0, 1) := by decide +kernel
theorem dX12_weights_1 : decode cX12_weights 1 = .ok (.istore_n 1, 1) := by decide +kernel
theorem dX12_weights_2 : decode cX12_weights 2 = .ok (.iconst 0, 1) := by decide +kernel
theorem dX12_weights_3 : decode cX12_weights 3 = .ok (.istore_n 2, 1) := by decide +kernel
theorem dX12_weights_4 : decode cX12_weights 4 = .ok (.iload_n 2, 1) := by decide +kernel
theorem dX12_weights_5 : decode cX12_weights 5 = .ok (.aload_n 0, 1) := by decide +kernel
theorem dX12_weights_6 : decode cX12_weights 6 = .ok (.getfield 7, 3) := by decide +kernel
theorem dX12_weights_9 : decode cX12_weights 9 = .ok (.iconst 0, 1) := by decide +kernel
theorem dX12_weights_10 : decode cX12_weights 10 = .ok (.iaload, 1) := by decide +kernel
theorem dX12_weights_11 : decode cX12_weights 11 = .ok (.if_icmp .ge 18, 3) := by decide +kernel
theorem dX12_weights_14 : decode cX12_weights 14 = .ok (.iload_n 1, 1) := by decide +kernel
theorem dX12_weights_15 : decode cX12_weights 15 = .ok (.aload_n 0, 1) := by decide +kernel
theorem dX12_weights_16 : decode cX12_weights 16 = .ok (.iload_n 2, 1) := by decide +kernel
theorem dX12_weights_17 : decode cX12_weights 17 = .ok (.iconst 0, 1) := by decide +kernel
theorem dX12_weights_18 : decode cX12_weights 18 = .ok (.invokevirtual 71, 3) := by decide +kernel
theorem dX12_weights_21 : decode cX12_weights 21 = .ok (.iadd, 1) := by decide +kernel
theorem dX12_weights_22 : decode cX12_weights 22 = .ok (.istore_n 1, 1) := by decide +kernel
theorem dX12_weights_23 : decode cX12_weights 23 = .ok (.iinc 2 1, 3) := by decide +kernel
theorem dX12_weights_26 : decode cX12_weights 26 = .ok (.goto (-22), 3) := by decide +kernel
theorem dX12_weights_29 : decode cX12_weights 29 = .ok (.iload_n 1, 1) := by decide +kernel
theorem dX12_weights_30 : decode cX12_weights 30 = .ok (.ireturn, 1) := by decide +kernel
theorem dX12_notSpoon_0 : decode cX12_notSpoon 0 = .ok (.iload_n 1, 1) := by decide +kernel
theorem dX12_notSpoon_1 : decode cX12_notSpoon 1 = .ok (.iconst 1, 1) := by decide +kernel
theorem dX12_notSpoon_2 : decode cX12_notSpoon 2 = .ok (.bipush 9, 2) := by decide +kernel
theorem dX12_notSpoon_4 : decode cX12_notSpoon 4 = .ok (.invokestatic 63, 3) := by decide +kernel
theorem dX12_notSpoon_7 : decode cX12_notSpoon 7 = .ok (.ifCond .eq 13, 3) := by decide +kernel
theorem dX12_notSpoon_10 : decode cX12_notSpoon 10 = .ok (.iload_n 2, 1) := by decide +kernel
theorem dX12_notSpoon_11 : decode cX12_notSpoon 11 = .ok (.iconst 0, 1) := by decide +kernel
theorem dX12_notSpoon_12 : decode cX12_notSpoon 12 = .ok (.bipush 99, 2) := by decide +kernel
theorem dX12_notSpoon_14 : decode cX12_notSpoon 14 = .ok (.invokestatic 63, 3) := by decide +kernel
theorem dX12_notSpoon_17 : decode cX12_notSpoon 17 = .ok (.ifCond .ne 5, 3) := by decide +kernel
theorem dX12_notSpoon_20 : decode cX12_notSpoon 20 = .ok (.iconst 1, 1) := by decide +kernel
theorem dX12_notSpoon_21 : decode cX12_notSpoon 21 = .ok (.ireturn, 1) := by decide +kernel
theorem dX12_notSpoon_22 : decode cX12_notSpoon 22 = .ok (.aload_n 0, 1) := by decide +kernel
theorem dX12_notSpoon_23 : decode cX12_notSpoon 23 = .ok (.getfield 7, 3) := by decide +kernel
theorem dX12_notSpoon_26 : decode cX12_notSpoon 26 = .ok (.iconst 0, 1) := by decide +kernel
theorem dX12_notSpoon_27 : decode cX12_notSpoon 27 = .ok (.iaload, 1) := by decide +kernel
theorem dX12_notSpoon_28 : decode cX12_notSpoon 28 = .ok (.bipush 8, 2) := by decide +kernel
theorem dX12_notSpoon_30 : decode cX12_notSpoon 30 = .ok (.if_icmp .ne 7, 3) := by decide +kernel
theorem dX12_notSpoon_33 : decode cX12_notSpoon 33 = .ok (.iconst 2, 1) := by decide +kernel
theorem dX12_notSpoon_34 : decode cX12_notSpoon 34 = .ok (.goto 4, 3) := by decide +kernel
theorem dX12_notSpoon_37 : decode cX12_notSpoon 37 = .ok (.iconst 0, 1) := by decide +kernel
theorem dX12_notSpoon_38 : decode cX12_notSpoon 38 = .ok (.ireturn, 1) := by decide +kernel
theorem dX12_addsSpoon_0 : decode cX12_addsSpoon 0 = .ok (.aload_n 0, 1) := by decide +kernel
theorem dX12_addsSpoon_1 : decode cX12_addsSpoon 1 = .ok (.getfield 7, 3) := by decide +kernel
theorem dX12_addsSpoon_4 : decode cX12_addsSpoon 4 = .ok (.iconst 0, 1) := by decide +kernel
theorem dX12_addsSpoon_5 : decode cX12_addsSpoon 5 = .ok (.iaload, 1) := by decide +kernel
theorem dX12_addsSpoon_6 : decode cX12_addsSpoon 6 = .ok (.istore_n 3, 1) := by decide +kernel
theorem dX12_addsSpoon_7 : decode cX12_addsSpoon 7 = .ok (.aload_n 0, 1) := by decide +kernel
theorem dX12_addsSpoon_8 : decode cX12_addsSpoon 8 = .ok (.getfield 7, 3) := by decide +kernel
theorem dX12_addsSpoon_11 : decode cX12_addsSpoon 11 = .ok (.iconst 0, 1) := by decide +kernel
theorem dX12_addsSpoon_12 : decode cX12_addsSpoon 12 = .ok (.dup2, 1) := by decide +kernel
theorem dX12_addsSpoon_13 : decode cX12_addsSpoon 13 = .ok (.iaload, 1) := by decide +kernel
theorem dX12_addsSpoon_14 : decode cX12_addsSpoon 14 = .ok (.iconst 1, 1) := by decide +kernel
theorem dX12_addsSpoon_15 : decode cX12_addsSpoon 15 = .ok (.iadd, 1) := by decide +kernel
theorem dX12_addsSpoon_16 : decode cX12_addsSpoon 16 = .ok (.iastore, 1) := by decide +kernel
theorem dX12_addsSpoon_17 : decode cX12_addsSpoon 17 = .ok (.aload_n 0, 1) := by decide +kernel
theorem dX12_addsSpoon_18 : decode cX12_addsSpoon 18 = .ok (.iload_n 3, 1) := by decide +kernel
theorem dX12_addsSpoon_19 : decode cX12_addsSpoon 19 = .ok (.iconst 0, 1) := by decide +kernel
theorem dX12_addsSpoon_20 : decode cX12_addsSpoon 20 = .ok (.iload_n 1, 1) := by decide +kernel
theorem dX12_addsSpoon_21 : decode cX12_addsSpoon 21 = .ok (.invokevirtual 75, 3) := by decide +kernel
theorem dX12_addsSpoon_24 : decode cX12_addsSpoon 24 = .ok (.aload_n 0, 1) := by decide +kernel
theorem dX12_addsSpoon_25 : decode cX12_addsSpoon 25 = .ok (.iload_n 3, 1) := by decide +kernel
theorem dX12_addsSpoon_26 : decode cX12_addsSpoon 26 = .ok (.iconst 1, 1) := by decide +kernel
theorem dX12_addsSpoon_27 : decode cX12_addsSpoon 27 = .ok (.iload_n 2, 1) := by decide +kernel
theorem dX12_addsSpoon_28 : decode cX12_addsSpoon 28 = .ok (.invokevirtual 75, 3) := by decide +kernel
theorem dX12_addsSpoon_31 : decode cX12_addsSpoon 31 = .ok (.aload_n 0, 1) := by decide +kernel
theorem dX12_addsSpoon_32 : decode cX12_addsSpoon 32 = .ok (.iload_n 3, 1) := by decide +kernel
theorem dX12_addsSpoon_33 : decode cX12_addsSpoon 33 = .ok (.iconst 2, 1) := by decide +kernel
theorem dX12_addsSpoon_34 : decode cX12_addsSpoon 34 = .ok (.iconst 5, 1) := by decide +kernel
theorem dX12_addsSpoon_35 : decode cX12_addsSpoon 35 = .ok (.invokevirtual 75, 3) := by decide +kernel
theorem dX12_addsSpoon_38 : decode cX12_addsSpoon 38 = .ok (.iload_n 3, 1) := by decide +kernel
theorem dX12_addsSpoon_39 : decode cX12_addsSpoon 39 = .ok (.ireturn, 1) := by decide +kernel
theorem dX12_addSpoon_0 : decode cX12_addSpoon 0 = .ok (.aload_n 0, 1) := by decide +kernel
theorem dX12_addSpoon_1 : decode cX12_addSpoon 1 = .ok (.iconst 0, 1) := by decide +kernel
theorem dX12_addSpoon_2 : decode cX12_addSpoon 2 = .ok (.putfield 48, 3) := by decide +kernel
theorem dX12_addSpoon_5 : decode cX12_addSpoon 5 = .ok (.aload_n 0, 1) := by decide +kernel
theorem dX12_addSpoon_6 : decode cX12_addSpoon 6 = .ok (.iload_n 1, 1) := by decide +kernel
theorem dX12_addSpoon_7 : decode cX12_addSpoon 7 = .ok (.iload_n 2, 1) := by decide +kernel
theorem dX12_addSpoon_8 : decode cX12_addSpoon 8 = .ok (.invokevirtual 79, 3) := by decide +kernel
theorem dX12_addSpoon_11 : decode cX12_addSpoon 11 = .ok (.istore_n 3, 1) := by decide +kernel
theorem dX12_addSpoon_12 : decode cX12_addSpoon 12 = .ok (.iload_n 3, 1) := by decide +kernel
theorem dX12_addSpoon_13 : decode cX12_addSpoon 13 = .ok (.ifCond .eq 9, 3) := by decide +kernel
theorem dX12_addSpoon_16 : decode cX12_addSpoon 16 = .ok (.aload_n 0, 1) := by decide +kernel
theorem dX12_addSpoon_17 : decode cX12_addSpoon 17 = .ok (.iload_n 3, 1) := by decide +kernel
theorem dX12_addSpoon_18 : decode cX12_addSpoon 18 = .ok (.invokevirtual 82, 3) := by decide +kernel
theorem dX12_addSpoon_21 : decode cX12_addSpoon 21 = .ok (.ireturn, 1) := by decide +kernel
theorem dX12_addSpoon_22 : decode cX12_addSpoon 22 = .ok (.aload_n 0, 1) := by decide +kernel
theorem dX12_addSpoon_23 : decode cX12_addSpoon 23 = .ok (.invokevirtual 85, 3) := by decide +kernel
theorem dX12_addSpoon_26 : decode cX12_addSpoon 26 = .ok (.aload_n 0, 1) := by decide +kernel
theorem dX12_addSpoon_27 : decode cX12_addSpoon 27 = .ok (.iload_n 1, 1) := by decide +kernel
theorem dX12_addSpoon_28 : decode cX12_addSpoon 28 = .ok (.iload_n 2, 1) := by decide +kernel
theorem dX12_addSpoon_29 : decode cX12_addSpoon 29 = .ok (.invokevirtual 88, 3) := by decide +kernel
theorem dX12_addSpoon_32 : decode cX12_addSpoon 32 = .ok (.ireturn, 1) := by decide +kernel
theorem dX12_notPropose_0 : decode cX12_notPropose 0 = .ok (.iload_n 1, 1) := by decide +kernel
theorem dX12_notPropose_1 : decode cX12_notPropose 1 = .ok (.iconst 0, 1) := by decide +kernel
theorem dX12_notPropose_2 : decode cX12_notPropose 2 = .ok (.bipush 99, 2) := by decide +kernel
theorem dX12_notPropose_4 : decode cX12_notPropose 4 = .ok (.invokestatic 63, 3) := by decide +kernel
theorem dX12_notPropose_7 : decode cX12_notPropose 7 = .ok (.ifCond .ne 5, 3) := by decide +kernel
theorem dX12_notPropose_10 : decode cX12_notPropose 10 = .ok (.iconst 1, 1) := by decide +kernel
theorem dX12_notPropose_11 : decode cX12_notPropose 11 = .ok (.ireturn, 1) := by decide +kernel
theorem dX12_notPropose_12 : decode cX12_notPropose 12 = .ok (.aload_n 0, 1) := by decide +kernel
theorem dX12_notPropose_13 : decode cX12_notPropose 13 = .ok (.getfield 7, 3) := by decide +kernel
theorem dX12_notPropose_16 : decode cX12_notPropose 16 = .ok (.iconst 1, 1) := by decide +kernel
theorem dX12_notPropose_17 : decode cX12_notPropose 17 = .ok (.iaload, 1) := by decide +kernel
theorem dX12_notPropose_18 : decode cX12_notPropose 18 = .ok (.bipush 6, 2) := by decide +kernel
theorem dX12_notPropose_20 : decode cX12_notPropose 20 = .ok (.if_icmp .ne 7, 3) := by decide +kernel
theorem dX12_notPropose_23 : decode cX12_notPropose 23 = .ok (.iconst 2, 1) := by decide +kernel
theorem dX12_notPropose_24 : decode cX12_notPropose 24 = .ok (.goto 4, 3) := by decide +kernel
theorem dX12_notPropose_27 : decode cX12_notPropose 27 = .ok (.iconst 0, 1) := by decide +kernel
theorem dX12_notPropose_28 : decode cX12_notPropose 28 = .ok (.ireturn, 1) := by decide +kernel
theorem dX12_lists_0 : decode cX12_lists 0 = .ok (.aload_n 0, 1) := by decide +kernel
theorem dX12_lists_1 : decode cX12_lists 1 = .ok (.getfield 7, 3) := by decide +kernel
theorem dX12_lists_4 : decode cX12_lists 4 = .ok (.bipush 43, 2) := by decide +kernel
theorem dX12_lists_6 : decode cX12_lists 6 = .ok (.iconst 2, 1) := by decide +kernel
theorem dX12_lists_7 : decode cX12_lists 7 = .ok (.aload_n 0, 1) := by decide +kernel
theorem dX12_lists_8 : decode cX12_lists 8 = .ok (.getfield 7, 3) := by decide +kernel
theorem dX12_lists_11 : decode cX12_lists 11 = .ok (.iconst 1, 1) := by decide +kernel
theorem dX12_lists_12 : decode cX12_lists 12 = .ok (.iaload, 1) := by decide +kernel
theorem dX12_lists_13 : decode cX12_lists 13 = .ok (.imul, 1) := by decide +kernel
theorem dX12_lists_14 : decode cX12_lists 14 = .ok (.iadd, 1) := by decide +kernel
theorem dX12_lists_15 : decode cX12_lists 15 = .ok (.iload_n 1, 1) := by decide +kernel
theorem dX12_lists_16 : decode cX12_lists 16 = .ok (.iastore, 1) := by decide +kernel
theorem dX12_lists_17 : decode cX12_lists 17 = .ok (.aload_n 0, 1) := by decide +kernel
theorem dX12_lists_18 : decode cX12_lists 18 = .ok (.getfield 7, 3) := by decide +kernel
theorem dX12_lists_21 : decode cX12_lists 21 = .ok (.bipush 43, 2) := by decide +kernel
theorem dX12_lists_23 : decode cX12_lists 23 = .ok (.iconst 2, 1) := by decide +kernel
theorem dX12_lists_24 : decode cX12_lists 24 = .ok (.aload_n 0, 1) := by decide +kernel
theorem dX12_lists_25 : decode cX12_lists 25 = .ok (.getfield 7, 3) := by decide +kernel
theorem dX12_lists_28 : decode cX12_lists 28 = .ok (.iconst 1, 1) := by decide +kernel
theorem dX12_lists_29 : decode cX12_lists 29 = .ok (.iaload, 1) := by decide +kernel
theorem dX12_lists_30 : decode cX12_lists 30 = .ok (.imul, 1) := by decide +kernel
theorem dX12_lists_31 : decode cX12_lists 31 = .ok (.iadd, 1) := by decide +kernel
theorem dX12_lists_32 : decode cX12_lists 32 = .ok (.iconst 1, 1) := by decide +kernel
theorem dX12_lists_33 : decode cX12_lists 33 = .ok (.iadd, 1) := by decide +kernel
theorem dX12_lists_34 : decode cX12_lists 34 = .ok (.iload_n 2, 1) := by decide +kernel
theorem dX12_lists_35 : decode cX12_lists 35 = .ok (.iastore, 1) := by decide +kernel
theorem dX12_lists_36 : decode cX12_lists 36 = .ok (.aload_n 0, 1) := by decide +kernel
theorem dX12_lists_37 : decode cX12_lists 37 = .ok (.getfield 7, 3) := by decide +kernel
theorem dX12_lists_40 : decode cX12_lists 40 = .ok (.iconst 1, 1) := by decide +kernel
theorem dX12_lists_41 : decode cX12_lists 41 = .ok (.dup2, 1) := by decide +kernel
theorem dX12_lists_42 : decode cX12_lists 42 = .ok (.iaload, 1) := by decide +kernel
theorem dX12_lists_43 : decode cX12_lists 43 = .ok (.iconst 1, 1) := by decide +kernel
theorem dX12_lists_44 : decode cX12_lists 44 = .ok (.iadd, 1) := by decide +kernel
theorem dX12_lists_45 : decode cX12_lists 45 = .ok (.iastore, 1) := by decide +kernel
theorem dX12_lists_46 : decode cX12_lists 46 = .ok (.iload_n 1, 1) := by decide +kernel
theorem dX12_lists_47 : decode cX12_lists 47 = .ok (.ireturn, 1) := by decide +kernel
theorem dX12_proposes_0 : decode cX12_proposes 0 = .ok (.aload_n 0, 1) := by decide +kernel
theorem dX12_proposes_1 : decode cX12_proposes 1 = .ok (.getfield 7, 3) := by decide +kernel
theorem dX12_proposes_4 : decode cX12_proposes 4 = .ok (.iconst 2, 1) := by decide +kernel
theorem dX12_proposes_5 : decode cX12_proposes 5 = .ok (.dup2, 1) := by decide +kernel
theorem dX12_proposes_6 : decode cX12_proposes 6 = .ok (.iaload, 1) := by decide +kernel
theorem dX12_proposes_7 : decode cX12_proposes 7 = .ok (.iconst 1, 1) := by decide +kernel
theorem dX12_proposes_8 : decode cX12_proposes 8 = .ok (.iadd, 1) := by decide +kernel
theorem dX12_proposes_9 : decode cX12_proposes 9 = .ok (.iastore, 1) := by decide +kernel
theorem dX12_proposes_10 : decode cX12_proposes 10 = .ok (.aload_n 0, 1) := by decide +kernel
theorem dX12_proposes_11 : decode cX12_proposes 11 = .ok (.aload_n 0, 1) := by decide +kernel
theorem dX12_proposes_12 : decode cX12_proposes 12 = .ok (.getfield 7, 3) := by decide +kernel
theorem dX12_proposes_15 : decode cX12_proposes 15 = .ok (.iconst 2, 1) := by decide +kernel
theorem dX12_proposes_16 : decode cX12_proposes 16 = .ok (.iaload, 1) := by decide +kernel
theorem dX12_proposes_17 : decode cX12_proposes 17 = .ok (.iconst 1, 1) := by decide +kernel
theorem dX12_proposes_18 : decode cX12_proposes 18 = .ok (.isub, 1) := by decide +kernel
theorem dX12_proposes_19 : decode cX12_proposes 19 = .ok (.iload_n 1, 1) := by decide +kernel
theorem dX12_proposes_20 : decode cX12_proposes 20 = .ok (.invokevirtual 91, 3) := by decide +kernel
theorem dX12_proposes_23 : decode cX12_proposes 23 = .ok (.ireturn, 1) := by decide +kernel
theorem dX12_propose_0 : decode cX12_propose 0 = .ok (.aload_n 0, 1) := by decide +kernel
theorem dX12_propose_1 : decode cX12_propose 1 = .ok (.iconst 0, 1) := by decide +kernel
theorem dX12_propose_2 : decode cX12_propose 2 = .ok (.putfield 48, 3) := by decide +kernel
theorem dX12_propose_5 : decode cX12_propose 5 = .ok (.aload_n 0, 1) := by decide +kernel
theorem dX12_propose_6 : decode cX12_propose 6 = .ok (.iload_n 1, 1) := by decide +kernel
theorem dX12_propose_7 : decode cX12_propose 7 = .ok (.invokevirtual 94, 3) := by decide +kernel
theorem dX12_propose_10 : decode cX12_propose 10 = .ok (.istore_n 2, 1) := by decide +kernel
theorem dX12_propose_11 : decode cX12_propose 11 = .ok (.iload_n 2, 1) := by decide +kernel
theorem dX12_propose_12 : decode cX12_propose 12 = .ok (.ifCond .eq 9, 3) := by decide +kernel
theorem dX12_propose_15 : decode cX12_propose 15 = .ok (.aload_n 0, 1) := by decide +kernel
theorem dX12_propose_16 : decode cX12_propose 16 = .ok (.iload_n 2, 1) := by decide +kernel
theorem dX12_propose_17 : decode cX12_propose 17 = .ok (.invokevirtual 82, 3) := by decide +kernel
theorem dX12_propose_20 : decode cX12_propose 20 = .ok (.ireturn, 1) := by decide +kernel
theorem dX12_propose_21 : decode cX12_propose 21 = .ok (.aload_n 0, 1) := by decide +kernel
theorem dX12_propose_22 : decode cX12_propose 22 = .ok (.invokevirtual 85, 3) := by decide +kernel
theorem dX12_propose_25 : decode cX12_propose 25 = .ok (.aload_n 0, 1) := by decide +kernel
theorem dX12_propose_26 : decode cX12_propose 26 = .ok (.iload_n 1, 1) := by decide +kernel
theorem dX12_propose_27 : decode cX12_propose 27 = .ok (.invokevirtual 97, 3) := by decide +kernel
theorem dX12_propose_30 : decode cX12_propose 30 = .ok (.ireturn, 1) := by decide +kernel
theorem dX12_takesOff_0 : decode cX12_takesOff 0 = .ok (.aload_n 0, 1) := by decide +kernel
theorem dX12_takesOff_1 : decode cX12_takesOff 1 = .ok (.getfield 7, 3) := by decide +kernel
theorem dX12_takesOff_4 : decode cX12_takesOff 4 = .ok (.iconst 1, 1) := by decide +kernel
theorem dX12_takesOff_5 : decode cX12_takesOff 5 = .ok (.dup2, 1) := by decide +kernel
theorem dX12_takesOff_6 : decode cX12_takesOff 6 = .ok (.iaload, 1) := by decide +kernel
theorem dX12_takesOff_7 : decode cX12_takesOff 7 = .ok (.iconst 1, 1) := by decide +kernel
theorem dX12_takesOff_8 : decode cX12_takesOff 8 = .ok (.isub, 1) := by decide +kernel
theorem dX12_takesOff_9 : decode cX12_takesOff 9 = .ok (.iastore, 1) := by decide +kernel
theorem dX12_takesOff_10 : decode cX12_takesOff 10 = .ok (.bipush 43, 2) := by decide +kernel
theorem dX12_takesOff_12 : decode cX12_takesOff 12 = .ok (.iconst 2, 1) := by decide +kernel
theorem dX12_takesOff_13 : decode cX12_takesOff 13 = .ok (.aload_n 0, 1) := by decide +kernel
theorem dX12_takesOff_14 : decode cX12_takesOff 14 = .ok (.getfield 7, 3) := by decide +kernel
theorem dX12_takesOff_17 : decode cX12_takesOff 17 = .ok (.iconst 1, 1) := by decide +kernel
theorem dX12_takesOff_18 : decode cX12_takesOff 18 = .ok (.iaload, 1) := by decide +kernel
theorem dX12_takesOff_19 : decode cX12_takesOff 19 = .ok (.imul, 1) := by decide +kernel
theorem dX12_takesOff_20 : decode cX12_takesOff 20 = .ok (.iadd, 1) := by decide +kernel
theorem dX12_takesOff_21 : decode cX12_takesOff 21 = .ok (.istore_n 2, 1) := by decide +kernel
theorem dX12_takesOff_22 : decode cX12_takesOff 22 = .ok (.bipush 43, 2) := by decide +kernel
theorem dX12_takesOff_24 : decode cX12_takesOff 24 = .ok (.iconst 2, 1) := by decide +kernel
theorem dX12_takesOff_25 : decode cX12_takesOff 25 = .ok (.iload_n 1, 1) := by decide +kernel
theorem dX12_takesOff_26 : decode cX12_takesOff 26 = .ok (.imul, 1) := by decide +kernel
theorem dX12_takesOff_27 : decode cX12_takesOff 27 = .ok (.iadd, 1) := by decide +kernel
theorem dX12_takesOff_28 : decode cX12_takesOff 28 = .ok (.istore_n 3, 1) := by decide +kernel
theorem dX12_takesOff_29 : decode cX12_takesOff 29 = .ok (.iload_n 3, 1) := by decide +kernel
theorem dX12_takesOff_30 : decode cX12_takesOff 30 = .ok (.iload_n 2, 1) := by decide +kernel
theorem dX12_takesOff_31 : decode cX12_takesOff 31 = .ok (.if_icmp .ge 23, 3) := by decide +kernel
theorem dX12_takesOff_34 : decode cX12_takesOff 34 = .ok (.aload_n 0, 1) := by decide +kernel
theorem dX12_takesOff_35 : decode cX12_takesOff 35 = .ok (.getfield 7, 3) := by decide +kernel
theorem dX12_takesOff_38 : decode cX12_takesOff 38 = .ok (.iload_n 3, 1) := by decide +kernel
theorem dX12_takesOff_39 : decode cX12_takesOff 39 = .ok (.aload_n 0, 1) := by decide +kernel
theorem dX12_takesOff_40 : decode cX12_takesOff 40 = .ok (.getfield 7, 3) := by decide +kernel
theorem dX12_takesOff_43 : decode cX12_takesOff 43 = .ok (.iload_n 3, 1) := by decide +kernel
theorem dX12_takesOff_44 : decode cX12_takesOff 44 = .ok (.iconst 2, 1) := by decide +kernel
theorem dX12_takesOff_45 : decode cX12_takesOff 45 = .ok (.iadd, 1) := by decide +kernel
theorem dX12_takesOff_46 : decode cX12_takesOff 46 = .ok (.iaload, 1) := by decide +kernel
theorem dX12_takesOff_47 : decode cX12_takesOff 47 = .ok (.iastore, 1) := by decide +kernel
theorem dX12_takesOff_48 : decode cX12_takesOff 48 = .ok (.iinc 3 1, 3) := by decide +kernel
theorem dX12_takesOff_51 : decode cX12_takesOff 51 = .ok (.goto (-22), 3) := by decide +kernel
theorem dX12_takesOff_54 : decode cX12_takesOff 54 = .ok (.aload_n 0, 1) := by decide +kernel
theorem dX12_takesOff_55 : decode cX12_takesOff 55 = .ok (.getfield 7, 3) := by decide +kernel
theorem dX12_takesOff_58 : decode cX12_takesOff 58 = .ok (.iload_n 2, 1) := by decide +kernel
theorem dX12_takesOff_59 : decode cX12_takesOff 59 = .ok (.iconst 0, 1) := by decide +kernel
theorem dX12_takesOff_60 : decode cX12_takesOff 60 = .ok (.iastore, 1) := by decide +kernel
theorem dX12_takesOff_61 : decode cX12_takesOff 61 = .ok (.aload_n 0, 1) := by decide +kernel
theorem dX12_takesOff_62 : decode cX12_takesOff 62 = .ok (.getfield 7, 3) := by decide +kernel
theorem dX12_takesOff_65 : decode cX12_takesOff 65 = .ok (.iload_n 2, 1) := by decide +kernel
theorem dX12_takesOff_66 : decode cX12_takesOff 66 = .ok (.iconst 1, 1) := by decide +kernel
theorem dX12_takesOff_67 : decode cX12_takesOff 67 = .ok (.iadd, 1) := by decide +kernel
theorem dX12_takesOff_68 : decode cX12_takesOff 68 = .ok (.iconst 0, 1) := by decide +kernel
theorem dX12_takesOff_69 : decode cX12_takesOff 69 = .ok (.iastore, 1) := by decide +kernel
theorem dX12_takesOff_70 : decode cX12_takesOff 70 = .ok (.return_, 1) := by decide +kernel
theorem dX12_top_0 : decode cX12_top 0 = .ok (.aload_n 0, 1) := by decide +kernel
theorem dX12_top_1 : decode cX12_top 1 = .ok (.getfield 7, 3) := by decide +kernel
theorem dX12_top_4 : decode cX12_top 4 = .ok (.iconst 3, 1) := by decide +kernel
theorem dX12_top_5 : decode cX12_top 5 = .ok (.iaload, 1) := by decide +kernel
theorem dX12_top_6 : decode cX12_top 6 = .ok (.ifCond .ne 7, 3) := by decide +kernel
theorem dX12_top_9 : decode cX12_top 9 = .ok (.iconst (-1), 1) := by decide +kernel
theorem dX12_top_10 : decode cX12_top 10 = .ok (.goto 19, 3) := by decide +kernel
theorem dX12_top_13 : decode cX12_top 13 = .ok (.aload_n 0, 1) := by decide +kernel
theorem dX12_top_14 : decode cX12_top 14 = .ok (.getfield 7, 3) := by decide +kernel
theorem dX12_top_17 : decode cX12_top 17 = .ok (.bipush 55, 2) := by decide +kernel
theorem dX12_top_19 : decode cX12_top 19 = .ok (.aload_n 0, 1) := by decide +kernel
theorem dX12_top_20 : decode cX12_top 20 = .ok (.getfield 7, 3) := by decide +kernel
theorem dX12_top_23 : decode cX12_top 23 = .ok (.iconst 3, 1) := by decide +kernel
theorem dX12_top_24 : decode cX12_top 24 = .ok (.iaload, 1) := by decide +kernel
theorem dX12_top_25 : decode cX12_top 25 = .ok (.iadd, 1) := by decide +kernel
theorem dX12_top_26 : decode cX12_top 26 = .ok (.iconst 1, 1) := by decide +kernel
theorem dX12_top_27 : decode cX12_top 27 = .ok (.isub, 1) := by decide +kernel
theorem dX12_top_28 : decode cX12_top 28 = .ok (.iaload, 1) := by decide +kernel
theorem dX12_top_29 : decode cX12_top 29 = .ok (.ireturn, 1) := by decide +kernel
theorem dX12_canMake_0 : decode cX12_canMake 0 = .ok (.iload_n 1, 1) := by decide +kernel
theorem dX12_canMake_1 : decode cX12_canMake 1 = .ok (.ifCond .ne 18, 3) := by decide +kernel
theorem dX12_canMake_4 : decode cX12_canMake 4 = .ok (.aload_n 0, 1) := by decide +kernel
theorem dX12_canMake_5 : decode cX12_canMake 5 = .ok (.getfield 7, 3) := by decide +kernel
theorem dX12_canMake_8 : decode cX12_canMake 8 = .ok (.iconst 3, 1) := by decide +kernel
theorem dX12_canMake_9 : decode cX12_canMake 9 = .ok (.iaload, 1) := by decide +kernel
theorem dX12_canMake_10 : decode cX12_canMake 10 = .ok (.ifCond .ne 7, 3) := by decide +kernel
theorem dX12_canMake_13 : decode cX12_canMake 13 = .ok (.iconst 1, 1) := by decide +kernel
theorem dX12_canMake_14 : decode cX12_canMake 14 = .ok (.goto 4, 3) := by decide +kernel
theorem dX12_canMake_17 : decode cX12_canMake 17 = .ok (.iconst 0, 1) := by decide +kernel
theorem dX12_canMake_18 : decode cX12_canMake 18 = .ok (.ireturn, 1) := by decide +kernel
theorem dX12_canMake_19 : decode cX12_canMake 19 = .ok (.aload_n 0, 1) := by decide +kernel
theorem dX12_canMake_20 : decode cX12_canMake 20 = .ok (.getfield 7, 3) := by decide +kernel
theorem dX12_canMake_23 : decode cX12_canMake 23 = .ok (.iconst 3, 1) := by decide +kernel
theorem dX12_canMake_24 : decode cX12_canMake 24 = .ok (.iaload, 1) := by decide +kernel
theorem dX12_canMake_25 : decode cX12_canMake 25 = .ok (.ifCond .ne 14, 3) := by decide +kernel
theorem dX12_canMake_28 : decode cX12_canMake 28 = .ok (.iload_n 1, 1) := by decide +kernel
theorem dX12_canMake_29 : decode cX12_canMake 29 = .ok (.iconst 4, 1) := by decide +kernel
theorem dX12_canMake_30 : decode cX12_canMake 30 = .ok (.if_icmp .ne 7, 3) := by decide +kernel
theorem dX12_canMake_33 : decode cX12_canMake 33 = .ok (.iconst 1, 1) := by decide +kernel
theorem dX12_canMake_34 : decode cX12_canMake 34 = .ok (.goto 4, 3) := by decide +kernel
theorem dX12_canMake_37 : decode cX12_canMake 37 = .ok (.iconst 0, 1) := by decide +kernel
theorem dX12_canMake_38 : decode cX12_canMake 38 = .ok (.ireturn, 1) := by decide +kernel
theorem dX12_canMake_39 : decode cX12_canMake 39 = .ok (.iload_n 1, 1) := by decide +kernel
theorem dX12_canMake_40 : decode cX12_canMake 40 = .ok (.aload_n 0, 1) := by decide +kernel
theorem dX12_canMake_41 : decode cX12_canMake 41 = .ok (.invokevirtual 100, 3) := by decide +kernel
theorem dX12_canMake_44 : decode cX12_canMake 44 = .ok (.if_icmp .le 21, 3) := by decide +kernel
theorem dX12_canMake_47 : decode cX12_canMake 47 = .ok (.iload_n 1, 1) := by decide +kernel
theorem dX12_canMake_48 : decode cX12_canMake 48 = .ok (.iconst 1, 1) := by decide +kernel
theorem dX12_canMake_49 : decode cX12_canMake 49 = .ok (.if_icmp .ne 12, 3) := by decide +kernel
theorem dX12_canMake_52 : decode cX12_canMake 52 = .ok (.aload_n 0, 1) := by decide +kernel
theorem dX12_canMake_53 : decode cX12_canMake 53 = .ok (.getfield 7, 3) := by decide +kernel
theorem dX12_canMake_56 : decode cX12_canMake 56 = .ok (.iconst 4, 1) := by decide +kernel
theorem dX12_canMake_57 : decode cX12_canMake 57 = .ok (.iaload, 1) := by decide +kernel
theorem dX12_canMake_58 : decode cX12_canMake 58 = .ok (.ifCond .ne 7, 3) := by decide +kernel
theorem dX12_canMake_61 : decode cX12_canMake 61 = .ok (.iconst 1, 1) := by decide +kernel
theorem dX12_canMake_62 : decode cX12_canMake 62 = .ok (.goto 4, 3) := by decide +kernel
theorem dX12_canMake_65 : decode cX12_canMake 65 = .ok (.iconst 0, 1) := by decide +kernel
theorem dX12_canMake_66 : decode cX12_canMake 66 = .ok (.ireturn, 1) := by decide +kernel
theorem dX12_makes_0 : decode cX12_makes 0 = .ok (.aload_n 0, 1) := by decide +kernel
theorem dX12_makes_1 : decode cX12_makes 1 = .ok (.getfield 7, 3) := by decide +kernel
theorem dX12_makes_4 : decode cX12_makes 4 = .ok (.bipush 55, 2) := by decide +kernel
theorem dX12_makes_6 : decode cX12_makes 6 = .ok (.aload_n 0, 1) := by decide +kernel
theorem dX12_makes_7 : decode cX12_makes 7 = .ok (.getfield 7, 3) := by decide +kernel
theorem dX12_makes_10 : decode cX12_makes 10 = .ok (.iconst 3, 1) := by decide +kernel
theorem dX12_makes_11 : decode cX12_makes 11 = .ok (.iaload, 1) := by decide +kernel
theorem dX12_makes_12 : decode cX12_makes 12 = .ok (.iadd, 1) := by decide +kernel
theorem dX12_makes_13 : decode cX12_makes 13 = .ok (.iload_n 1, 1) := by decide +kernel
theorem dX12_makes_14 : decode cX12_makes 14 = .ok (.iastore, 1) := by decide +kernel
theorem dX12_makes_15 : decode cX12_makes 15 = .ok (.aload_n 0, 1) := by decide +kernel
theorem dX12_makes_16 : decode cX12_makes 16 = .ok (.getfield 7, 3) := by decide +kernel
theorem dX12_makes_19 : decode cX12_makes 19 = .ok (.iconst 3, 1) := by decide +kernel
theorem dX12_makes_20 : decode cX12_makes 20 = .ok (.dup2, 1) := by decide +kernel
theorem dX12_makes_21 : decode cX12_makes 21 = .ok (.iaload, 1) := by decide +kernel
theorem dX12_makes_22 : decode cX12_makes 22 = .ok (.iconst 1, 1) := by decide +kernel
theorem dX12_makes_23 : decode cX12_makes 23 = .ok (.iadd, 1) := by decide +kernel
theorem dX12_makes_24 : decode cX12_makes 24 = .ok (.iastore, 1) := by decide +kernel
theorem dX12_makes_25 : decode cX12_makes 25 = .ok (.aload_n 0, 1) := by decide +kernel
theorem dX12_makes_26 : decode cX12_makes 26 = .ok (.getfield 7, 3) := by decide +kernel
theorem dX12_makes_29 : decode cX12_makes 29 = .ok (.iconst 3, 1) := by decide +kernel
theorem dX12_makes_30 : decode cX12_makes 30 = .ok (.iaload, 1) := by decide +kernel
theorem dX12_makes_31 : decode cX12_makes 31 = .ok (.ireturn, 1) := by decide +kernel
theorem dX12_notMain_0 : decode cX12_notMain 0 = .ok (.aload_n 0, 1) := by decide +kernel
theorem dX12_notMain_1 : decode cX12_notMain 1 = .ok (.iload_n 1, 1) := by decide +kernel
theorem dX12_notMain_2 : decode cX12_notMain 2 = .ok (.invokevirtual 104, 3) := by decide +kernel
theorem dX12_notMain_5 : decode cX12_notMain 5 = .ok (.ifCond .ge 5, 3) := by decide +kernel
theorem dX12_notMain_8 : decode cX12_notMain 8 = .ok (.iconst 1, 1) := by decide +kernel
theorem dX12_notMain_9 : decode cX12_notMain 9 = .ok (.ireturn, 1) := by decide +kernel
theorem dX12_notMain_10 : decode cX12_notMain 10 = .ok (.aload_n 0, 1) := by decide +kernel
theorem dX12_notMain_11 : decode cX12_notMain 11 = .ok (.iconst 0, 1) := by decide +kernel
theorem dX12_notMain_12 : decode cX12_notMain 12 = .ok (.invokevirtual 107, 3) := by decide +kernel
theorem dX12_notMain_15 : decode cX12_notMain 15 = .ok (.ifCond .eq 7, 3) := by decide +kernel
theorem dX12_notMain_18 : decode cX12_notMain 18 = .ok (.iconst 0, 1) := by decide +kernel
theorem dX12_notMain_19 : decode cX12_notMain 19 = .ok (.goto 4, 3) := by decide +kernel
theorem dX12_notMain_22 : decode cX12_notMain 22 = .ok (.iconst 2, 1) := by decide +kernel
theorem dX12_notMain_23 : decode cX12_notMain 23 = .ok (.ireturn, 1) := by decide +kernel
theorem dX12_makesMain_0 : decode cX12_makesMain 0 = .ok (.aload_n 0, 1) := by decide +kernel
theorem dX12_makesMain_1 : decode cX12_makesMain 1 = .ok (.getfield 7, 3) := by decide +kernel
theorem dX12_makesMain_4 : decode cX12_makesMain 4 = .ok (.bipush 60, 2) := by decide +kernel
theorem dX12_makesMain_6 : decode cX12_makesMain 6 = .ok (.iload_n 1, 1) := by decide +kernel
theorem dX12_makesMain_7 : decode cX12_makesMain 7 = .ok (.iastore, 1) := by decide +kernel
theorem dX12_makesMain_8 : decode cX12_makesMain 8 = .ok (.aload_n 0, 1) := by decide +kernel
theorem dX12_makesMain_9 : decode cX12_makesMain 9 = .ok (.iconst 0, 1) := by decide +kernel
theorem dX12_makesMain_10 : decode cX12_makesMain 10 = .ok (.invokevirtual 111, 3) := by decide +kernel
theorem dX12_makesMain_13 : decode cX12_makesMain 13 = .ok (.ireturn, 1) := by decide +kernel
theorem dX12_moveMain_0 : decode cX12_moveMain 0 = .ok (.aload_n 0, 1) := by decide +kernel
theorem dX12_moveMain_1 : decode cX12_moveMain 1 = .ok (.iconst 0, 1) := by decide +kernel
theorem dX12_moveMain_2 : decode cX12_moveMain 2 = .ok (.putfield 48, 3) := by decide +kernel
theorem dX12_moveMain_5 : decode cX12_moveMain 5 = .ok (.aload_n 0, 1) := by decide +kernel
theorem dX12_moveMain_6 : decode cX12_moveMain 6 = .ok (.iload_n 1, 1) := by decide +kernel
theorem dX12_moveMain_7 : decode cX12_moveMain 7 = .ok (.invokevirtual 114, 3) := by decide +kernel
theorem dX12_moveMain_10 : decode cX12_moveMain 10 = .ok (.istore_n 2, 1) := by decide +kernel
theorem dX12_moveMain_11 : decode cX12_moveMain 11 = .ok (.iload_n 2, 1) := by decide +kernel
theorem dX12_moveMain_12 : decode cX12_moveMain 12 = .ok (.ifCond .eq 9, 3) := by decide +kernel
theorem dX12_moveMain_15 : decode cX12_moveMain 15 = .ok (.aload_n 0, 1) := by decide +kernel
theorem dX12_moveMain_16 : decode cX12_moveMain 16 = .ok (.iload_n 2, 1) := by decide +kernel
theorem dX12_moveMain_17 : decode cX12_moveMain 17 = .ok (.invokevirtual 82, 3) := by decide +kernel
theorem dX12_moveMain_20 : decode cX12_moveMain 20 = .ok (.ireturn, 1) := by decide +kernel
theorem dX12_moveMain_21 : decode cX12_moveMain 21 = .ok (.aload_n 0, 1) := by decide +kernel
theorem dX12_moveMain_22 : decode cX12_moveMain 22 = .ok (.invokevirtual 85, 3) := by decide +kernel
theorem dX12_moveMain_25 : decode cX12_moveMain 25 = .ok (.aload_n 0, 1) := by decide +kernel
theorem dX12_moveMain_26 : decode cX12_moveMain 26 = .ok (.iload_n 1, 1) := by decide +kernel
theorem dX12_moveMain_27 : decode cX12_moveMain 27 = .ok (.invokevirtual 117, 3) := by decide +kernel
theorem dX12_moveMain_30 : decode cX12_moveMain 30 = .ok (.ireturn, 1) := by decide +kernel
theorem dX12_notAmend_0 : decode cX12_notAmend 0 = .ok (.iload_n 1, 1) := by decide +kernel
theorem dX12_notAmend_1 : decode cX12_notAmend 1 = .ok (.bipush (-20), 2) := by decide +kernel
theorem dX12_notAmend_3 : decode cX12_notAmend 3 = .ok (.bipush 20, 2) := by decide +kernel
theorem dX12_notAmend_5 : decode cX12_notAmend 5 = .ok (.invokestatic 63, 3) := by decide +kernel
theorem dX12_notAmend_8 : decode cX12_notAmend 8 = .ok (.ifCond .ne 5, 3) := by decide +kernel
theorem dX12_notAmend_11 : decode cX12_notAmend 11 = .ok (.iconst 1, 1) := by decide +kernel
theorem dX12_notAmend_12 : decode cX12_notAmend 12 = .ok (.ireturn, 1) := by decide +kernel
theorem dX12_notAmend_13 : decode cX12_notAmend 13 = .ok (.aload_n 0, 1) := by decide +kernel
theorem dX12_notAmend_14 : decode cX12_notAmend 14 = .ok (.iconst 1, 1) := by decide +kernel
theorem dX12_notAmend_15 : decode cX12_notAmend 15 = .ok (.invokevirtual 107, 3) := by decide +kernel
theorem dX12_notAmend_18 : decode cX12_notAmend 18 = .ok (.ifCond .eq 7, 3) := by decide +kernel
theorem dX12_notAmend_21 : decode cX12_notAmend 21 = .ok (.iconst 0, 1) := by decide +kernel
theorem dX12_notAmend_22 : decode cX12_notAmend 22 = .ok (.goto 4, 3) := by decide +kernel
theorem dX12_notAmend_25 : decode cX12_notAmend 25 = .ok (.iconst 2, 1) := by decide +kernel
theorem dX12_notAmend_26 : decode cX12_notAmend 26 = .ok (.ireturn, 1) := by decide +kernel
theorem dX12_makesAmendment_0 : decode cX12_makesAmendment 0 = .ok (.aload_n 0, 1) := by decide +kernel
theorem dX12_makesAmendment_1 : decode cX12_makesAmendment 1 = .ok (.getfield 7, 3) := by decide +kernel
theorem dX12_makesAmendment_4 : decode cX12_makesAmendment 4 = .ok (.bipush 61, 2) := by decide +kernel
theorem dX12_makesAmendment_6 : decode cX12_makesAmendment 6 = .ok (.iload_n 1, 1) := by decide +kernel
theorem dX12_makesAmendment_7 : decode cX12_makesAmendment 7 = .ok (.iastore, 1) := by decide +kernel
theorem dX12_makesAmendment_8 : decode cX12_makesAmendment 8 = .ok (.aload_n 0, 1) := by decide +kernel
theorem dX12_makesAmendment_9 : decode cX12_makesAmendment 9 = .ok (.iconst 1, 1) := by decide +kernel
theorem dX12_makesAmendment_10 : decode cX12_makesAmendment 10 = .ok (.invokevirtual 111, 3) := by decide +kernel
theorem dX12_makesAmendment_13 : decode cX12_makesAmendment 13 = .ok (.ireturn, 1) := by decide +kernel
theorem dX12_moveAmendment_0 : decode cX12_moveAmendment 0 = .ok (.aload_n 0, 1) := by decide +kernel
theorem dX12_moveAmendment_1 : decode cX12_moveAmendment 1 = .ok (.iconst 0, 1) := by decide +kernel
theorem dX12_moveAmendment_2 : decode cX12_moveAmendment 2 = .ok (.putfield 48, 3) := by decide +kernel
theorem dX12_moveAmendment_5 : decode cX12_moveAmendment 5 = .ok (.aload_n 0, 1) := by decide +kernel
theorem dX12_moveAmendment_6 : decode cX12_moveAmendment 6 = .ok (.iload_n 1, 1) := by decide +kernel
theorem dX12_moveAmendment_7 : decode cX12_moveAmendment 7 = .ok (.invokevirtual 120, 3) := by decide +kernel
theorem dX12_moveAmendment_10 : decode cX12_moveAmendment 10 = .ok (.istore_n 2, 1) := by decide +kernel
theorem dX12_moveAmendment_11 : decode cX12_moveAmendment 11 = .ok (.iload_n 2, 1) := by decide +kernel
theorem dX12_moveAmendment_12 : decode cX12_moveAmendment 12 = .ok (.ifCond .eq 9, 3) := by decide +kernel
theorem dX12_moveAmendment_15 : decode cX12_moveAmendment 15 = .ok (.aload_n 0, 1) := by decide +kernel
theorem dX12_moveAmendment_16 : decode cX12_moveAmendment 16 = .ok (.iload_n 2, 1) := by decide +kernel
theorem dX12_moveAmendment_17 : decode cX12_moveAmendment 17 = .ok (.invokevirtual 82, 3) := by decide +kernel
theorem dX12_moveAmendment_20 : decode cX12_moveAmendment 20 = .ok (.ireturn, 1) := by decide +kernel
theorem dX12_moveAmendment_21 : decode cX12_moveAmendment 21 = .ok (.aload_n 0, 1) := by decide +kernel
theorem dX12_moveAmendment_22 : decode cX12_moveAmendment 22 = .ok (.invokevirtual 85, 3) := by decide +kernel
theorem dX12_moveAmendment_25 : decode cX12_moveAmendment 25 = .ok (.aload_n 0, 1) := by decide +kernel
theorem dX12_moveAmendment_26 : decode cX12_moveAmendment 26 = .ok (.iload_n 1, 1) := by decide +kernel
theorem dX12_moveAmendment_27 : decode cX12_moveAmendment 27 = .ok (.invokevirtual 123, 3) := by decide +kernel
theorem dX12_moveAmendment_30 : decode cX12_moveAmendment 30 = .ok (.ireturn, 1) := by decide +kernel
theorem dX12_moves_0 : decode cX12_moves 0 = .ok (.aload_n 0, 1) := by decide +kernel
theorem dX12_moves_1 : decode cX12_moves 1 = .ok (.iconst 0, 1) := by decide +kernel
theorem dX12_moves_2 : decode cX12_moves 2 = .ok (.putfield 48, 3) := by decide +kernel
theorem dX12_moves_5 : decode cX12_moves 5 = .ok (.aload_n 0, 1) := by decide +kernel
theorem dX12_moves_6 : decode cX12_moves 6 = .ok (.iload_n 1, 1) := by decide +kernel
theorem dX12_moves_7 : decode cX12_moves 7 = .ok (.invokevirtual 107, 3) := by decide +kernel
theorem dX12_moves_10 : decode cX12_moves 10 = .ok (.ifCond .ne 9, 3) := by decide +kernel
theorem dX12_moves_13 : decode cX12_moves 13 = .ok (.aload_n 0, 1) := by decide +kernel
theorem dX12_moves_14 : decode cX12_moves 14 = .ok (.iconst 1, 1) := by decide +kernel
theorem dX12_moves_15 : decode cX12_moves 15 = .ok (.invokevirtual 82, 3) := by decide +kernel
theorem dX12_moves_18 : decode cX12_moves 18 = .ok (.ireturn, 1) := by decide +kernel
theorem dX12_moves_19 : decode cX12_moves 19 = .ok (.aload_n 0, 1) := by decide +kernel
theorem dX12_moves_20 : decode cX12_moves 20 = .ok (.invokevirtual 85, 3) := by decide +kernel
theorem dX12_moves_23 : decode cX12_moves 23 = .ok (.aload_n 0, 1) := by decide +kernel
theorem dX12_moves_24 : decode cX12_moves 24 = .ok (.iload_n 1, 1) := by decide +kernel
theorem dX12_moves_25 : decode cX12_moves 25 = .ok (.invokevirtual 111, 3) := by decide +kernel
theorem dX12_moves_28 : decode cX12_moves 28 = .ok (.ireturn, 1) := by decide +kernel
theorem dX12_movePostponement_0 : decode cX12_movePostponement 0 = .ok (.aload_n 0, 1) := by decide +kernel
theorem dX12_movePostponement_1 : decode cX12_movePostponement 1 = .ok (.iconst 2, 1) := by decide +kernel
theorem dX12_movePostponement_2 : decode cX12_movePostponement 2 = .ok (.invokevirtual 126, 3) := by decide +kernel
theorem dX12_movePostponement_5 : decode cX12_movePostponement 5 = .ok (.ireturn, 1) := by decide +kernel
theorem dX12_moveClosure_0 : decode cX12_moveClosure 0 = .ok (.aload_n 0, 1) := by decide +kernel
theorem dX12_moveClosure_1 : decode cX12_moveClosure 1 = .ok (.iconst 3, 1) := by decide +kernel
theorem dX12_moveClosure_2 : decode cX12_moveClosure 2 = .ok (.invokevirtual 126, 3) := by decide +kernel
theorem dX12_moveClosure_5 : decode cX12_moveClosure 5 = .ok (.ireturn, 1) := by decide +kernel
theorem dX12_moveAdjournment_0 : decode cX12_moveAdjournment 0 = .ok (.aload_n 0, 1) := by decide +kernel
theorem dX12_moveAdjournment_1 : decode cX12_moveAdjournment 1 = .ok (.iconst 4, 1) := by decide +kernel
theorem dX12_moveAdjournment_2 : decode cX12_moveAdjournment 2 = .ok (.invokevirtual 126, 3) := by decide +kernel
theorem dX12_moveAdjournment_5 : decode cX12_moveAdjournment 5 = .ok (.ireturn, 1) := by decide +kernel
theorem dX12_empties_0 : decode cX12_empties 0 = .ok (.iconst 0, 1) := by decide +kernel
theorem dX12_empties_1 : decode cX12_empties 1 = .ok (.istore_n 1, 1) := by decide +kernel
theorem dX12_empties_2 : decode cX12_empties 2 = .ok (.iload_n 1, 1) := by decide +kernel
theorem dX12_empties_3 : decode cX12_empties 3 = .ok (.iconst 5, 1) := by decide +kernel
theorem dX12_empties_4 : decode cX12_empties 4 = .ok (.if_icmp .ge 19, 3) := by decide +kernel
theorem dX12_empties_7 : decode cX12_empties 7 = .ok (.aload_n 0, 1) := by decide +kernel
theorem dX12_empties_8 : decode cX12_empties 8 = .ok (.getfield 7, 3) := by decide +kernel
theorem dX12_empties_11 : decode cX12_empties 11 = .ok (.bipush 55, 2) := by decide +kernel
theorem dX12_empties_13 : decode cX12_empties 13 = .ok (.iload_n 1, 1) := by decide +kernel
theorem dX12_empties_14 : decode cX12_empties 14 = .ok (.iadd, 1) := by decide +kernel
theorem dX12_empties_15 : decode cX12_empties 15 = .ok (.iconst 0, 1) := by decide +kernel
theorem dX12_empties_16 : decode cX12_empties 16 = .ok (.iastore, 1) := by decide +kernel
theorem dX12_empties_17 : decode cX12_empties 17 = .ok (.iinc 1 1, 3) := by decide +kernel
theorem dX12_empties_20 : decode cX12_empties 20 = .ok (.goto (-18), 3) := by decide +kernel
theorem dX12_empties_23 : decode cX12_empties 23 = .ok (.aload_n 0, 1) := by decide +kernel
theorem dX12_empties_24 : decode cX12_empties 24 = .ok (.getfield 7, 3) := by decide +kernel
theorem dX12_empties_27 : decode cX12_empties 27 = .ok (.iconst 3, 1) := by decide +kernel
theorem dX12_empties_28 : decode cX12_empties 28 = .ok (.iconst 0, 1) := by decide +kernel
theorem dX12_empties_29 : decode cX12_empties 29 = .ok (.iastore, 1) := by decide +kernel
theorem dX12_empties_30 : decode cX12_empties 30 = .ok (.aload_n 0, 1) := by decide +kernel
theorem dX12_empties_31 : decode cX12_empties 31 = .ok (.getfield 7, 3) := by decide +kernel
theorem dX12_empties_34 : decode cX12_empties 34 = .ok (.bipush 60, 2) := by decide +kernel
theorem dX12_empties_36 : decode cX12_empties 36 = .ok (.iconst 0, 1) := by decide +kernel
theorem dX12_empties_37 : decode cX12_empties 37 = .ok (.iastore, 1) := by decide +kernel
theorem dX12_empties_38 : decode cX12_empties 38 = .ok (.aload_n 0, 1) := by decide +kernel
theorem dX12_empties_39 : decode cX12_empties 39 = .ok (.getfield 7, 3) := by decide +kernel
theorem dX12_empties_42 : decode cX12_empties 42 = .ok (.bipush 61, 2) := by decide +kernel
theorem dX12_empties_44 : decode cX12_empties 44 = .ok (.iconst 0, 1) := by decide +kernel
theorem dX12_empties_45 : decode cX12_empties 45 = .ok (.iastore, 1) := by decide +kernel
theorem dX12_empties_46 : decode cX12_empties 46 = .ok (.aload_n 0, 1) := by decide +kernel
theorem dX12_empties_47 : decode cX12_empties 47 = .ok (.getfield 7, 3) := by decide +kernel
theorem dX12_empties_50 : decode cX12_empties 50 = .ok (.iconst 4, 1) := by decide +kernel
theorem dX12_empties_51 : decode cX12_empties 51 = .ok (.iconst 0, 1) := by decide +kernel
theorem dX12_empties_52 : decode cX12_empties 52 = .ok (.iastore, 1) := by decide +kernel
theorem dX12_empties_53 : decode cX12_empties 53 = .ok (.iconst 0, 1) := by decide +kernel
theorem dX12_empties_54 : decode cX12_empties 54 = .ok (.istore_n 1, 1) := by decide +kernel
theorem dX12_empties_55 : decode cX12_empties 55 = .ok (.iload_n 1, 1) := by decide +kernel
theorem dX12_empties_56 : decode cX12_empties 56 = .ok (.aload_n 0, 1) := by decide +kernel
theorem dX12_empties_57 : decode cX12_empties 57 = .ok (.getfield 7, 3) := by decide +kernel
theorem dX12_empties_60 : decode cX12_empties 60 = .ok (.iconst 0, 1) := by decide +kernel
theorem dX12_empties_61 : decode cX12_empties 61 = .ok (.iaload, 1) := by decide +kernel
theorem dX12_empties_62 : decode cX12_empties 62 = .ok (.if_icmp .ge 16, 3) := by decide +kernel
theorem dX12_empties_65 : decode cX12_empties 65 = .ok (.aload_n 0, 1) := by decide +kernel
theorem dX12_empties_66 : decode cX12_empties 66 = .ok (.iload_n 1, 1) := by decide +kernel
theorem dX12_empties_67 : decode cX12_empties 67 = .ok (.iconst 3, 1) := by decide +kernel
theorem dX12_empties_68 : decode cX12_empties 68 = .ok (.iconst 0, 1) := by decide +kernel
theorem dX12_empties_69 : decode cX12_empties 69 = .ok (.invokevirtual 75, 3) := by decide +kernel
theorem dX12_empties_72 : decode cX12_empties 72 = .ok (.iinc 1 1, 3) := by decide +kernel
theorem dX12_empties_75 : decode cX12_empties 75 = .ok (.goto (-20), 3) := by decide +kernel
theorem dX12_empties_78 : decode cX12_empties 78 = .ok (.return_, 1) := by decide +kernel
theorem dX12_adjourns_0 : decode cX12_adjourns 0 = .ok (.aload_n 0, 1) := by decide +kernel
theorem dX12_adjourns_1 : decode cX12_adjourns 1 = .ok (.getfield 7, 3) := by decide +kernel
theorem dX12_adjourns_4 : decode cX12_adjourns 4 = .ok (.iconst 5, 1) := by decide +kernel
theorem dX12_adjourns_5 : decode cX12_adjourns 5 = .ok (.dup2, 1) := by decide +kernel
theorem dX12_adjourns_6 : decode cX12_adjourns 6 = .ok (.iaload, 1) := by decide +kernel
theorem dX12_adjourns_7 : decode cX12_adjourns 7 = .ok (.iconst 1, 1) := by decide +kernel
theorem dX12_adjourns_8 : decode cX12_adjourns 8 = .ok (.iadd, 1) := by decide +kernel
theorem dX12_adjourns_9 : decode cX12_adjourns 9 = .ok (.iastore, 1) := by decide +kernel
theorem dX12_adjourns_10 : decode cX12_adjourns 10 = .ok (.aload_n 0, 1) := by decide +kernel
theorem dX12_adjourns_11 : decode cX12_adjourns 11 = .ok (.invokevirtual 129, 3) := by decide +kernel
theorem dX12_adjourns_14 : decode cX12_adjourns 14 = .ok (.return_, 1) := by decide +kernel
theorem dX12_notSpeak_0 : decode cX12_notSpeak 0 = .ok (.aload_n 0, 1) := by decide +kernel
theorem dX12_notSpeak_1 : decode cX12_notSpeak 1 = .ok (.iload_n 1, 1) := by decide +kernel
theorem dX12_notSpeak_2 : decode cX12_notSpeak 2 = .ok (.invokevirtual 132, 3) := by decide +kernel
theorem dX12_notSpeak_5 : decode cX12_notSpeak 5 = .ok (.ifCond .ne 5, 3) := by decide +kernel
theorem dX12_notSpeak_8 : decode cX12_notSpeak 8 = .ok (.iconst 1, 1) := by decide +kernel
theorem dX12_notSpeak_9 : decode cX12_notSpeak 9 = .ok (.ireturn, 1) := by decide +kernel
theorem dX12_notSpeak_10 : decode cX12_notSpeak 10 = .ok (.aload_n 0, 1) := by decide +kernel
theorem dX12_notSpeak_11 : decode cX12_notSpeak 11 = .ok (.getfield 7, 3) := by decide +kernel
theorem dX12_notSpeak_14 : decode cX12_notSpeak 14 = .ok (.iconst 3, 1) := by decide +kernel
theorem dX12_notSpeak_15 : decode cX12_notSpeak 15 = .ok (.iaload, 1) := by decide +kernel
theorem dX12_notSpeak_16 : decode cX12_notSpeak 16 = .ok (.ifCond .eq 23, 3) := by decide +kernel
theorem dX12_notSpeak_19 : decode cX12_notSpeak 19 = .ok (.aload_n 0, 1) := by decide +kernel
theorem dX12_notSpeak_20 : decode cX12_notSpeak 20 = .ok (.getfield 7, 3) := by decide +kernel
theorem dX12_notSpeak_23 : decode cX12_notSpeak 23 = .ok (.iconst 4, 1) := by decide +kernel
theorem dX12_notSpeak_24 : decode cX12_notSpeak 24 = .ok (.iaload, 1) := by decide +kernel
theorem dX12_notSpeak_25 : decode cX12_notSpeak 25 = .ok (.iconst 1, 1) := by decide +kernel
theorem dX12_notSpeak_26 : decode cX12_notSpeak 26 = .ok (.if_icmp .eq 13, 3) := by decide +kernel
theorem dX12_notSpeak_29 : decode cX12_notSpeak 29 = .ok (.aload_n 0, 1) := by decide +kernel
theorem dX12_notSpeak_30 : decode cX12_notSpeak 30 = .ok (.iload_n 1, 1) := by decide +kernel
theorem dX12_notSpeak_31 : decode cX12_notSpeak 31 = .ok (.iconst 3, 1) := by decide +kernel
theorem dX12_notSpeak_32 : decode cX12_notSpeak 32 = .ok (.invokevirtual 71, 3) := by decide +kernel
theorem dX12_notSpeak_35 : decode cX12_notSpeak 35 = .ok (.iconst 2, 1) := by decide +kernel
theorem dX12_notSpeak_36 : decode cX12_notSpeak 36 = .ok (.if_icmp .ne 5, 3) := by decide +kernel
theorem dX12_notSpeak_39 : decode cX12_notSpeak 39 = .ok (.iconst 2, 1) := by decide +kernel
theorem dX12_notSpeak_40 : decode cX12_notSpeak 40 = .ok (.ireturn, 1) := by decide +kernel
theorem dX12_notSpeak_41 : decode cX12_notSpeak 41 = .ok (.aload_n 0, 1) := by decide +kernel
theorem dX12_notSpeak_42 : decode cX12_notSpeak 42 = .ok (.iload_n 1, 1) := by decide +kernel
theorem dX12_notSpeak_43 : decode cX12_notSpeak 43 = .ok (.iconst 2, 1) := by decide +kernel
theorem dX12_notSpeak_44 : decode cX12_notSpeak 44 = .ok (.invokevirtual 71, 3) := by decide +kernel
theorem dX12_notSpeak_47 : decode cX12_notSpeak 47 = .ok (.ifCond .ne 7, 3) := by decide +kernel
theorem dX12_notSpeak_50 : decode cX12_notSpeak 50 = .ok (.iconst 3, 1) := by decide +kernel
theorem dX12_notSpeak_51 : decode cX12_notSpeak 51 = .ok (.goto 4, 3) := by decide +kernel
theorem dX12_notSpeak_54 : decode cX12_notSpeak 54 = .ok (.iconst 0, 1) := by decide +kernel
theorem dX12_notSpeak_55 : decode cX12_notSpeak 55 = .ok (.ireturn, 1) := by decide +kernel
theorem dX12_speaks_0 : decode cX12_speaks 0 = .ok (.aload_n 0, 1) := by decide +kernel
theorem dX12_speaks_1 : decode cX12_speaks 1 = .ok (.iload_n 1, 1) := by decide +kernel
theorem dX12_speaks_2 : decode cX12_speaks 2 = .ok (.iconst 2, 1) := by decide +kernel
theorem dX12_speaks_3 : decode cX12_speaks 3 = .ok (.aload_n 0, 1) := by decide +kernel
theorem dX12_speaks_4 : decode cX12_speaks 4 = .ok (.iload_n 1, 1) := by decide +kernel
theorem dX12_speaks_5 : decode cX12_speaks 5 = .ok (.iconst 2, 1) := by decide +kernel
theorem dX12_speaks_6 : decode cX12_speaks 6 = .ok (.invokevirtual 71, 3) := by decide +kernel
theorem dX12_speaks_9 : decode cX12_speaks 9 = .ok (.iconst 1, 1) := by decide +kernel
theorem dX12_speaks_10 : decode cX12_speaks 10 = .ok (.isub, 1) := by decide +kernel
theorem dX12_speaks_11 : decode cX12_speaks 11 = .ok (.invokevirtual 75, 3) := by decide +kernel
theorem dX12_speaks_14 : decode cX12_speaks 14 = .ok (.aload_n 0, 1) := by decide +kernel
theorem dX12_speaks_15 : decode cX12_speaks 15 = .ok (.iload_n 1, 1) := by decide +kernel
theorem dX12_speaks_16 : decode cX12_speaks 16 = .ok (.iconst 3, 1) := by decide +kernel
theorem dX12_speaks_17 : decode cX12_speaks 17 = .ok (.aload_n 0, 1) := by decide +kernel
theorem dX12_speaks_18 : decode cX12_speaks 18 = .ok (.iload_n 1, 1) := by decide +kernel
theorem dX12_speaks_19 : decode cX12_speaks 19 = .ok (.iconst 3, 1) := by decide +kernel
theorem dX12_speaks_20 : decode cX12_speaks 20 = .ok (.invokevirtual 71, 3) := by decide +kernel
theorem dX12_speaks_23 : decode cX12_speaks 23 = .ok (.iconst 1, 1) := by decide +kernel
theorem dX12_speaks_24 : decode cX12_speaks 24 = .ok (.iadd, 1) := by decide +kernel
theorem dX12_speaks_25 : decode cX12_speaks 25 = .ok (.invokevirtual 75, 3) := by decide +kernel
theorem dX12_speaks_28 : decode cX12_speaks 28 = .ok (.aload_n 0, 1) := by decide +kernel
theorem dX12_speaks_29 : decode cX12_speaks 29 = .ok (.getfield 7, 3) := by decide +kernel
theorem dX12_speaks_32 : decode cX12_speaks 32 = .ok (.bipush 10, 2) := by decide +kernel
theorem dX12_speaks_34 : decode cX12_speaks 34 = .ok (.dup2, 1) := by decide +kernel
theorem dX12_speaks_35 : decode cX12_speaks 35 = .ok (.iaload, 1) := by decide +kernel
theorem dX12_speaks_36 : decode cX12_speaks 36 = .ok (.iconst 1, 1) := by decide +kernel
theorem dX12_speaks_37 : decode cX12_speaks 37 = .ok (.iadd, 1) := by decide +kernel
theorem dX12_speaks_38 : decode cX12_speaks 38 = .ok (.iastore, 1) := by decide +kernel
theorem dX12_speaks_39 : decode cX12_speaks 39 = .ok (.aload_n 0, 1) := by decide +kernel
theorem dX12_speaks_40 : decode cX12_speaks 40 = .ok (.iload_n 1, 1) := by decide +kernel
theorem dX12_speaks_41 : decode cX12_speaks 41 = .ok (.iconst 3, 1) := by decide +kernel
theorem dX12_speaks_42 : decode cX12_speaks 42 = .ok (.invokevirtual 71, 3) := by decide +kernel
theorem dX12_speaks_45 : decode cX12_speaks 45 = .ok (.ireturn, 1) := by decide +kernel
theorem dX12_speak_0 : decode cX12_speak 0 = .ok (.aload_n 0, 1) := by decide +kernel
theorem dX12_speak_1 : decode cX12_speak 1 = .ok (.iconst 0, 1) := by decide +kernel
theorem dX12_speak_2 : decode cX12_speak 2 = .ok (.putfield 48, 3) := by decide +kernel
theorem dX12_speak_5 : decode cX12_speak 5 = .ok (.aload_n 0, 1) := by decide +kernel
theorem dX12_speak_6 : decode cX12_speak 6 = .ok (.iload_n 1, 1) := by decide +kernel
theorem dX12_speak_7 : decode cX12_speak 7 = .ok (.invokevirtual 135, 3) := by decide +kernel
theorem dX12_speak_10 : decode cX12_speak 10 = .ok (.istore_n 2, 1) := by decide +kernel
theorem dX12_speak_11 : decode cX12_speak 11 = .ok (.iload_n 2, 1) := by decide +kernel
theorem dX12_speak_12 : decode cX12_speak 12 = .ok (.ifCond .eq 9, 3) := by decide +kernel
theorem dX12_speak_15 : decode cX12_speak 15 = .ok (.aload_n 0, 1) := by decide +kernel
theorem dX12_speak_16 : decode cX12_speak 16 = .ok (.iload_n 2, 1) := by decide +kernel
theorem dX12_speak_17 : decode cX12_speak 17 = .ok (.invokevirtual 82, 3) := by decide +kernel
theorem dX12_speak_20 : decode cX12_speak 20 = .ok (.ireturn, 1) := by decide +kernel
theorem dX12_speak_21 : decode cX12_speak 21 = .ok (.aload_n 0, 1) := by decide +kernel
theorem dX12_speak_22 : decode cX12_speak 22 = .ok (.invokevirtual 85, 3) := by decide +kernel
theorem dX12_speak_25 : decode cX12_speak 25 = .ok (.aload_n 0, 1) := by decide +kernel
theorem dX12_speak_26 : decode cX12_speak 26 = .ok (.iload_n 1, 1) := by decide +kernel
theorem dX12_speak_27 : decode cX12_speak 27 = .ok (.invokevirtual 138, 3) := by decide +kernel
theorem dX12_speak_30 : decode cX12_speak 30 = .ok (.ireturn, 1) := by decide +kernel
theorem dX12_mainPosition_0 : decode cX12_mainPosition 0 = .ok (.aload_n 0, 1) := by decide +kernel
theorem dX12_mainPosition_1 : decode cX12_mainPosition 1 = .ok (.aload_n 0, 1) := by decide +kernel
theorem dX12_mainPosition_2 : decode cX12_mainPosition 2 = .ok (.aload_n 0, 1) := by decide +kernel
theorem dX12_mainPosition_3 : decode cX12_mainPosition 3 = .ok (.getfield 7, 3) := by decide +kernel
theorem dX12_mainPosition_6 : decode cX12_mainPosition 6 = .ok (.bipush 60, 2) := by decide +kernel
theorem dX12_mainPosition_8 : decode cX12_mainPosition 8 = .ok (.iaload, 1) := by decide +kernel
theorem dX12_mainPosition_9 : decode cX12_mainPosition 9 = .ok (.invokevirtual 104, 3) := by decide +kernel
theorem dX12_mainPosition_12 : decode cX12_mainPosition 12 = .ok (.invokevirtual 141, 3) := by decide +kernel
theorem dX12_mainPosition_15 : decode cX12_mainPosition 15 = .ok (.ireturn, 1) := by decide +kernel
theorem dX12_changed_0 : decode cX12_changed 0 = .ok (.aload_n 0, 1) := by decide +kernel
theorem dX12_changed_1 : decode cX12_changed 1 = .ok (.invokevirtual 144, 3) := by decide +kernel
theorem dX12_changed_4 : decode cX12_changed 4 = .ok (.aload_n 0, 1) := by decide +kernel
theorem dX12_changed_5 : decode cX12_changed 5 = .ok (.getfield 7, 3) := by decide +kernel
theorem dX12_changed_8 : decode cX12_changed 8 = .ok (.bipush 61, 2) := by decide +kernel
theorem dX12_changed_10 : decode cX12_changed 10 = .ok (.iaload, 1) := by decide +kernel
theorem dX12_changed_11 : decode cX12_changed 11 = .ok (.iadd, 1) := by decide +kernel
theorem dX12_changed_12 : decode cX12_changed 12 = .ok (.istore_n 1, 1) := by decide +kernel
theorem dX12_changed_13 : decode cX12_changed 13 = .ok (.iload_n 1, 1) := by decide +kernel
theorem dX12_changed_14 : decode cX12_changed 14 = .ok (.ifCond .ge 7, 3) := by decide +kernel
theorem dX12_changed_17 : decode cX12_changed 17 = .ok (.iconst 0, 1) := by decide +kernel
theorem dX12_changed_18 : decode cX12_changed 18 = .ok (.goto 15, 3) := by decide +kernel
theorem dX12_changed_21 : decode cX12_changed 21 = .ok (.iload_n 1, 1) := by decide +kernel
theorem dX12_changed_22 : decode cX12_changed 22 = .ok (.bipush 99, 2) := by decide +kernel
theorem dX12_changed_24 : decode cX12_changed 24 = .ok (.if_icmp .le 8, 3) := by decide +kernel
theorem dX12_changed_27 : decode cX12_changed 27 = .ok (.bipush 99, 2) := by decide +kernel
theorem dX12_changed_29 : decode cX12_changed 29 = .ok (.goto 4, 3) := by decide +kernel
theorem dX12_changed_32 : decode cX12_changed 32 = .ok (.iload_n 1, 1) := by decide +kernel
theorem dX12_changed_33 : decode cX12_changed 33 = .ok (.ireturn, 1) := by decide +kernel
theorem dX12_likesMain_0 : decode cX12_likesMain 0 = .ok (.aload_n 0, 1) := by decide +kernel
theorem dX12_likesMain_1 : decode cX12_likesMain 1 = .ok (.invokevirtual 144, 3) := by decide +kernel
theorem dX12_likesMain_4 : decode cX12_likesMain 4 = .ok (.aload_n 0, 1) := by decide +kernel
theorem dX12_likesMain_5 : decode cX12_likesMain 5 = .ok (.iload_n 1, 1) := by decide +kernel
theorem dX12_likesMain_6 : decode cX12_likesMain 6 = .ok (.iconst 1, 1) := by decide +kernel
theorem dX12_likesMain_7 : decode cX12_likesMain 7 = .ok (.invokevirtual 71, 3) := by decide +kernel
theorem dX12_likesMain_10 : decode cX12_likesMain 10 = .ok (.invokestatic 147, 3) := by decide +kernel
theorem dX12_likesMain_13 : decode cX12_likesMain 13 = .ok (.bipush 25, 2) := by decide +kernel
theorem dX12_likesMain_15 : decode cX12_likesMain 15 = .ok (.if_icmp .gt 7, 3) := by decide +kernel
theorem dX12_likesMain_18 : decode cX12_likesMain 18 = .ok (.iconst 1, 1) := by decide +kernel
theorem dX12_likesMain_19 : decode cX12_likesMain 19 = .ok (.goto 4, 3) := by decide +kernel
theorem dX12_likesMain_22 : decode cX12_likesMain 22 = .ok (.iconst 0, 1) := by decide +kernel
theorem dX12_likesMain_23 : decode cX12_likesMain 23 = .ok (.ireturn, 1) := by decide +kernel
theorem dX12_isFor_0 : decode cX12_isFor 0 = .ok (.aload_n 0, 1) := by decide +kernel
theorem dX12_isFor_1 : decode cX12_isFor 1 = .ok (.invokevirtual 100, 3) := by decide +kernel
theorem dX12_isFor_4 : decode cX12_isFor 4 = .ok (.tableswitch 102 0 3 #[32, 38, 73, 87], 32) := by decide +kernel
theorem dX12_isFor_36 : decode cX12_isFor 36 = .ok (.aload_n 0, 1) := by decide +kernel
theorem dX12_isFor_37 : decode cX12_isFor 37 = .ok (.iload_n 1, 1) := by decide +kernel
theorem dX12_isFor_38 : decode cX12_isFor 38 = .ok (.invokevirtual 150, 3) := by decide +kernel
theorem dX12_isFor_41 : decode cX12_isFor 41 = .ok (.ireturn, 1) := by decide +kernel
theorem dX12_isFor_42 : decode cX12_isFor 42 = .ok (.aload_n 0, 1) := by decide +kernel
theorem dX12_isFor_43 : decode cX12_isFor 43 = .ok (.invokevirtual 153, 3) := by decide +kernel
theorem dX12_isFor_46 : decode cX12_isFor 46 = .ok (.aload_n 0, 1) := by decide +kernel
theorem dX12_isFor_47 : decode cX12_isFor 47 = .ok (.iload_n 1, 1) := by decide +kernel
theorem dX12_isFor_48 : decode cX12_isFor 48 = .ok (.iconst 1, 1) := by decide +kernel
theorem dX12_isFor_49 : decode cX12_isFor 49 = .ok (.invokevirtual 71, 3) := by decide +kernel
theorem dX12_isFor_52 : decode cX12_isFor 52 = .ok (.invokestatic 147, 3) := by decide +kernel
theorem dX12_isFor_55 : decode cX12_isFor 55 = .ok (.aload_n 0, 1) := by decide +kernel
theorem dX12_isFor_56 : decode cX12_isFor 56 = .ok (.invokevirtual 144, 3) := by decide +kernel
theorem dX12_isFor_59 : decode cX12_isFor 59 = .ok (.aload_n 0, 1) := by decide +kernel
theorem dX12_isFor_60 : decode cX12_isFor 60 = .ok (.iload_n 1, 1) := by decide +kernel
theorem dX12_isFor_61 : decode cX12_isFor 61 = .ok (.iconst 1, 1) := by decide +kernel
theorem dX12_isFor_62 : decode cX12_isFor 62 = .ok (.invokevirtual 71, 3) := by decide +kernel
theorem dX12_isFor_65 : decode cX12_isFor 65 = .ok (.invokestatic 147, 3) := by decide +kernel
theorem dX12_isFor_68 : decode cX12_isFor 68 = .ok (.if_icmp .ge 7, 3) := by decide +kernel
theorem dX12_isFor_71 : decode cX12_isFor 71 = .ok (.iconst 1, 1) := by decide +kernel
theorem dX12_isFor_72 : decode cX12_isFor 72 = .ok (.goto 4, 3) := by decide +kernel
theorem dX12_isFor_75 : decode cX12_isFor 75 = .ok (.iconst 0, 1) := by decide +kernel
theorem dX12_isFor_76 : decode cX12_isFor 76 = .ok (.ireturn, 1) := by decide +kernel
theorem dX12_isFor_77 : decode cX12_isFor 77 = .ok (.aload_n 0, 1) := by decide +kernel
theorem dX12_isFor_78 : decode cX12_isFor 78 = .ok (.iload_n 1, 1) := by decide +kernel
theorem dX12_isFor_79 : decode cX12_isFor 79 = .ok (.invokevirtual 150, 3) := by decide +kernel
theorem dX12_isFor_82 : decode cX12_isFor 82 = .ok (.ifCond .ne 7, 3) := by decide +kernel
theorem dX12_isFor_85 : decode cX12_isFor 85 = .ok (.iconst 1, 1) := by decide +kernel
theorem dX12_isFor_86 : decode cX12_isFor 86 = .ok (.goto 4, 3) := by decide +kernel
theorem dX12_isFor_89 : decode cX12_isFor 89 = .ok (.iconst 0, 1) := by decide +kernel
theorem dX12_isFor_90 : decode cX12_isFor 90 = .ok (.ireturn, 1) := by decide +kernel
theorem dX12_isFor_91 : decode cX12_isFor 91 = .ok (.aload_n 0, 1) := by decide +kernel
theorem dX12_isFor_92 : decode cX12_isFor 92 = .ok (.iload_n 1, 1) := by decide +kernel
theorem dX12_isFor_93 : decode cX12_isFor 93 = .ok (.iconst 3, 1) := by decide +kernel
theorem dX12_isFor_94 : decode cX12_isFor 94 = .ok (.invokevirtual 71, 3) := by decide +kernel
theorem dX12_isFor_97 : decode cX12_isFor 97 = .ok (.ifCond .le 7, 3) := by decide +kernel
theorem dX12_isFor_100 : decode cX12_isFor 100 = .ok (.iconst 1, 1) := by decide +kernel
theorem dX12_isFor_101 : decode cX12_isFor 101 = .ok (.goto 4, 3) := by decide +kernel
theorem dX12_isFor_104 : decode cX12_isFor 104 = .ok (.iconst 0, 1) := by decide +kernel
theorem dX12_isFor_105 : decode cX12_isFor 105 = .ok (.ireturn, 1) := by decide +kernel
theorem dX12_isFor_106 : decode cX12_isFor 106 = .ok (.aload_n 0, 1) := by decide +kernel
theorem dX12_isFor_107 : decode cX12_isFor 107 = .ok (.iload_n 1, 1) := by decide +kernel
theorem dX12_isFor_108 : decode cX12_isFor 108 = .ok (.iconst 2, 1) := by decide +kernel
theorem dX12_isFor_109 : decode cX12_isFor 109 = .ok (.invokevirtual 71, 3) := by decide +kernel
theorem dX12_isFor_112 : decode cX12_isFor 112 = .ok (.iconst 3, 1) := by decide +kernel
theorem dX12_isFor_113 : decode cX12_isFor 113 = .ok (.if_icmp .ge 7, 3) := by decide +kernel
theorem dX12_isFor_116 : decode cX12_isFor 116 = .ok (.iconst 1, 1) := by decide +kernel
theorem dX12_isFor_117 : decode cX12_isFor 117 = .ok (.goto 4, 3) := by decide +kernel
theorem dX12_isFor_120 : decode cX12_isFor 120 = .ok (.iconst 0, 1) := by decide +kernel
theorem dX12_isFor_121 : decode cX12_isFor 121 = .ok (.ireturn, 1) := by decide +kernel
theorem dX12_yes_0 : decode cX12_yes 0 = .ok (.iconst 0, 1) := by decide +kernel
theorem dX12_yes_1 : decode cX12_yes 1 = .ok (.istore_n 1, 1) := by decide +kernel
theorem dX12_yes_2 : decode cX12_yes 2 = .ok (.iconst 0, 1) := by decide +kernel
theorem dX12_yes_3 : decode cX12_yes 3 = .ok (.istore_n 2, 1) := by decide +kernel
theorem dX12_yes_4 : decode cX12_yes 4 = .ok (.iload_n 2, 1) := by decide +kernel
theorem dX12_yes_5 : decode cX12_yes 5 = .ok (.aload_n 0, 1) := by decide +kernel
theorem dX12_yes_6 : decode cX12_yes 6 = .ok (.getfield 7, 3) := by decide +kernel
theorem dX12_yes_9 : decode cX12_yes 9 = .ok (.iconst 0, 1) := by decide +kernel
theorem dX12_yes_10 : decode cX12_yes 10 = .ok (.iaload, 1) := by decide +kernel
theorem dX12_yes_11 : decode cX12_yes 11 = .ok (.if_icmp .ge 30, 3) := by decide +kernel
theorem dX12_yes_14 : decode cX12_yes 14 = .ok (.iload_n 1, 1) := by decide +kernel
theorem dX12_yes_15 : decode cX12_yes 15 = .ok (.aload_n 0, 1) := by decide +kernel
theorem dX12_yes_16 : decode cX12_yes 16 = .ok (.iload_n 2, 1) := by decide +kernel
theorem dX12_yes_17 : decode cX12_yes 17 = .ok (.invokevirtual 156, 3) := by decide +kernel
theorem dX12_yes_20 : decode cX12_yes 20 = .ok (.ifCond .eq 12, 3) := by decide +kernel
theorem dX12_yes_23 : decode cX12_yes 23 = .ok (.aload_n 0, 1) := by decide +kernel
theorem dX12_yes_24 : decode cX12_yes 24 = .ok (.iload_n 2, 1) := by decide +kernel
theorem dX12_yes_25 : decode cX12_yes 25 = .ok (.iconst 0, 1) := by decide +kernel
theorem dX12_yes_26 : decode cX12_yes 26 = .ok (.invokevirtual 71, 3) := by decide +kernel
theorem dX12_yes_29 : decode cX12_yes 29 = .ok (.goto 4, 3) := by decide +kernel
theorem dX12_yes_32 : decode cX12_yes 32 = .ok (.iconst 0, 1) := by decide +kernel
theorem dX12_yes_33 : decode cX12_yes 33 = .ok (.iadd, 1) := by decide +kernel
theorem dX12_yes_34 : decode cX12_yes 34 = .ok (.istore_n 1, 1) := by decide +kernel
theorem dX12_yes_35 : decode cX12_yes 35 = .ok (.iinc 2 1, 3) := by decide +kernel
theorem dX12_yes_38 : decode cX12_yes 38 = .ok (.goto (-34), 3) := by decide +kernel
theorem dX12_yes_41 : decode cX12_yes 41 = .ok (.iload_n 1, 1) := by decide +kernel
theorem dX12_yes_42 : decode cX12_yes 42 = .ok (.ireturn, 1) := by decide +kernel
theorem dX12_isAdopted_0 : decode cX12_isAdopted 0 = .ok (.aload_n 0, 1) := by decide +kernel
theorem dX12_isAdopted_1 : decode cX12_isAdopted 1 = .ok (.invokevirtual 100, 3) := by decide +kernel
theorem dX12_isAdopted_4 : decode cX12_isAdopted 4 = .ok (.iconst 3, 1) := by decide +kernel
theorem dX12_isAdopted_5 : decode cX12_isAdopted 5 = .ok (.if_icmp .ne 26, 3) := by decide +kernel
theorem dX12_isAdopted_8 : decode cX12_isAdopted 8 = .ok (.iconst 3, 1) := by decide +kernel
theorem dX12_isAdopted_9 : decode cX12_isAdopted 9 = .ok (.aload_n 0, 1) := by decide +kernel
theorem dX12_isAdopted_10 : decode cX12_isAdopted 10 = .ok (.invokevirtual 159, 3) := by decide +kernel
theorem dX12_isAdopted_13 : decode cX12_isAdopted 13 = .ok (.imul, 1) := by decide +kernel
theorem dX12_isAdopted_14 : decode cX12_isAdopted 14 = .ok (.iconst 2, 1) := by decide +kernel
theorem dX12_isAdopted_15 : decode cX12_isAdopted 15 = .ok (.aload_n 0, 1) := by decide +kernel
theorem dX12_isAdopted_16 : decode cX12_isAdopted 16 = .ok (.invokevirtual 162, 3) := by decide +kernel
theorem dX12_isAdopted_19 : decode cX12_isAdopted 19 = .ok (.imul, 1) := by decide +kernel
theorem dX12_isAdopted_20 : decode cX12_isAdopted 20 = .ok (.if_icmp .lt 7, 3) := by decide +kernel
theorem dX12_isAdopted_23 : decode cX12_isAdopted 23 = .ok (.iconst 1, 1) := by decide +kernel
theorem dX12_isAdopted_24 : decode cX12_isAdopted 24 = .ok (.goto 25, 3) := by decide +kernel
theorem dX12_isAdopted_27 : decode cX12_isAdopted 27 = .ok (.iconst 0, 1) := by decide +kernel
theorem dX12_isAdopted_28 : decode cX12_isAdopted 28 = .ok (.goto 21, 3) := by decide +kernel
theorem dX12_isAdopted_31 : decode cX12_isAdopted 31 = .ok (.iconst 2, 1) := by decide +kernel
theorem dX12_isAdopted_32 : decode cX12_isAdopted 32 = .ok (.aload_n 0, 1) := by decide +kernel
theorem dX12_isAdopted_33 : decode cX12_isAdopted 33 = .ok (.invokevirtual 159, 3) := by decide +kernel
theorem dX12_isAdopted_36 : decode cX12_isAdopted 36 = .ok (.imul, 1) := by decide +kernel
theorem dX12_isAdopted_37 : decode cX12_isAdopted 37 = .ok (.aload_n 0, 1) := by decide +kernel
theorem dX12_isAdopted_38 : decode cX12_isAdopted 38 = .ok (.invokevirtual 162, 3) := by decide +kernel
theorem dX12_isAdopted_41 : decode cX12_isAdopted 41 = .ok (.if_icmp .le 7, 3) := by decide +kernel
theorem dX12_isAdopted_44 : decode cX12_isAdopted 44 = .ok (.iconst 1, 1) := by decide +kernel
theorem dX12_isAdopted_45 : decode cX12_isAdopted 45 = .ok (.goto 4, 3) := by decide +kernel
theorem dX12_isAdopted_48 : decode cX12_isAdopted 48 = .ok (.iconst 0, 1) := by decide +kernel
theorem dX12_isAdopted_49 : decode cX12_isAdopted 49 = .ok (.ireturn, 1) := by decide +kernel
theorem dX12_decidesMain_0 : decode cX12_decidesMain 0 = .ok (.iconst 0, 1) := by decide +kernel
theorem dX12_decidesMain_1 : decode cX12_decidesMain 1 = .ok (.istore_n 2, 1) := by decide +kernel
theorem dX12_decidesMain_2 : decode cX12_decidesMain 2 = .ok (.iload_n 2, 1) := by decide +kernel
theorem dX12_decidesMain_3 : decode cX12_decidesMain 3 = .ok (.aload_n 0, 1) := by decide +kernel
theorem dX12_decidesMain_4 : decode cX12_decidesMain 4 = .ok (.getfield 7, 3) := by decide +kernel
theorem dX12_decidesMain_7 : decode cX12_decidesMain 7 = .ok (.iconst 0, 1) := by decide +kernel
theorem dX12_decidesMain_8 : decode cX12_decidesMain 8 = .ok (.iaload, 1) := by decide +kernel
theorem dX12_decidesMain_9 : decode cX12_decidesMain 9 = .ok (.if_icmp .ge 49, 3) := by decide +kernel
theorem dX12_decidesMain_12 : decode cX12_decidesMain 12 = .ok (.iload_n 1, 1) := by decide +kernel
theorem dX12_decidesMain_13 : decode cX12_decidesMain 13 = .ok (.ifCond .eq 39, 3) := by decide +kernel
theorem dX12_decidesMain_16 : decode cX12_decidesMain 16 = .ok (.aload_n 0, 1) := by decide +kernel
theorem dX12_decidesMain_17 : decode cX12_decidesMain 17 = .ok (.iload_n 2, 1) := by decide +kernel
theorem dX12_decidesMain_18 : decode cX12_decidesMain 18 = .ok (.invokevirtual 156, 3) := by decide +kernel
theorem dX12_decidesMain_21 : decode cX12_decidesMain 21 = .ok (.ifCond .ne 6, 3) := by decide +kernel
theorem dX12_decidesMain_24 : decode cX12_decidesMain 24 = .ok (.goto 28, 3) := by decide +kernel
theorem dX12_decidesMain_27 : decode cX12_decidesMain 27 = .ok (.aload_n 0, 1) := by decide +kernel
theorem dX12_decidesMain_28 : decode cX12_decidesMain 28 = .ok (.iload_n 2, 1) := by decide +kernel
theorem dX12_decidesMain_29 : decode cX12_decidesMain 29 = .ok (.iconst 2, 1) := by decide +kernel
theorem dX12_decidesMain_30 : decode cX12_decidesMain 30 = .ok (.aload_n 0, 1) := by decide +kernel
theorem dX12_decidesMain_31 : decode cX12_decidesMain 31 = .ok (.iload_n 2, 1) := by decide +kernel
theorem dX12_decidesMain_32 : decode cX12_decidesMain 32 = .ok (.iconst 2, 1) := by decide +kernel
theorem dX12_decidesMain_33 : decode cX12_decidesMain 33 = .ok (.invokevirtual 71, 3) := by decide +kernel
theorem dX12_decidesMain_36 : decode cX12_decidesMain 36 = .ok (.iconst 2, 1) := by decide +kernel
theorem dX12_decidesMain_37 : decode cX12_decidesMain 37 = .ok (.iadd, 1) := by decide +kernel
theorem dX12_decidesMain_38 : decode cX12_decidesMain 38 = .ok (.invokevirtual 75, 3) := by decide +kernel
theorem dX12_decidesMain_41 : decode cX12_decidesMain 41 = .ok (.aload_n 0, 1) := by decide +kernel
theorem dX12_decidesMain_42 : decode cX12_decidesMain 42 = .ok (.getfield 7, 3) := by decide +kernel
theorem dX12_decidesMain_45 : decode cX12_decidesMain 45 = .ok (.bipush 9, 2) := by decide +kernel
theorem dX12_decidesMain_47 : decode cX12_decidesMain 47 = .ok (.dup2, 1) := by decide +kernel
theorem dX12_decidesMain_48 : decode cX12_decidesMain 48 = .ok (.iaload, 1) := by decide +kernel
theorem dX12_decidesMain_49 : decode cX12_decidesMain 49 = .ok (.iconst 2, 1) := by decide +kernel
theorem dX12_decidesMain_50 : decode cX12_decidesMain 50 = .ok (.iadd, 1) := by decide +kernel
theorem dX12_decidesMain_51 : decode cX12_decidesMain 51 = .ok (.iastore, 1) := by decide +kernel
theorem dX12_decidesMain_52 : decode cX12_decidesMain 52 = .ok (.iinc 2 1, 3) := by decide +kernel
theorem dX12_decidesMain_55 : decode cX12_decidesMain 55 = .ok (.goto (-53), 3) := by decide +kernel
theorem dX12_decidesMain_58 : decode cX12_decidesMain 58 = .ok (.iload_n 1, 1) := by decide +kernel
theorem dX12_decidesMain_59 : decode cX12_decidesMain 59 = .ok (.ifCond .eq 39, 3) := by decide +kernel
theorem dX12_decidesMain_62 : decode cX12_decidesMain 62 = .ok (.aload_n 0, 1) := by decide +kernel
theorem dX12_decidesMain_63 : decode cX12_decidesMain 63 = .ok (.getfield 7, 3) := by decide +kernel
theorem dX12_decidesMain_66 : decode cX12_decidesMain 66 = .ok (.bipush 62, 2) := by decide +kernel
theorem dX12_decidesMain_68 : decode cX12_decidesMain 68 = .ok (.aload_n 0, 1) := by decide +kernel
theorem dX12_decidesMain_69 : decode cX12_decidesMain 69 = .ok (.getfield 7, 3) := by decide +kernel
theorem dX12_decidesMain_72 : decode cX12_decidesMain 72 = .ok (.bipush 6, 2) := by decide +kernel
theorem dX12_decidesMain_74 : decode cX12_decidesMain 74 = .ok (.iaload, 1) := by decide +kernel
theorem dX12_decidesMain_75 : decode cX12_decidesMain 75 = .ok (.bipush 20, 2) := by decide +kernel
theorem dX12_decidesMain_77 : decode cX12_decidesMain 77 = .ok (.irem, 1) := by decide +kernel
theorem dX12_decidesMain_78 : decode cX12_decidesMain 78 = .ok (.iadd, 1) := by decide +kernel
theorem dX12_decidesMain_79 : decode cX12_decidesMain 79 = .ok (.aload_n 0, 1) := by decide +kernel
theorem dX12_decidesMain_80 : decode cX12_decidesMain 80 = .ok (.getfield 7, 3) := by decide +kernel
theorem dX12_decidesMain_83 : decode cX12_decidesMain 83 = .ok (.bipush 60, 2) := by decide +kernel
theorem dX12_decidesMain_85 : decode cX12_decidesMain 85 = .ok (.iaload, 1) := by decide +kernel
theorem dX12_decidesMain_86 : decode cX12_decidesMain 86 = .ok (.iastore, 1) := by decide +kernel
theorem dX12_decidesMain_87 : decode cX12_decidesMain 87 = .ok (.aload_n 0, 1) := by decide +kernel
theorem dX12_decidesMain_88 : decode cX12_decidesMain 88 = .ok (.getfield 7, 3) := by decide +kernel
theorem dX12_decidesMain_91 : decode cX12_decidesMain 91 = .ok (.bipush 6, 2) := by decide +kernel
theorem dX12_decidesMain_93 : decode cX12_decidesMain 93 = .ok (.dup2, 1) := by decide +kernel
theorem dX12_decidesMain_94 : decode cX12_decidesMain 94 = .ok (.iaload, 1) := by decide +kernel
theorem dX12_decidesMain_95 : decode cX12_decidesMain 95 = .ok (.iconst 1, 1) := by decide +kernel
theorem dX12_decidesMain_96 : decode cX12_decidesMain 96 = .ok (.iadd, 1) := by decide +kernel
theorem dX12_decidesMain_97 : decode cX12_decidesMain 97 = .ok (.iastore, 1) := by decide +kernel
theorem dX12_decidesMain_98 : decode cX12_decidesMain 98 = .ok (.aload_n 0, 1) := by decide +kernel
theorem dX12_decidesMain_99 : decode cX12_decidesMain 99 = .ok (.aload_n 0, 1) := by decide +kernel
theorem dX12_decidesMain_100 : decode cX12_decidesMain 100 = .ok (.aload_n 0, 1) := by decide +kernel
theorem dX12_decidesMain_101 : decode cX12_decidesMain 101 = .ok (.getfield 7, 3) := by decide +kernel
theorem dX12_decidesMain_104 : decode cX12_decidesMain 104 = .ok (.bipush 60, 2) := by decide +kernel
theorem dX12_decidesMain_106 : decode cX12_decidesMain 106 = .ok (.iaload, 1) := by decide +kernel
theorem dX12_decidesMain_107 : decode cX12_decidesMain 107 = .ok (.invokevirtual 104, 3) := by decide +kernel
theorem dX12_decidesMain_110 : decode cX12_decidesMain 110 = .ok (.invokevirtual 165, 3) := by decide +kernel
theorem dX12_decidesMain_113 : decode cX12_decidesMain 113 = .ok (.aload_n 0, 1) := by decide +kernel
theorem dX12_decidesMain_114 : decode cX12_decidesMain 114 = .ok (.invokevirtual 129, 3) := by decide +kernel
theorem dX12_decidesMain_117 : decode cX12_decidesMain 117 = .ok (.return_, 1) := by decide +kernel
theorem dX12_postpones_0 : decode cX12_postpones 0 = .ok (.aload_n 0, 1) := by decide +kernel
theorem dX12_postpones_1 : decode cX12_postpones 1 = .ok (.getfield 7, 3) := by decide +kernel
theorem dX12_postpones_4 : decode cX12_postpones 4 = .ok (.bipush 60, 2) := by decide +kernel
theorem dX12_postpones_6 : decode cX12_postpones 6 = .ok (.iaload, 1) := by decide +kernel
theorem dX12_postpones_7 : decode cX12_postpones 7 = .ok (.istore_n 1, 1) := by decide +kernel
theorem dX12_postpones_8 : decode cX12_postpones 8 = .ok (.aload_n 0, 1) := by decide +kernel
theorem dX12_postpones_9 : decode cX12_postpones 9 = .ok (.invokevirtual 144, 3) := by decide +kernel
theorem dX12_postpones_12 : decode cX12_postpones 12 = .ok (.istore_n 2, 1) := by decide +kernel
theorem dX12_postpones_13 : decode cX12_postpones 13 = .ok (.aload_n 0, 1) := by decide +kernel
theorem dX12_postpones_14 : decode cX12_postpones 14 = .ok (.aload_n 0, 1) := by decide +kernel
theorem dX12_postpones_15 : decode cX12_postpones 15 = .ok (.iload_n 1, 1) := by decide +kernel
theorem dX12_postpones_16 : decode cX12_postpones 16 = .ok (.invokevirtual 104, 3) := by decide +kernel
theorem dX12_postpones_19 : decode cX12_postpones 19 = .ok (.invokevirtual 165, 3) := by decide +kernel
theorem dX12_postpones_22 : decode cX12_postpones 22 = .ok (.aload_n 0, 1) := by decide +kernel
theorem dX12_postpones_23 : decode cX12_postpones 23 = .ok (.iload_n 1, 1) := by decide +kernel
theorem dX12_postpones_24 : decode cX12_postpones 24 = .ok (.iload_n 2, 1) := by decide +kernel
theorem dX12_postpones_25 : decode cX12_postpones 25 = .ok (.invokevirtual 91, 3) := by decide +kernel
theorem dX12_postpones_28 : decode cX12_postpones 28 = .ok (.pop, 1) := by decide +kernel
theorem dX12_postpones_29 : decode cX12_postpones 29 = .ok (.aload_n 0, 1) := by decide +kernel
theorem dX12_postpones_30 : decode cX12_postpones 30 = .ok (.invokevirtual 129, 3) := by decide +kernel
theorem dX12_postpones_33 : decode cX12_postpones 33 = .ok (.return_, 1) := by decide +kernel
theorem dX12_removesTop_0 : decode cX12_removesTop 0 = .ok (.aload_n 0, 1) := by decide +kernel
theorem dX12_removesTop_1 : decode cX12_removesTop 1 = .ok (.getfield 7, 3) := by decide +kernel
theorem dX12_removesTop_4 : decode cX12_removesTop 4 = .ok (.iconst 3, 1) := by decide +kernel
theorem dX12_removesTop_5 : decode cX12_removesTop 5 = .ok (.dup2, 1) := by decide +kernel
theorem dX12_removesTop_6 : decode cX12_removesTop 6 = .ok (.iaload, 1) := by decide +kernel
theorem dX12_removesTop_7 : decode cX12_removesTop 7 = .ok (.iconst 1, 1) := by decide +kernel
theorem dX12_removesTop_8 : decode cX12_removesTop 8 = .ok (.isub, 1) := by decide +kernel
theorem dX12_removesTop_9 : decode cX12_removesTop 9 = .ok (.iastore, 1) := by decide +kernel
theorem dX12_removesTop_10 : decode cX12_removesTop 10 = .ok (.aload_n 0, 1) := by decide +kernel
theorem dX12_removesTop_11 : decode cX12_removesTop 11 = .ok (.getfield 7, 3) := by decide +kernel
theorem dX12_removesTop_14 : decode cX12_removesTop 14 = .ok (.bipush 55, 2) := by decide +kernel
theorem dX12_removesTop_16 : decode cX12_removesTop 16 = .ok (.aload_n 0, 1) := by decide +kernel
theorem dX12_removesTop_17 : decode cX12_removesTop 17 = .ok (.getfield 7, 3) := by decide +kernel
theorem dX12_removesTop_20 : decode cX12_removesTop 20 = .ok (.iconst 3, 1) := by decide +kernel
theorem dX12_removesTop_21 : decode cX12_removesTop 21 = .ok (.iaload, 1) := by decide +kernel
theorem dX12_removesTop_22 : decode cX12_removesTop 22 = .ok (.iadd, 1) := by decide +kernel
theorem dX12_removesTop_23 : decode cX12_removesTop 23 = .ok (.iconst 0, 1) := by decide +kernel
theorem dX12_removesTop_24 : decode cX12_removesTop 24 = .ok (.iastore, 1) := by decide +kernel
theorem dX12_removesTop_25 : decode cX12_removesTop 25 = .ok (.aload_n 0, 1) := by decide +kernel
theorem dX12_removesTop_26 : decode cX12_removesTop 26 = .ok (.getfield 7, 3) := by decide +kernel
theorem dX12_removesTop_29 : decode cX12_removesTop 29 = .ok (.iconst 3, 1) := by decide +kernel
theorem dX12_removesTop_30 : decode cX12_removesTop 30 = .ok (.iaload, 1) := by decide +kernel
theorem dX12_removesTop_31 : decode cX12_removesTop 31 = .ok (.ifCond .ne 7, 3) := by decide +kernel
theorem dX12_removesTop_34 : decode cX12_removesTop 34 = .ok (.aload_n 0, 1) := by decide +kernel
theorem dX12_removesTop_35 : decode cX12_removesTop 35 = .ok (.invokevirtual 129, 3) := by decide +kernel
theorem dX12_removesTop_38 : decode cX12_removesTop 38 = .ok (.return_, 1) := by decide +kernel
theorem dX12_votes_0 : decode cX12_votes 0 = .ok (.aload_n 0, 1) := by decide +kernel
theorem dX12_votes_1 : decode cX12_votes 1 = .ok (.invokevirtual 169, 3) := by decide +kernel
theorem dX12_votes_4 : decode cX12_votes 4 = .ok (.istore_n 1, 1) := by decide +kernel
theorem dX12_votes_5 : decode cX12_votes 5 = .ok (.aload_n 0, 1) := by decide +kernel
theorem dX12_votes_6 : decode cX12_votes 6 = .ok (.invokevirtual 100, 3) := by decide +kernel
theorem dX12_votes_9 : decode cX12_votes 9 = .ok (.istore_n 2, 1) := by decide +kernel
theorem dX12_votes_10 : decode cX12_votes 10 = .ok (.aload_n 0, 1) := by decide +kernel
theorem dX12_votes_11 : decode cX12_votes 11 = .ok (.getfield 7, 3) := by decide +kernel
theorem dX12_votes_14 : decode cX12_votes 14 = .ok (.bipush 7, 2) := by decide +kernel
theorem dX12_votes_16 : decode cX12_votes 16 = .ok (.dup2, 1) := by decide +kernel
theorem dX12_votes_17 : decode cX12_votes 17 = .ok (.iaload, 1) := by decide +kernel
theorem dX12_votes_18 : decode cX12_votes 18 = .ok (.iconst 1, 1) := by decide +kernel
theorem dX12_votes_19 : decode cX12_votes 19 = .ok (.iadd, 1) := by decide +kernel
theorem dX12_votes_20 : decode cX12_votes 20 = .ok (.iastore, 1) := by decide +kernel
theorem dX12_votes_21 : decode cX12_votes 21 = .ok (.aload_n 0, 1) := by decide +kernel
theorem dX12_votes_22 : decode cX12_votes 22 = .ok (.getfield 7, 3) := by decide +kernel
theorem dX12_votes_25 : decode cX12_votes 25 = .ok (.bipush 8, 2) := by decide +kernel
theorem dX12_votes_27 : decode cX12_votes 27 = .ok (.dup2, 1) := by decide +kernel
theorem dX12_votes_28 : decode cX12_votes 28 = .ok (.iaload, 1) := by decide +kernel
theorem dX12_votes_29 : decode cX12_votes 29 = .ok (.iload_n 1, 1) := by decide +kernel
theorem dX12_votes_30 : decode cX12_votes 30 = .ok (.ifCond .eq 7, 3) := by decide +kernel
theorem dX12_votes_33 : decode cX12_votes 33 = .ok (.iconst 1, 1) := by decide +kernel
theorem dX12_votes_34 : decode cX12_votes 34 = .ok (.goto 4, 3) := by decide +kernel
theorem dX12_votes_37 : decode cX12_votes 37 = .ok (.iconst 0, 1) := by decide +kernel
theorem dX12_votes_38 : decode cX12_votes 38 = .ok (.iadd, 1) := by decide +kernel
theorem dX12_votes_39 : decode cX12_votes 39 = .ok (.iastore, 1) := by decide +kernel
theorem dX12_votes_40 : decode cX12_votes 40 = .ok (.iload_n 2, 1) := by decide +kernel
theorem dX12_votes_41 : decode cX12_votes 41 = .ok (.ifCond .ne 18, 3) := by decide +kernel
theorem dX12_votes_44 : decode cX12_votes 44 = .ok (.aload_n 0, 1) := by decide +kernel
theorem dX12_votes_45 : decode cX12_votes 45 = .ok (.iload_n 1, 1) := by decide +kernel
theorem dX12_votes_46 : decode cX12_votes 46 = .ok (.invokevirtual 173, 3) := by decide +kernel
theorem dX12_votes_49 : decode cX12_votes 49 = .ok (.iload_n 1, 1) := by decide +kernel
theorem dX12_votes_50 : decode cX12_votes 50 = .ok (.ifCond .eq 7, 3) := by decide +kernel
theorem dX12_votes_53 : decode cX12_votes 53 = .ok (.iconst 1, 1) := by decide +kernel
theorem dX12_votes_54 : decode cX12_votes 54 = .ok (.goto 4, 3) := by decide +kernel
theorem dX12_votes_57 : decode cX12_votes 57 = .ok (.iconst 0, 1) := by decide +kernel
theorem dX12_votes_58 : decode cX12_votes 58 = .ok (.ireturn, 1) := by decide +kernel
theorem dX12_votes_59 : decode cX12_votes 59 = .ok (.iload_n 1, 1) := by decide +kernel
theorem dX12_votes_60 : decode cX12_votes 60 = .ok (.ifCond .eq 35, 3) := by decide +kernel
theorem dX12_votes_63 : decode cX12_votes 63 = .ok (.iload_n 2, 1) := by decide +kernel
theorem dX12_votes_64 : decode cX12_votes 64 = .ok (.iconst 1, 1) := by decide +kernel
theorem dX12_votes_65 : decode cX12_votes 65 = .ok (.if_icmp .ne 30, 3) := by decide +kernel
theorem dX12_votes_68 : decode cX12_votes 68 = .ok (.aload_n 0, 1) := by decide +kernel
theorem dX12_votes_69 : decode cX12_votes 69 = .ok (.getfield 7, 3) := by decide +kernel
theorem dX12_votes_72 : decode cX12_votes 72 = .ok (.bipush 43, 2) := by decide +kernel
theorem dX12_votes_74 : decode cX12_votes 74 = .ok (.iconst 2, 1) := by decide +kernel
theorem dX12_votes_75 : decode cX12_votes 75 = .ok (.aload_n 0, 1) := by decide +kernel
theorem dX12_votes_76 : decode cX12_votes 76 = .ok (.aload_n 0, 1) := by decide +kernel
theorem dX12_votes_77 : decode cX12_votes 77 = .ok (.getfield 7, 3) := by decide +kernel
theorem dX12_votes_80 : decode cX12_votes 80 = .ok (.bipush 60, 2) := by decide +kernel
theorem dX12_votes_82 : decode cX12_votes 82 = .ok (.iaload, 1) := by decide +kernel
theorem dX12_votes_83 : decode cX12_votes 83 = .ok (.invokevirtual 104, 3) := by decide +kernel
theorem dX12_votes_86 : decode cX12_votes 86 = .ok (.imul, 1) := by decide +kernel
theorem dX12_votes_87 : decode cX12_votes 87 = .ok (.iadd, 1) := by decide +kernel
theorem dX12_votes_88 : decode cX12_votes 88 = .ok (.iconst 1, 1) := by decide +kernel
theorem dX12_votes_89 : decode cX12_votes 89 = .ok (.iadd, 1) := by decide +kernel
theorem dX12_votes_90 : decode cX12_votes 90 = .ok (.aload_n 0, 1) := by decide +kernel
theorem dX12_votes_91 : decode cX12_votes 91 = .ok (.invokevirtual 153, 3) := by decide +kernel
theorem dX12_votes_94 : decode cX12_votes 94 = .ok (.iastore, 1) := by decide +kernel
theorem dX12_votes_95 : decode cX12_votes 95 = .ok (.iload_n 2, 1) := by decide +kernel
theorem dX12_votes_96 : decode cX12_votes 96 = .ok (.iconst 1, 1) := by decide +kernel
theorem dX12_votes_97 : decode cX12_votes 97 = .ok (.if_icmp .ne 11, 3) := by decide +kernel
theorem dX12_votes_100 : decode cX12_votes 100 = .ok (.aload_n 0, 1) := by decide +kernel
theorem dX12_votes_101 : decode cX12_votes 101 = .ok (.getfield 7, 3) := by decide +kernel
theorem dX12_votes_104 : decode cX12_votes 104 = .ok (.bipush 61, 2) := by decide +kernel
theorem dX12_votes_106 : decode cX12_votes 106 = .ok (.iconst 0, 1) := by decide +kernel
theorem dX12_votes_107 : decode cX12_votes 107 = .ok (.iastore, 1) := by decide +kernel
theorem dX12_votes_108 : decode cX12_votes 108 = .ok (.aload_n 0, 1) := by decide +kernel
theorem dX12_votes_109 : decode cX12_votes 109 = .ok (.invokevirtual 177, 3) := by decide +kernel
theorem dX12_votes_112 : decode cX12_votes 112 = .ok (.iload_n 1, 1) := by decide +kernel
theorem dX12_votes_113 : decode cX12_votes 113 = .ok (.ifCond .eq 12, 3) := by decide +kernel
theorem dX12_votes_116 : decode cX12_votes 116 = .ok (.iload_n 2, 1) := by decide +kernel
theorem dX12_votes_117 : decode cX12_votes 117 = .ok (.iconst 2, 1) := by decide +kernel
theorem dX12_votes_118 : decode cX12_votes 118 = .ok (.if_icmp .ne 7, 3) := by decide +kernel
theorem dX12_votes_121 : decode cX12_votes 121 = .ok (.aload_n 0, 1) := by decide +kernel
theorem dX12_votes_122 : decode cX12_votes 122 = .ok (.invokevirtual 180, 3) := by decide +kernel
theorem dX12_votes_125 : decode cX12_votes 125 = .ok (.iload_n 1, 1) := by decide +kernel
theorem dX12_votes_126 : decode cX12_votes 126 = .ok (.ifCond .eq 15, 3) := by decide +kernel
theorem dX12_votes_129 : decode cX12_votes 129 = .ok (.iload_n 2, 1) := by decide +kernel
theorem dX12_votes_130 : decode cX12_votes 130 = .ok (.iconst 3, 1) := by decide +kernel
theorem dX12_votes_131 : decode cX12_votes 131 = .ok (.if_icmp .ne 10, 3) := by decide +kernel
theorem dX12_votes_134 : decode cX12_votes 134 = .ok (.aload_n 0, 1) := by decide +kernel
theorem dX12_votes_135 : decode cX12_votes 135 = .ok (.getfield 7, 3) := by decide +kernel
theorem dX12_votes_138 : decode cX12_votes 138 = .ok (.iconst 4, 1) := by decide +kernel
theorem dX12_votes_139 : decode cX12_votes 139 = .ok (.iconst 1, 1) := by decide +kernel
theorem dX12_votes_140 : decode cX12_votes 140 = .ok (.iastore, 1) := by decide +kernel
theorem dX12_votes_141 : decode cX12_votes 141 = .ok (.iload_n 1, 1) := by decide +kernel
theorem dX12_votes_142 : decode cX12_votes 142 = .ok (.ifCond .eq 12, 3) := by decide +kernel
theorem dX12_votes_145 : decode cX12_votes 145 = .ok (.iload_n 2, 1) := by decide +kernel
theorem dX12_votes_146 : decode cX12_votes 146 = .ok (.iconst 4, 1) := by decide +kernel
theorem dX12_votes_147 : decode cX12_votes 147 = .ok (.if_icmp .ne 7, 3) := by decide +kernel
theorem dX12_votes_150 : decode cX12_votes 150 = .ok (.aload_n 0, 1) := by decide +kernel
theorem dX12_votes_151 : decode cX12_votes 151 = .ok (.invokevirtual 183, 3) := by decide +kernel
theorem dX12_votes_154 : decode cX12_votes 154 = .ok (.iload_n 1, 1) := by decide +kernel
theorem dX12_votes_155 : decode cX12_votes 155 = .ok (.ifCond .eq 7, 3) := by decide +kernel
theorem dX12_votes_158 : decode cX12_votes 158 = .ok (.iconst 1, 1) := by decide +kernel
theorem dX12_votes_159 : decode cX12_votes 159 = .ok (.goto 4, 3) := by decide +kernel
theorem dX12_votes_162 : decode cX12_votes 162 = .ok (.iconst 0, 1) := by decide +kernel
theorem dX12_votes_163 : decode cX12_votes 163 = .ok (.ireturn, 1) := by decide +kernel
theorem dX12_notVote_0 : decode cX12_notVote 0 = .ok (.aload_n 0, 1) := by decide +kernel
theorem dX12_notVote_1 : decode cX12_notVote 1 = .ok (.getfield 7, 3) := by decide +kernel
theorem dX12_notVote_4 : decode cX12_notVote 4 = .ok (.iconst 3, 1) := by decide +kernel
theorem dX12_notVote_5 : decode cX12_notVote 5 = .ok (.iaload, 1) := by decide +kernel
theorem dX12_notVote_6 : decode cX12_notVote 6 = .ok (.ifCond .ne 7, 3) := by decide +kernel
theorem dX12_notVote_9 : decode cX12_notVote 9 = .ok (.iconst 1, 1) := by decide +kernel
theorem dX12_notVote_10 : decode cX12_notVote 10 = .ok (.goto 4, 3) := by decide +kernel
theorem dX12_notVote_13 : decode cX12_notVote 13 = .ok (.iconst 0, 1) := by decide +kernel
theorem dX12_notVote_14 : decode cX12_notVote 14 = .ok (.ireturn, 1) := by decide +kernel
theorem dX12_vote_0 : decode cX12_vote 0 = .ok (.aload_n 0, 1) := by decide +kernel
theorem dX12_vote_1 : decode cX12_vote 1 = .ok (.iconst 0, 1) := by decide +kernel
theorem dX12_vote_2 : decode cX12_vote 2 = .ok (.putfield 48, 3) := by decide +kernel
theorem dX12_vote_5 : decode cX12_vote 5 = .ok (.aload_n 0, 1) := by decide +kernel
theorem dX12_vote_6 : decode cX12_vote 6 = .ok (.invokevirtual 186, 3) := by decide +kernel
theorem dX12_vote_9 : decode cX12_vote 9 = .ok (.ifCond .eq 17, 3) := by decide +kernel
theorem dX12_vote_12 : decode cX12_vote 12 = .ok (.aload_n 0, 1) := by decide +kernel
theorem dX12_vote_13 : decode cX12_vote 13 = .ok (.iconst 1, 1) := by decide +kernel
theorem dX12_vote_14 : decode cX12_vote 14 = .ok (.invokevirtual 82, 3) := by decide +kernel
theorem dX12_vote_17 : decode cX12_vote 17 = .ok (.ifCond .le 7, 3) := by decide +kernel
theorem dX12_vote_20 : decode cX12_vote 20 = .ok (.iconst 1, 1) := by decide +kernel
theorem dX12_vote_21 : decode cX12_vote 21 = .ok (.goto 4, 3) := by decide +kernel
theorem dX12_vote_24 : decode cX12_vote 24 = .ok (.iconst 0, 1) := by decide +kernel
theorem dX12_vote_25 : decode cX12_vote 25 = .ok (.ireturn, 1) := by decide +kernel
theorem dX12_vote_26 : decode cX12_vote 26 = .ok (.aload_n 0, 1) := by decide +kernel
theorem dX12_vote_27 : decode cX12_vote 27 = .ok (.invokevirtual 85, 3) := by decide +kernel
theorem dX12_vote_30 : decode cX12_vote 30 = .ok (.aload_n 0, 1) := by decide +kernel
theorem dX12_vote_31 : decode cX12_vote 31 = .ok (.invokevirtual 189, 3) := by decide +kernel
theorem dX12_vote_34 : decode cX12_vote 34 = .ok (.iconst 1, 1) := by decide +kernel
theorem dX12_vote_35 : decode cX12_vote 35 = .ok (.if_icmp .ne 7, 3) := by decide +kernel
theorem dX12_vote_38 : decode cX12_vote 38 = .ok (.iconst 1, 1) := by decide +kernel
theorem dX12_vote_39 : decode cX12_vote 39 = .ok (.goto 4, 3) := by decide +kernel
theorem dX12_vote_42 : decode cX12_vote 42 = .ok (.iconst 0, 1) := by decide +kernel
theorem dX12_vote_43 : decode cX12_vote 43 = .ok (.ireturn, 1) := by decide +kernel
theorem dX12_isCell_0 : decode cX12_isCell 0 = .ok (.iload_n 0, 1) := by decide +kernel
theorem dX12_isCell_1 : decode cX12_isCell 1 = .ok (.iconst 0, 1) := by decide +kernel
theorem dX12_isCell_2 : decode cX12_isCell 2 = .ok (.bipush 7, 2) := by decide +kernel
theorem dX12_isCell_4 : decode cX12_isCell 4 = .ok (.invokestatic 63, 3) := by decide +kernel
theorem dX12_isCell_7 : decode cX12_isCell 7 = .ok (.ifCond .eq 17, 3) := by decide +kernel
theorem dX12_isCell_10 : decode cX12_isCell 10 = .ok (.iload_n 1, 1) := by decide +kernel
theorem dX12_isCell_11 : decode cX12_isCell 11 = .ok (.iconst 0, 1) := by decide +kernel
theorem dX12_isCell_12 : decode cX12_isCell 12 = .ok (.bipush 7, 2) := by decide +kernel
theorem dX12_isCell_14 : decode cX12_isCell 14 = .ok (.invokestatic 63, 3) := by decide +kernel
theorem dX12_isCell_17 : decode cX12_isCell 17 = .ok (.ifCond .eq 7, 3) := by decide +kernel
theorem dX12_isCell_20 : decode cX12_isCell 20 = .ok (.iconst 1, 1) := by decide +kernel
theorem dX12_isCell_21 : decode cX12_isCell 21 = .ok (.goto 4, 3) := by decide +kernel
theorem dX12_isCell_24 : decode cX12_isCell 24 = .ok (.iconst 0, 1) := by decide +kernel
theorem dX12_isCell_25 : decode cX12_isCell 25 = .ok (.ireturn, 1) := by decide +kernel
theorem dX12_wets_0 : decode cX12_wets 0 = .ok (.iconst 0, 1) := by decide +kernel
theorem dX12_wets_1 : decode cX12_wets 1 = .ok (.istore_n 1, 1) := by decide +kernel
theorem dX12_wets_2 : decode cX12_wets 2 = .ok (.iconst 0, 1) := by decide +kernel
theorem dX12_wets_3 : decode cX12_wets 3 = .ok (.istore_n 2, 1) := by decide +kernel
theorem dX12_wets_4 : decode cX12_wets 4 = .ok (.iload_n 2, 1) := by decide +kernel
theorem dX12_wets_5 : decode cX12_wets 5 = .ok (.bipush 64, 2) := by decide +kernel
theorem dX12_wets_7 : decode cX12_wets 7 = .ok (.if_icmp .ge 21, 3) := by decide +kernel
theorem dX12_wets_10 : decode cX12_wets 10 = .ok (.iload_n 1, 1) := by decide +kernel
theorem dX12_wets_11 : decode cX12_wets 11 = .ok (.aload_n 0, 1) := by decide +kernel
theorem dX12_wets_12 : decode cX12_wets 12 = .ok (.getfield 7, 3) := by decide +kernel
theorem dX12_wets_15 : decode cX12_wets 15 = .ok (.bipush 82, 2) := by decide +kernel
theorem dX12_wets_17 : decode cX12_wets 17 = .ok (.iload_n 2, 1) := by decide +kernel
theorem dX12_wets_18 : decode cX12_wets 18 = .ok (.iadd, 1) := by decide +kernel
theorem dX12_wets_19 : decode cX12_wets 19 = .ok (.iaload, 1) := by decide +kernel
theorem dX12_wets_20 : decode cX12_wets 20 = .ok (.iadd, 1) := by decide +kernel
theorem dX12_wets_21 : decode cX12_wets 21 = .ok (.istore_n 1, 1) := by decide +kernel
theorem dX12_wets_22 : decode cX12_wets 22 = .ok (.iinc 2 1, 3) := by decide +kernel
theorem dX12_wets_25 : decode cX12_wets 25 = .ok (.goto (-21), 3) := by decide +kernel
theorem dX12_wets_28 : decode cX12_wets 28 = .ok (.iload_n 1, 1) := by decide +kernel
theorem dX12_wets_29 : decode cX12_wets 29 = .ok (.ireturn, 1) := by decide +kernel
theorem dX12_wetsNext_0 : decode cX12_wetsNext 0 = .ok (.iconst (-1), 1) := by decide +kernel
theorem dX12_wetsNext_1 : decode cX12_wetsNext 1 = .ok (.istore_n 3, 1) := by decide +kernel
theorem dX12_wetsNext_2 : decode cX12_wetsNext 2 = .ok (.bipush 99, 2) := by decide +kernel
theorem dX12_wetsNext_4 : decode cX12_wetsNext 4 = .ok (.istore 4, 2) := by decide +kernel
theorem dX12_wetsNext_6 : decode cX12_wetsNext 6 = .ok (.iconst 0, 1) := by decide +kernel
theorem dX12_wetsNext_7 : decode cX12_wetsNext 7 = .ok (.istore 5, 2) := by decide +kernel
theorem dX12_wetsNext_9 : decode cX12_wetsNext 9 = .ok (.iload 5, 2) := by decide +kernel
theorem dX12_wetsNext_11 : decode cX12_wetsNext 11 = .ok (.bipush 64, 2) := by decide +kernel
theorem dX12_wetsNext_13 : decode cX12_wetsNext 13 = .ok (.if_icmp .ge 61, 3) := by decide +kernel
theorem dX12_wetsNext_16 : decode cX12_wetsNext 16 = .ok (.iload 5, 2) := by decide +kernel
theorem dX12_wetsNext_18 : decode cX12_wetsNext 18 = .ok (.bipush 8, 2) := by decide +kernel
theorem dX12_wetsNext_20 : decode cX12_wetsNext 20 = .ok (.idiv, 1) := by decide +kernel
theorem dX12_wetsNext_21 : decode cX12_wetsNext 21 = .ok (.iload_n 1, 1) := by decide +kernel
theorem dX12_wetsNext_22 : decode cX12_wetsNext 22 = .ok (.invokestatic 147, 3) := by decide +kernel
theorem dX12_wetsNext_25 : decode cX12_wetsNext 25 = .ok (.iload 5, 2) := by decide +kernel
theorem dX12_wetsNext_27 : decode cX12_wetsNext 27 = .ok (.bipush 8, 2) := by decide +kernel
theorem dX12_wetsNext_29 : decode cX12_wetsNext 29 = .ok (.irem, 1) := by decide +kernel
theorem dX12_wetsNext_30 : decode cX12_wetsNext 30 = .ok (.iload_n 2, 1) := by decide +kernel
theorem dX12_wetsNext_31 : decode cX12_wetsNext 31 = .ok (.invokestatic 147, 3) := by decide +kernel
theorem dX12_wetsNext_34 : decode cX12_wetsNext 34 = .ok (.iadd, 1) := by decide +kernel
theorem dX12_wetsNext_35 : decode cX12_wetsNext 35 = .ok (.istore 6, 2) := by decide +kernel
theorem dX12_wetsNext_37 : decode cX12_wetsNext 37 = .ok (.aload_n 0, 1) := by decide +kernel
theorem dX12_wetsNext_38 : decode cX12_wetsNext 38 = .ok (.getfield 7, 3) := by decide +kernel
theorem dX12_wetsNext_41 : decode cX12_wetsNext 41 = .ok (.bipush 82, 2) := by decide +kernel
theorem dX12_wetsNext_43 : decode cX12_wetsNext 43 = .ok (.iload 5, 2) := by decide +kernel
theorem dX12_wetsNext_45 : decode cX12_wetsNext 45 = .ok (.iadd, 1) := by decide +kernel
theorem dX12_wetsNext_46 : decode cX12_wetsNext 46 = .ok (.iaload, 1) := by decide +kernel
theorem dX12_wetsNext_47 : decode cX12_wetsNext 47 = .ok (.iconst 1, 1) := by decide +kernel
theorem dX12_wetsNext_48 : decode cX12_wetsNext 48 = .ok (.if_icmp .eq 20, 3) := by decide +kernel
theorem dX12_wetsNext_51 : decode cX12_wetsNext 51 = .ok (.iload 6, 2) := by decide +kernel
theorem dX12_wetsNext_53 : decode cX12_wetsNext 53 = .ok (.iload 4, 2) := by decide +kernel
theorem dX12_wetsNext_55 : decode cX12_wetsNext 55 = .ok (.if_icmp .lt 6, 3) := by decide +kernel
theorem dX12_wetsNext_58 : decode cX12_wetsNext 58 = .ok (.goto 10, 3) := by decide +kernel
theorem dX12_wetsNext_61 : decode cX12_wetsNext 61 = .ok (.iload 6, 2) := by decide +kernel
theorem dX12_wetsNext_63 : decode cX12_wetsNext 63 = .ok (.istore 4, 2) := by decide +kernel
theorem dX12_wetsNext_65 : decode cX12_wetsNext 65 = .ok (.iload 5, 2) := by decide +kernel
theorem dX12_wetsNext_67 : decode cX12_wetsNext 67 = .ok (.istore_n 3, 1) := by decide +kernel
theorem dX12_wetsNext_68 : decode cX12_wetsNext 68 = .ok (.iinc 5 1, 3) := by decide +kernel
theorem dX12_wetsNext_71 : decode cX12_wetsNext 71 = .ok (.goto (-62), 3) := by decide +kernel
theorem dX12_wetsNext_74 : decode cX12_wetsNext 74 = .ok (.iload_n 3, 1) := by decide +kernel
theorem dX12_wetsNext_75 : decode cX12_wetsNext 75 = .ok (.ifCond .lt 13, 3) := by decide +kernel
theorem dX12_wetsNext_78 : decode cX12_wetsNext 78 = .ok (.aload_n 0, 1) := by decide +kernel
theorem dX12_wetsNext_79 : decode cX12_wetsNext 79 = .ok (.getfield 7, 3) := by decide +kernel
theorem dX12_wetsNext_82 : decode cX12_wetsNext 82 = .ok (.bipush 82, 2) := by decide +kernel
theorem dX12_wetsNext_84 : decode cX12_wetsNext 84 = .ok (.iload_n 3, 1) := by decide +kernel
theorem dX12_wetsNext_85 : decode cX12_wetsNext 85 = .ok (.iadd, 1) := by decide +kernel
theorem dX12_wetsNext_86 : decode cX12_wetsNext 86 = .ok (.iconst 1, 1) := by decide +kernel
theorem dX12_wetsNext_87 : decode cX12_wetsNext 87 = .ok (.iastore, 1) := by decide +kernel
theorem dX12_wetsNext_88 : decode cX12_wetsNext 88 = .ok (.return_, 1) := by decide +kernel
theorem dX12_marksPuddle_0 : decode cX12_marksPuddle 0 = .ok (.iconst 0, 1) := by decide +kernel
theorem dX12_marksPuddle_1 : decode cX12_marksPuddle 1 = .ok (.istore_n 2, 1) := by decide +kernel
theorem dX12_marksPuddle_2 : decode cX12_marksPuddle 2 = .ok (.iload_n 2, 1) := by decide +kernel
theorem dX12_marksPuddle_3 : decode cX12_marksPuddle 3 = .ok (.bipush 64, 2) := by decide +kernel
theorem dX12_marksPuddle_5 : decode cX12_marksPuddle 5 = .ok (.if_icmp .ge 38, 3) := by decide +kernel
theorem dX12_marksPuddle_8 : decode cX12_marksPuddle 8 = .ok (.aload_n 0, 1) := by decide +kernel
theorem dX12_marksPuddle_9 : decode cX12_marksPuddle 9 = .ok (.getfield 22, 3) := by decide +kernel
theorem dX12_marksPuddle_12 : decode cX12_marksPuddle 12 = .ok (.iload_n 2, 1) := by decide +kernel
theorem dX12_marksPuddle_13 : decode cX12_marksPuddle 13 = .ok (.iload_n 2, 1) := by decide +kernel
theorem dX12_marksPuddle_14 : decode cX12_marksPuddle 14 = .ok (.iload_n 1, 1) := by decide +kernel
theorem dX12_marksPuddle_15 : decode cX12_marksPuddle 15 = .ok (.if_icmp .ne 20, 3) := by decide +kernel
theorem dX12_marksPuddle_18 : decode cX12_marksPuddle 18 = .ok (.aload_n 0, 1) := by decide +kernel
theorem dX12_marksPuddle_19 : decode cX12_marksPuddle 19 = .ok (.getfield 7, 3) := by decide +kernel
theorem dX12_marksPuddle_22 : decode cX12_marksPuddle 22 = .ok (.bipush 82, 2) := by decide +kernel
theorem dX12_marksPuddle_24 : decode cX12_marksPuddle 24 = .ok (.iload_n 2, 1) := by decide +kernel
theorem dX12_marksPuddle_25 : decode cX12_marksPuddle 25 = .ok (.iadd, 1) := by decide +kernel
theorem dX12_marksPuddle_26 : decode cX12_marksPuddle 26 = .ok (.iaload, 1) := by decide +kernel
theorem dX12_marksPuddle_27 : decode cX12_marksPuddle 27 = .ok (.iconst 1, 1) := by decide +kernel
theorem dX12_marksPuddle_28 : decode cX12_marksPuddle 28 = .ok (.if_icmp .ne 7, 3) := by decide +kernel
theorem dX12_marksPuddle_31 : decode cX12_marksPuddle 31 = .ok (.iconst 1, 1) := by decide +kernel
theorem dX12_marksPuddle_32 : decode cX12_marksPuddle 32 = .ok (.goto 4, 3) := by decide +kernel
theorem dX12_marksPuddle_35 : decode cX12_marksPuddle 35 = .ok (.iconst 0, 1) := by decide +kernel
theorem dX12_marksPuddle_36 : decode cX12_marksPuddle 36 = .ok (.iastore, 1) := by decide +kernel
theorem dX12_marksPuddle_37 : decode cX12_marksPuddle 37 = .ok (.iinc 2 1, 3) := by decide +kernel
theorem dX12_marksPuddle_40 : decode cX12_marksPuddle 40 = .ok (.goto (-38), 3) := by decide +kernel
theorem dX12_marksPuddle_43 : decode cX12_marksPuddle 43 = .ok (.iconst 1, 1) := by decide +kernel
theorem dX12_marksPuddle_44 : decode cX12_marksPuddle 44 = .ok (.istore_n 2, 1) := by decide +kernel
theorem dX12_marksPuddle_45 : decode cX12_marksPuddle 45 = .ok (.iload_n 2, 1) := by decide +kernel
theorem dX12_marksPuddle_46 : decode cX12_marksPuddle 46 = .ok (.ifCond .eq 64, 3) := by decide +kernel
theorem dX12_marksPuddle_49 : decode cX12_marksPuddle 49 = .ok (.iconst 0, 1) := by decide +kernel
theorem dX12_marksPuddle_50 : decode cX12_marksPuddle 50 = .ok (.istore_n 2, 1) := by decide +kernel
theorem dX12_marksPuddle_51 : decode cX12_marksPuddle 51 = .ok (.iconst 0, 1) := by decide +kernel
theorem dX12_marksPuddle_52 : decode cX12_marksPuddle 52 = .ok (.istore_n 3, 1) := by decide +kernel
theorem dX12_marksPuddle_53 : decode cX12_marksPuddle 53 = .ok (.iload_n 3, 1) := by decide +kernel
theorem dX12_marksPuddle_54 : decode cX12_marksPuddle 54 = .ok (.bipush 64, 2) := by decide +kernel
theorem dX12_marksPuddle_56 : decode cX12_marksPuddle 56 = .ok (.if_icmp .ge 51, 3) := by decide +kernel
theorem dX12_marksPuddle_59 : decode cX12_marksPuddle 59 = .ok (.aload_n 0, 1) := by decide +kernel
theorem dX12_marksPuddle_60 : decode cX12_marksPuddle 60 = .ok (.getfield 22, 3) := by decide +kernel
theorem dX12_marksPuddle_63 : decode cX12_marksPuddle 63 = .ok (.iload_n 3, 1) := by decide +kernel
theorem dX12_marksPuddle_64 : decode cX12_marksPuddle 64 = .ok (.iaload, 1) := by decide +kernel
theorem dX12_marksPuddle_65 : decode cX12_marksPuddle 65 = .ok (.iconst 1, 1) := by decide +kernel
theorem dX12_marksPuddle_66 : decode cX12_marksPuddle 66 = .ok (.if_icmp .eq 35, 3) := by decide +kernel
theorem dX12_marksPuddle_69 : decode cX12_marksPuddle 69 = .ok (.aload_n 0, 1) := by decide +kernel
theorem dX12_marksPuddle_70 : decode cX12_marksPuddle 70 = .ok (.getfield 7, 3) := by decide +kernel
theorem dX12_marksPuddle_73 : decode cX12_marksPuddle 73 = .ok (.bipush 82, 2) := by decide +kernel
theorem dX12_marksPuddle_75 : decode cX12_marksPuddle 75 = .ok (.iload_n 3, 1) := by decide +kernel
theorem dX12_marksPuddle_76 : decode cX12_marksPuddle 76 = .ok (.iadd, 1) := by decide +kernel
theorem dX12_marksPuddle_77 : decode cX12_marksPuddle 77 = .ok (.iaload, 1) := by decide +kernel
theorem dX12_marksPuddle_78 : decode cX12_marksPuddle 78 = .ok (.ifCond .eq 23, 3) := by decide +kernel
theorem dX12_marksPuddle_81 : decode cX12_marksPuddle 81 = .ok (.aload_n 0, 1) := by decide +kernel
theorem dX12_marksPuddle_82 : decode cX12_marksPuddle 82 = .ok (.iload_n 3, 1) := by decide +kernel
theorem dX12_marksPuddle_83 : decode cX12_marksPuddle 83 = .ok (.invokevirtual 192, 3) := by decide +kernel
theorem dX12_marksPuddle_86 : decode cX12_marksPuddle 86 = .ok (.ifCond .ne 6, 3) := by decide +kernel
theorem dX12_marksPuddle_89 : decode cX12_marksPuddle 89 = .ok (.goto 12, 3) := by decide +kernel
theorem dX12_marksPuddle_92 : decode cX12_marksPuddle 92 = .ok (.aload_n 0, 1) := by decide +kernel
theorem dX12_marksPuddle_93 : decode cX12_marksPuddle 93 = .ok (.getfield 22, 3) := by decide +kernel
theorem dX12_marksPuddle_96 : decode cX12_marksPuddle 96 = .ok (.iload_n 3, 1) := by decide +kernel
theorem dX12_marksPuddle_97 : decode cX12_marksPuddle 97 = .ok (.iconst 1, 1) := by decide +kernel
theorem dX12_marksPuddle_98 : decode cX12_marksPuddle 98 = .ok (.iastore, 1) := by decide +kernel
theorem dX12_marksPuddle_99 : decode cX12_marksPuddle 99 = .ok (.iconst 1, 1) := by decide +kernel
theorem dX12_marksPuddle_100 : decode cX12_marksPuddle 100 = .ok (.istore_n 2, 1) := by decide +kernel
theorem dX12_marksPuddle_101 : decode cX12_marksPuddle 101 = .ok (.iinc 3 1, 3) := by decide +kernel
theorem dX12_marksPuddle_104 : decode cX12_marksPuddle 104 = .ok (.goto (-51), 3) := by decide +kernel
theorem dX12_marksPuddle_107 : decode cX12_marksPuddle 107 = .ok (.goto (-62), 3) := by decide +kernel
theorem dX12_marksPuddle_110 : decode cX12_marksPuddle 110 = .ok (.iconst 0, 1) := by decide +kernel
theorem dX12_marksPuddle_111 : decode cX12_marksPuddle 111 = .ok (.istore_n 3, 1) := by decide +kernel
theorem dX12_marksPuddle_112 : decode cX12_marksPuddle 112 = .ok (.iconst 0, 1) := by decide +kernel
theorem dX12_marksPuddle_113 : decode cX12_marksPuddle 113 = .ok (.istore 4, 2) := by decide +kernel
theorem dX12_marksPuddle_115 : decode cX12_marksPuddle 115 = .ok (.iload 4, 2) := by decide +kernel
theorem dX12_marksPuddle_117 : decode cX12_marksPuddle 117 = .ok (.bipush 64, 2) := by decide +kernel
theorem dX12_marksPuddle_119 : decode cX12_marksPuddle 119 = .ok (.if_icmp .ge 19, 3) := by decide +kernel
theorem dX12_marksPuddle_122 : decode cX12_marksPuddle 122 = .ok (.iload_n 3, 1) := by decide +kernel
theorem dX12_marksPuddle_123 : decode cX12_marksPuddle 123 = .ok (.aload_n 0, 1) := by decide +kernel
theorem dX12_marksPuddle_124 : decode cX12_marksPuddle 124 = .ok (.getfield 22, 3) := by decide +kernel
theorem dX12_marksPuddle_127 : decode cX12_marksPuddle 127 = .ok (.iload 4, 2) := by decide +kernel
theorem dX12_marksPuddle_129 : decode cX12_marksPuddle 129 = .ok (.iaload, 1) := by decide +kernel
theorem dX12_marksPuddle_130 : decode cX12_marksPuddle 130 = .ok (.iadd, 1) := by decide +kernel
theorem dX12_marksPuddle_131 : decode cX12_marksPuddle 131 = .ok (.istore_n 3, 1) := by decide +kernel
theorem dX12_marksPuddle_132 : decode cX12_marksPuddle 132 = .ok (.iinc 4 1, 3) := by decide +kernel
theorem dX12_marksPuddle_135 : decode cX12_marksPuddle 135 = .ok (.goto (-20), 3) := by decide +kernel
theorem dX12_marksPuddle_138 : decode cX12_marksPuddle 138 = .ok (.iload_n 3, 1) := by decide +kernel
theorem dX12_marksPuddle_139 : decode cX12_marksPuddle 139 = .ok (.ireturn, 1) := by decide +kernel
theorem dX12_isBesideMarked_0 : decode cX12_isBesideMarked 0 = .ok (.iload_n 1, 1) := by decide +kernel
theorem dX12_isBesideMarked_1 : decode cX12_isBesideMarked 1 = .ok (.bipush 8, 2) := by decide +kernel
theorem dX12_isBesideMarked_3 : decode cX12_isBesideMarked 3 = .ok (.idiv, 1) := by decide +kernel
theorem dX12_isBesideMarked_4 : decode cX12_isBesideMarked 4 = .ok (.istore_n 2, 1) := by decide +kernel
theorem dX12_isBesideMarked_5 : decode cX12_isBesideMarked 5 = .ok (.iload_n 1, 1) := by decide +kernel
theorem dX12_isBesideMarked_6 : decode cX12_isBesideMarked 6 = .ok (.bipush 8, 2) := by decide +kernel
theorem dX12_isBesideMarked_8 : decode cX12_isBesideMarked 8 = .ok (.irem, 1) := by decide +kernel
theorem dX12_isBesideMarked_9 : decode cX12_isBesideMarked 9 = .ok (.istore_n 3, 1) := by decide +kernel
theorem dX12_isBesideMarked_10 : decode cX12_isBesideMarked 10 = .ok (.iload_n 2, 1) := by decide +kernel
theorem dX12_isBesideMarked_11 : decode cX12_isBesideMarked 11 = .ok (.ifCond .le 16, 3) := by decide +kernel
theorem dX12_isBesideMarked_14 : decode cX12_isBesideMarked 14 = .ok (.aload_n 0, 1) := by decide +kernel
theorem dX12_isBesideMarked_15 : decode cX12_isBesideMarked 15 = .ok (.getfield 22, 3) := by decide +kernel
theorem dX12_isBesideMarked_18 : decode cX12_isBesideMarked 18 = .ok (.iload_n 1, 1) := by decide +kernel
theorem dX12_isBesideMarked_19 : decode cX12_isBesideMarked 19 = .ok (.bipush 8, 2) := by decide +kernel
theorem dX12_isBesideMarked_21 : decode cX12_isBesideMarked 21 = .ok (.isub, 1) := by decide +kernel
theorem dX12_isBesideMarked_22 : decode cX12_isBesideMarked 22 = .ok (.iaload, 1) := by decide +kernel
theorem dX12_isBesideMarked_23 : decode cX12_isBesideMarked 23 = .ok (.iconst 1, 1) := by decide +kernel
theorem dX12_isBesideMarked_24 : decode cX12_isBesideMarked 24 = .ok (.if_icmp .eq 22, 3) := by decide +kernel
theorem dX12_isBesideMarked_27 : decode cX12_isBesideMarked 27 = .ok (.iload_n 2, 1) := by decide +kernel
theorem dX12_isBesideMarked_28 : decode cX12_isBesideMarked 28 = .ok (.bipush 7, 2) := by decide +kernel
theorem dX12_isBesideMarked_30 : decode cX12_isBesideMarked 30 = .ok (.if_icmp .ge 18, 3) := by decide +kernel
theorem dX12_isBesideMarked_33 : decode cX12_isBesideMarked 33 = .ok (.aload_n 0, 1) := by decide +kernel
theorem dX12_isBesideMarked_34 : decode cX12_isBesideMarked 34 = .ok (.getfield 22, 3) := by decide +kernel
theorem dX12_isBesideMarked_37 : decode cX12_isBesideMarked 37 = .ok (.iload_n 1, 1) := by decide +kernel
theorem dX12_isBesideMarked_38 : decode cX12_isBesideMarked 38 = .ok (.bipush 8, 2) := by decide +kernel
theorem dX12_isBesideMarked_40 : decode cX12_isBesideMarked 40 = .ok (.iadd, 1) := by decide +kernel
theorem dX12_isBesideMarked_41 : decode cX12_isBesideMarked 41 = .ok (.iaload, 1) := by decide +kernel
theorem dX12_isBesideMarked_42 : decode cX12_isBesideMarked 42 = .ok (.iconst 1, 1) := by decide +kernel
theorem dX12_isBesideMarked_43 : decode cX12_isBesideMarked 43 = .ok (.if_icmp .ne 5, 3) := by decide +kernel
theorem dX12_isBesideMarked_46 : decode cX12_isBesideMarked 46 = .ok (.iconst 1, 1) := by decide +kernel
theorem dX12_isBesideMarked_47 : decode cX12_isBesideMarked 47 = .ok (.ireturn, 1) := by decide +kernel
theorem dX12_isBesideMarked_48 : decode cX12_isBesideMarked 48 = .ok (.iload_n 3, 1) := by decide +kernel
theorem dX12_isBesideMarked_49 : decode cX12_isBesideMarked 49 = .ok (.ifCond .le 15, 3) := by decide +kernel
theorem dX12_isBesideMarked_52 : decode cX12_isBesideMarked 52 = .ok (.aload_n 0, 1) := by decide +kernel
theorem dX12_isBesideMarked_53 : decode cX12_isBesideMarked 53 = .ok (.getfield 22, 3) := by decide +kernel
theorem dX12_isBesideMarked_56 : decode cX12_isBesideMarked 56 = .ok (.iload_n 1, 1) := by decide +kernel
theorem dX12_isBesideMarked_57 : decode cX12_isBesideMarked 57 = .ok (.iconst 1, 1) := by decide +kernel
theorem dX12_isBesideMarked_58 : decode cX12_isBesideMarked 58 = .ok (.isub, 1) := by decide +kernel
theorem dX12_isBesideMarked_59 : decode cX12_isBesideMarked 59 = .ok (.iaload, 1) := by decide +kernel
theorem dX12_isBesideMarked_60 : decode cX12_isBesideMarked 60 = .ok (.iconst 1, 1) := by decide +kernel
theorem dX12_isBesideMarked_61 : decode cX12_isBesideMarked 61 = .ok (.if_icmp .eq 21, 3) := by decide +kernel
theorem dX12_isBesideMarked_64 : decode cX12_isBesideMarked 64 = .ok (.iload_n 3, 1) := by decide +kernel
theorem dX12_isBesideMarked_65 : decode cX12_isBesideMarked 65 = .ok (.bipush 7, 2) := by decide +kernel
theorem dX12_isBesideMarked_67 : decode cX12_isBesideMarked 67 = .ok (.if_icmp .ge 19, 3) := by decide +kernel
theorem dX12_isBesideMarked_70 : decode cX12_isBesideMarked 70 = .ok (.aload_n 0, 1) := by decide +kernel
theorem dX12_isBesideMarked_71 : decode cX12_isBesideMarked 71 = .ok (.getfield 22, 3) := by decide +kernel
theorem dX12_isBesideMarked_74 : decode cX12_isBesideMarked 74 = .ok (.iload_n 1, 1) := by decide +kernel
theorem dX12_isBesideMarked_75 : decode cX12_isBesideMarked 75 = .ok (.iconst 1, 1) := by decide +kernel
theorem dX12_isBesideMarked_76 : decode cX12_isBesideMarked 76 = .ok (.iadd, 1) := by decide +kernel
theorem dX12_isBesideMarked_77 : decode cX12_isBesideMarked 77 = .ok (.iaload, 1) := by decide +kernel
theorem dX12_isBesideMarked_78 : decode cX12_isBesideMarked 78 = .ok (.iconst 1, 1) := by decide +kernel
theorem dX12_isBesideMarked_79 : decode cX12_isBesideMarked 79 = .ok (.if_icmp .ne 7, 3) := by decide +kernel
theorem dX12_isBesideMarked_82 : decode cX12_isBesideMarked 82 = .ok (.iconst 1, 1) := by decide +kernel
theorem dX12_isBesideMarked_83 : decode cX12_isBesideMarked 83 = .ok (.goto 4, 3) := by decide +kernel
theorem dX12_isBesideMarked_86 : decode cX12_isBesideMarked 86 = .ok (.iconst 0, 1) := by decide +kernel
theorem dX12_isBesideMarked_87 : decode cX12_isBesideMarked 87 = .ok (.ireturn, 1) := by decide +kernel
theorem dX12_largest_0 : decode cX12_largest 0 = .ok (.iconst 0, 1) := by decide +kernel
theorem dX12_largest_1 : decode cX12_largest 1 = .ok (.istore_n 1, 1) := by decide +kernel
theorem dX12_largest_2 : decode cX12_largest 2 = .ok (.iconst 0, 1) := by decide +kernel
theorem dX12_largest_3 : decode cX12_largest 3 = .ok (.istore_n 2, 1) := by decide +kernel
theorem dX12_largest_4 : decode cX12_largest 4 = .ok (.iload_n 2, 1) := by decide +kernel
theorem dX12_largest_5 : decode cX12_largest 5 = .ok (.bipush 64, 2) := by decide +kernel
theorem dX12_largest_7 : decode cX12_largest 7 = .ok (.if_icmp .ge 26, 3) := by decide +kernel
theorem dX12_largest_10 : decode cX12_largest 10 = .ok (.aload_n 0, 1) := by decide +kernel
theorem dX12_largest_11 : decode cX12_largest 11 = .ok (.iload_n 2, 1) := by decide +kernel
theorem dX12_largest_12 : decode cX12_largest 12 = .ok (.invokevirtual 195, 3) := by decide +kernel
theorem dX12_largest_15 : decode cX12_largest 15 = .ok (.istore_n 3, 1) := by decide +kernel
theorem dX12_largest_16 : decode cX12_largest 16 = .ok (.iload_n 3, 1) := by decide +kernel
theorem dX12_largest_17 : decode cX12_largest 17 = .ok (.iload_n 1, 1) := by decide +kernel
theorem dX12_largest_18 : decode cX12_largest 18 = .ok (.if_icmp .le 7, 3) := by decide +kernel
theorem dX12_largest_21 : decode cX12_largest 21 = .ok (.iload_n 3, 1) := by decide +kernel
theorem dX12_largest_22 : decode cX12_largest 22 = .ok (.goto 4, 3) := by decide +kernel
theorem dX12_largest_25 : decode cX12_largest 25 = .ok (.iload_n 1, 1) := by decide +kernel
theorem dX12_largest_26 : decode cX12_largest 26 = .ok (.istore_n 1, 1) := by decide +kernel
theorem dX12_largest_27 : decode cX12_largest 27 = .ok (.iinc 2 1, 3) := by decide +kernel
theorem dX12_largest_30 : decode cX12_largest 30 = .ok (.goto (-26), 3) := by decide +kernel
theorem dX12_largest_33 : decode cX12_largest 33 = .ok (.iload_n 1, 1) := by decide +kernel
theorem dX12_largest_34 : decode cX12_largest 34 = .ok (.ireturn, 1) := by decide +kernel
theorem dX12_notSpill_0 : decode cX12_notSpill 0 = .ok (.iload_n 0, 1) := by decide +kernel
theorem dX12_notSpill_1 : decode cX12_notSpill 1 = .ok (.iload_n 1, 1) := by decide +kernel
theorem dX12_notSpill_2 : decode cX12_notSpill 2 = .ok (.invokestatic 198, 3) := by decide +kernel
theorem dX12_notSpill_5 : decode cX12_notSpill 5 = .ok (.ifCond .ne 5, 3) := by decide +kernel
theorem dX12_notSpill_8 : decode cX12_notSpill 8 = .ok (.iconst 1, 1) := by decide +kernel
theorem dX12_notSpill_9 : decode cX12_notSpill 9 = .ok (.ireturn, 1) := by decide +kernel
theorem dX12_notSpill_10 : decode cX12_notSpill 10 = .ok (.iload_n 2, 1) := by decide +kernel
theorem dX12_notSpill_11 : decode cX12_notSpill 11 = .ok (.iconst 1, 1) := by decide +kernel
theorem dX12_notSpill_12 : decode cX12_notSpill 12 = .ok (.bipush 30, 2) := by decide +kernel
theorem dX12_notSpill_14 : decode cX12_notSpill 14 = .ok (.invokestatic 63, 3) := by decide +kernel
theorem dX12_notSpill_17 : decode cX12_notSpill 17 = .ok (.ifCond .eq 7, 3) := by decide +kernel
theorem dX12_notSpill_20 : decode cX12_notSpill 20 = .ok (.iconst 0, 1) := by decide +kernel
theorem dX12_notSpill_21 : decode cX12_notSpill 21 = .ok (.goto 4, 3) := by decide +kernel
theorem dX12_notSpill_24 : decode cX12_notSpill 24 = .ok (.iconst 2, 1) := by decide +kernel
theorem dX12_notSpill_25 : decode cX12_notSpill 25 = .ok (.ireturn, 1) := by decide +kernel
theorem dX12_spills_0 : decode cX12_spills 0 = .ok (.iconst 0, 1) := by decide +kernel
theorem dX12_spills_1 : decode cX12_spills 1 = .ok (.istore 4, 2) := by decide +kernel
theorem dX12_spills_3 : decode cX12_spills 3 = .ok (.iload 4, 2) := by decide +kernel
theorem dX12_spills_5 : decode cX12_spills 5 = .ok (.iload_n 3, 1) := by decide +kernel
theorem dX12_spills_6 : decode cX12_spills 6 = .ok (.if_icmp .ge 15, 3) := by decide +kernel
theorem dX12_spills_9 : decode cX12_spills 9 = .ok (.aload_n 0, 1) := by decide +kernel
theorem dX12_spills_10 : decode cX12_spills 10 = .ok (.iload_n 1, 1) := by decide +kernel
theorem dX12_spills_11 : decode cX12_spills 11 = .ok (.iload_n 2, 1) := by decide +kernel
theorem dX12_spills_12 : decode cX12_spills 12 = .ok (.invokevirtual 202, 3) := by decide +kernel
theorem dX12_spills_15 : decode cX12_spills 15 = .ok (.iinc 4 1, 3) := by decide +kernel
theorem dX12_spills_18 : decode cX12_spills 18 = .ok (.goto (-15), 3) := by decide +kernel
theorem dX12_spills_21 : decode cX12_spills 21 = .ok (.aload_n 0, 1) := by decide +kernel
theorem dX12_spills_22 : decode cX12_spills 22 = .ok (.invokevirtual 206, 3) := by decide +kernel
theorem dX12_spills_25 : decode cX12_spills 25 = .ok (.bipush 20, 2) := by decide +kernel
theorem dX12_spills_27 : decode cX12_spills 27 = .ok (.if_icmp .lt 7, 3) := by decide +kernel
theorem dX12_spills_30 : decode cX12_spills 30 = .ok (.aload_n 0, 1) := by decide +kernel
theorem dX12_spills_31 : decode cX12_spills 31 = .ok (.invokevirtual 183, 3) := by decide +kernel
theorem dX12_spills_34 : decode cX12_spills 34 = .ok (.aload_n 0, 1) := by decide +kernel
theorem dX12_spills_35 : decode cX12_spills 35 = .ok (.invokevirtual 209, 3) := by decide +kernel
theorem dX12_spills_38 : decode cX12_spills 38 = .ok (.ireturn, 1) := by decide +kernel
theorem dX12_spill_0 : decode cX12_spill 0 = .ok (.aload_n 0, 1) := by decide +kernel
theorem dX12_spill_1 : decode cX12_spill 1 = .ok (.iconst 0, 1) := by decide +kernel
theorem dX12_spill_2 : decode cX12_spill 2 = .ok (.putfield 48, 3) := by decide +kernel
theorem dX12_spill_5 : decode cX12_spill 5 = .ok (.iload_n 1, 1) := by decide +kernel
theorem dX12_spill_6 : decode cX12_spill 6 = .ok (.iload_n 2, 1) := by decide +kernel
theorem dX12_spill_7 : decode cX12_spill 7 = .ok (.iload_n 3, 1) := by decide +kernel
theorem dX12_spill_8 : decode cX12_spill 8 = .ok (.invokestatic 212, 3) := by decide +kernel
theorem dX12_spill_11 : decode cX12_spill 11 = .ok (.istore 4, 2) := by decide +kernel
theorem dX12_spill_13 : decode cX12_spill 13 = .ok (.iload 4, 2) := by decide +kernel
theorem dX12_spill_15 : decode cX12_spill 15 = .ok (.ifCond .eq 10, 3) := by decide +kernel
theorem dX12_spill_18 : decode cX12_spill 18 = .ok (.aload_n 0, 1) := by decide +kernel
theorem dX12_spill_19 : decode cX12_spill 19 = .ok (.iload 4, 2) := by decide +kernel
theorem dX12_spill_21 : decode cX12_spill 21 = .ok (.invokevirtual 82, 3) := by decide +kernel
theorem dX12_spill_24 : decode cX12_spill 24 = .ok (.ireturn, 1) := by decide +kernel
theorem dX12_spill_25 : decode cX12_spill 25 = .ok (.aload_n 0, 1) := by decide +kernel
theorem dX12_spill_26 : decode cX12_spill 26 = .ok (.invokevirtual 85, 3) := by decide +kernel
theorem dX12_spill_29 : decode cX12_spill 29 = .ok (.aload_n 0, 1) := by decide +kernel
theorem dX12_spill_30 : decode cX12_spill 30 = .ok (.iload_n 1, 1) := by decide +kernel
theorem dX12_spill_31 : decode cX12_spill 31 = .ok (.iload_n 2, 1) := by decide +kernel
theorem dX12_spill_32 : decode cX12_spill 32 = .ok (.iload_n 3, 1) := by decide +kernel
theorem dX12_spill_33 : decode cX12_spill 33 = .ok (.invokevirtual 216, 3) := by decide +kernel
theorem dX12_spill_36 : decode cX12_spill 36 = .ok (.ireturn, 1) := by decide +kernel
theorem dX12_notMop_0 : decode cX12_notMop 0 = .ok (.iload_n 1, 1) := by decide +kernel
theorem dX12_notMop_1 : decode cX12_notMop 1 = .ok (.iload_n 2, 1) := by decide +kernel
theorem dX12_notMop_2 : decode cX12_notMop 2 = .ok (.invokestatic 198, 3) := by decide +kernel
theorem dX12_notMop_5 : decode cX12_notMop 5 = .ok (.ifCond .ne 5, 3) := by decide +kernel
theorem dX12_notMop_8 : decode cX12_notMop 8 = .ok (.iconst 1, 1) := by decide +kernel
theorem dX12_notMop_9 : decode cX12_notMop 9 = .ok (.ireturn, 1) := by decide +kernel
theorem dX12_notMop_10 : decode cX12_notMop 10 = .ok (.aload_n 0, 1) := by decide +kernel
theorem dX12_notMop_11 : decode cX12_notMop 11 = .ok (.getfield 7, 3) := by decide +kernel
theorem dX12_notMop_14 : decode cX12_notMop 14 = .ok (.bipush 82, 2) := by decide +kernel
theorem dX12_notMop_16 : decode cX12_notMop 16 = .ok (.bipush 8, 2) := by decide +kernel
theorem dX12_notMop_18 : decode cX12_notMop 18 = .ok (.iload_n 1, 1) := by decide +kernel
theorem dX12_notMop_19 : decode cX12_notMop 19 = .ok (.imul, 1) := by decide +kernel
theorem dX12_notMop_20 : decode cX12_notMop 20 = .ok (.iadd, 1) := by decide +kernel
theorem dX12_notMop_21 : decode cX12_notMop 21 = .ok (.iload_n 2, 1) := by decide +kernel
theorem dX12_notMop_22 : decode cX12_notMop 22 = .ok (.iadd, 1) := by decide +kernel
theorem dX12_notMop_23 : decode cX12_notMop 23 = .ok (.iaload, 1) := by decide +kernel
theorem dX12_notMop_24 : decode cX12_notMop 24 = .ok (.iconst 1, 1) := by decide +kernel
theorem dX12_notMop_25 : decode cX12_notMop 25 = .ok (.if_icmp .ne 7, 3) := by decide +kernel
theorem dX12_notMop_28 : decode cX12_notMop 28 = .ok (.iconst 0, 1) := by decide +kernel
theorem dX12_notMop_29 : decode cX12_notMop 29 = .ok (.goto 4, 3) := by decide +kernel
theorem dX12_notMop_32 : decode cX12_notMop 32 = .ok (.iconst 2, 1) := by decide +kernel
theorem dX12_notMop_33 : decode cX12_notMop 33 = .ok (.ireturn, 1) := by decide +kernel
theorem dX12_mops_0 : decode cX12_mops 0 = .ok (.aload_n 0, 1) := by decide +kernel
theorem dX12_mops_1 : decode cX12_mops 1 = .ok (.bipush 8, 2) := by decide +kernel
theorem dX12_mops_3 : decode cX12_mops 3 = .ok (.iload_n 1, 1) := by decide +kernel
theorem dX12_mops_4 : decode cX12_mops 4 = .ok (.imul, 1) := by decide +kernel
theorem dX12_mops_5 : decode cX12_mops 5 = .ok (.iload_n 2, 1) := by decide +kernel
theorem dX12_mops_6 : decode cX12_mops 6 = .ok (.iadd, 1) := by decide +kernel
theorem dX12_mops_7 : decode cX12_mops 7 = .ok (.invokevirtual 195, 3) := by decide +kernel
theorem dX12_mops_10 : decode cX12_mops 10 = .ok (.istore_n 3, 1) := by decide +kernel
theorem dX12_mops_11 : decode cX12_mops 11 = .ok (.iconst 0, 1) := by decide +kernel
theorem dX12_mops_12 : decode cX12_mops 12 = .ok (.istore 4, 2) := by decide +kernel
theorem dX12_mops_14 : decode cX12_mops 14 = .ok (.iload 4, 2) := by decide +kernel
theorem dX12_mops_16 : decode cX12_mops 16 = .ok (.bipush 64, 2) := by decide +kernel
theorem dX12_mops_18 : decode cX12_mops 18 = .ok (.if_icmp .ge 29, 3) := by decide +kernel
theorem dX12_mops_21 : decode cX12_mops 21 = .ok (.aload_n 0, 1) := by decide +kernel
theorem dX12_mops_22 : decode cX12_mops 22 = .ok (.getfield 7, 3) := by decide +kernel
theorem dX12_mops_25 : decode cX12_mops 25 = .ok (.bipush 82, 2) := by decide +kernel
theorem dX12_mops_27 : decode cX12_mops 27 = .ok (.iload 4, 2) := by decide +kernel
theorem dX12_mops_29 : decode cX12_mops 29 = .ok (.iadd, 1) := by decide +kernel
theorem dX12_mops_30 : decode cX12_mops 30 = .ok (.dup2, 1) := by decide +kernel
theorem dX12_mops_31 : decode cX12_mops 31 = .ok (.iaload, 1) := by decide +kernel
theorem dX12_mops_32 : decode cX12_mops 32 = .ok (.aload_n 0, 1) := by decide +kernel
theorem dX12_mops_33 : decode cX12_mops 33 = .ok (.getfield 22, 3) := by decide +kernel
theorem dX12_mops_36 : decode cX12_mops 36 = .ok (.iload 4, 2) := by decide +kernel
theorem dX12_mops_38 : decode cX12_mops 38 = .ok (.iaload, 1) := by decide +kernel
theorem dX12_mops_39 : decode cX12_mops 39 = .ok (.isub, 1) := by decide +kernel
theorem dX12_mops_40 : decode cX12_mops 40 = .ok (.iastore, 1) := by decide +kernel
theorem dX12_mops_41 : decode cX12_mops 41 = .ok (.iinc 4 1, 3) := by decide +kernel
theorem dX12_mops_44 : decode cX12_mops 44 = .ok (.goto (-30), 3) := by decide +kernel
theorem dX12_mops_47 : decode cX12_mops 47 = .ok (.iload_n 3, 1) := by decide +kernel
theorem dX12_mops_48 : decode cX12_mops 48 = .ok (.ireturn, 1) := by decide +kernel
theorem dX12_mop_0 : decode cX12_mop 0 = .ok (.aload_n 0, 1) := by decide +kernel
theorem dX12_mop_1 : decode cX12_mop 1 = .ok (.iconst 0, 1) := by decide +kernel
theorem dX12_mop_2 : decode cX12_mop 2 = .ok (.putfield 48, 3) := by decide +kernel
theorem dX12_mop_5 : decode cX12_mop 5 = .ok (.aload_n 0, 1) := by decide +kernel
theorem dX12_mop_6 : decode cX12_mop 6 = .ok (.iload_n 1, 1) := by decide +kernel
theorem dX12_mop_7 : decode cX12_mop 7 = .ok (.iload_n 2, 1) := by decide +kernel
theorem dX12_mop_8 : decode cX12_mop 8 = .ok (.invokevirtual 219, 3) := by decide +kernel
theorem dX12_mop_11 : decode cX12_mop 11 = .ok (.istore_n 3, 1) := by decide +kernel
theorem dX12_mop_12 : decode cX12_mop 12 = .ok (.iload_n 3, 1) := by decide +kernel
theorem dX12_mop_13 : decode cX12_mop 13 = .ok (.ifCond .eq 9, 3) := by decide +kernel
theorem dX12_mop_16 : decode cX12_mop 16 = .ok (.aload_n 0, 1) := by decide +kernel
theorem dX12_mop_17 : decode cX12_mop 17 = .ok (.iload_n 3, 1) := by decide +kernel
theorem dX12_mop_18 : decode cX12_mop 18 = .ok (.invokevirtual 82, 3) := by decide +kernel
theorem dX12_mop_21 : decode cX12_mop 21 = .ok (.ireturn, 1) := by decide +kernel
theorem dX12_mop_22 : decode cX12_mop 22 = .ok (.aload_n 0, 1) := by decide +kernel
theorem dX12_mop_23 : decode cX12_mop 23 = .ok (.invokevirtual 85, 3) := by decide +kernel
theorem dX12_mop_26 : decode cX12_mop 26 = .ok (.aload_n 0, 1) := by decide +kernel
theorem dX12_mop_27 : decode cX12_mop 27 = .ok (.iload_n 1, 1) := by decide +kernel
theorem dX12_mop_28 : decode cX12_mop 28 = .ok (.iload_n 2, 1) := by decide +kernel
theorem dX12_mop_29 : decode cX12_mop 29 = .ok (.invokevirtual 222, 3) := by decide +kernel
theorem dX12_mop_32 : decode cX12_mop 32 = .ok (.ireturn, 1) := by decide +kernel
theorem dX12_notSugar_0 : decode cX12_notSugar 0 = .ok (.aload_n 0, 1) := by decide +kernel
theorem dX12_notSugar_1 : decode cX12_notSugar 1 = .ok (.iload_n 1, 1) := by decide +kernel
theorem dX12_notSugar_2 : decode cX12_notSugar 2 = .ok (.invokevirtual 132, 3) := by decide +kernel
theorem dX12_notSugar_5 : decode cX12_notSugar 5 = .ok (.ifCond .ne 5, 3) := by decide +kernel
theorem dX12_notSugar_8 : decode cX12_notSugar 8 = .ok (.iconst 1, 1) := by decide +kernel
theorem dX12_notSugar_9 : decode cX12_notSugar 9 = .ok (.ireturn, 1) := by decide +kernel
theorem dX12_notSugar_10 : decode cX12_notSugar 10 = .ok (.iload_n 2, 1) := by decide +kernel
theorem dX12_notSugar_11 : decode cX12_notSugar 11 = .ok (.iconst 1, 1) := by decide +kernel
theorem dX12_notSugar_12 : decode cX12_notSugar 12 = .ok (.bipush 9, 2) := by decide +kernel
theorem dX12_notSugar_14 : decode cX12_notSugar 14 = .ok (.invokestatic 63, 3) := by decide +kernel
theorem dX12_notSugar_17 : decode cX12_notSugar 17 = .ok (.ifCond .eq 7, 3) := by decide +kernel
theorem dX12_notSugar_20 : decode cX12_notSugar 20 = .ok (.iconst 0, 1) := by decide +kernel
theorem dX12_notSugar_21 : decode cX12_notSugar 21 = .ok (.goto 4, 3) := by decide +kernel
theorem dX12_notSugar_24 : decode cX12_notSugar 24 = .ok (.iconst 2, 1) := by decide +kernel
theorem dX12_notSugar_25 : decode cX12_notSugar 25 = .ok (.ireturn, 1) := by decide +kernel
theorem dX12_gives_0 : decode cX12_gives 0 = .ok (.aload_n 0, 1) := by decide +kernel
theorem dX12_gives_1 : decode cX12_gives 1 = .ok (.iload_n 1, 1) := by decide +kernel
theorem dX12_gives_2 : decode cX12_gives 2 = .ok (.iconst 2, 1) := by decide +kernel
theorem dX12_gives_3 : decode cX12_gives 3 = .ok (.aload_n 0, 1) := by decide +kernel
theorem dX12_gives_4 : decode cX12_gives 4 = .ok (.iload_n 1, 1) := by decide +kernel
theorem dX12_gives_5 : decode cX12_gives 5 = .ok (.iconst 2, 1) := by decide +kernel
theorem dX12_gives_6 : decode cX12_gives 6 = .ok (.invokevirtual 71, 3) := by decide +kernel
theorem dX12_gives_9 : decode cX12_gives 9 = .ok (.iload_n 2, 1) := by decide +kernel
theorem dX12_gives_10 : decode cX12_gives 10 = .ok (.iadd, 1) := by decide +kernel
theorem dX12_gives_11 : decode cX12_gives 11 = .ok (.invokevirtual 75, 3) := by decide +kernel
theorem dX12_gives_14 : decode cX12_gives 14 = .ok (.aload_n 0, 1) := by decide +kernel
theorem dX12_gives_15 : decode cX12_gives 15 = .ok (.getfield 7, 3) := by decide +kernel
theorem dX12_gives_18 : decode cX12_gives 18 = .ok (.bipush 9, 2) := by decide +kernel
theorem dX12_gives_20 : decode cX12_gives 20 = .ok (.dup2, 1) := by decide +kernel
theorem dX12_gives_21 : decode cX12_gives 21 = .ok (.iaload, 1) := by decide +kernel
theorem dX12_gives_22 : decode cX12_gives 22 = .ok (.iload_n 2, 1) := by decide +kernel
theorem dX12_gives_23 : decode cX12_gives 23 = .ok (.iadd, 1) := by decide +kernel
theorem dX12_gives_24 : decode cX12_gives 24 = .ok (.iastore, 1) := by decide +kernel
theorem dX12_gives_25 : decode cX12_gives 25 = .ok (.aload_n 0, 1) := by decide +kernel
theorem dX12_gives_26 : decode cX12_gives 26 = .ok (.iload_n 1, 1) := by decide +kernel
theorem dX12_gives_27 : decode cX12_gives 27 = .ok (.iconst 2, 1) := by decide +kernel
theorem dX12_gives_28 : decode cX12_gives 28 = .ok (.invokevirtual 71, 3) := by decide +kernel
theorem dX12_gives_31 : decode cX12_gives 31 = .ok (.ireturn, 1) := by decide +kernel
theorem dX12_giveSugar_0 : decode cX12_giveSugar 0 = .ok (.aload_n 0, 1) := by decide +kernel
theorem dX12_giveSugar_1 : decode cX12_giveSugar 1 = .ok (.iconst 0, 1) := by decide +kernel
theorem dX12_giveSugar_2 : decode cX12_giveSugar 2 = .ok (.putfield 48, 3) := by decide +kernel
theorem dX12_giveSugar_5 : decode cX12_giveSugar 5 = .ok (.aload_n 0, 1) := by decide +kernel
theorem dX12_giveSugar_6 : decode cX12_giveSugar 6 = .ok (.iload_n 1, 1) := by decide +kernel
theorem dX12_giveSugar_7 : decode cX12_giveSugar 7 = .ok (.iload_n 2, 1) := by decide +kernel
theorem dX12_giveSugar_8 : decode cX12_giveSugar 8 = .ok (.invokevirtual 225, 3) := by decide +kernel
theorem dX12_giveSugar_11 : decode cX12_giveSugar 11 = .ok (.istore_n 3, 1) := by decide +kernel
theorem dX12_giveSugar_12 : decode cX12_giveSugar 12 = .ok (.iload_n 3, 1) := by decide +kernel
theorem dX12_giveSugar_13 : decode cX12_giveSugar 13 = .ok (.ifCond .eq 9, 3) := by decide +kernel
theorem dX12_giveSugar_16 : decode cX12_giveSugar 16 = .ok (.aload_n 0, 1) := by decide +kernel
theorem dX12_giveSugar_17 : decode cX12_giveSugar 17 = .ok (.iload_n 3, 1) := by decide +kernel
theorem dX12_giveSugar_18 : decode cX12_giveSugar 18 = .ok (.invokevirtual 82, 3) := by decide +kernel
theorem dX12_giveSugar_21 : decode cX12_giveSugar 21 = .ok (.ireturn, 1) := by decide +kernel
theorem dX12_giveSugar_22 : decode cX12_giveSugar 22 = .ok (.aload_n 0, 1) := by decide +kernel
theorem dX12_giveSugar_23 : decode cX12_giveSugar 23 = .ok (.invokevirtual 85, 3) := by decide +kernel
theorem dX12_giveSugar_26 : decode cX12_giveSugar 26 = .ok (.aload_n 0, 1) := by decide +kernel
theorem dX12_giveSugar_27 : decode cX12_giveSugar 27 = .ok (.iload_n 1, 1) := by decide +kernel
theorem dX12_giveSugar_28 : decode cX12_giveSugar 28 = .ok (.iload_n 2, 1) := by decide +kernel
theorem dX12_giveSugar_29 : decode cX12_giveSugar 29 = .ok (.invokevirtual 228, 3) := by decide +kernel
theorem dX12_giveSugar_32 : decode cX12_giveSugar 32 = .ok (.ireturn, 1) := by decide +kernel
theorem dX12_told_0 : decode cX12_told 0 = .ok (.aload_n 0, 1) := by decide +kernel
theorem dX12_told_1 : decode cX12_told 1 = .ok (.iconst 0, 1) := by decide +kernel
theorem dX12_told_2 : decode cX12_told 2 = .ok (.putfield 48, 3) := by decide +kernel
theorem dX12_told_5 : decode cX12_told 5 = .ok (.aload_n 0, 1) := by decide +kernel
theorem dX12_told_6 : decode cX12_told 6 = .ok (.getfield 7, 3) := by decide +kernel
theorem dX12_told_9 : decode cX12_told 9 = .ok (.iload_n 1, 1) := by decide +kernel
theorem dX12_told_10 : decode cX12_told 10 = .ok (.iaload, 1) := by decide +kernel
theorem dX12_told_11 : decode cX12_told 11 = .ok (.ireturn, 1) := by decide +kernel
theorem dX12_spoonCount_0 : decode cX12_spoonCount 0 = .ok (.aload_n 0, 1) := by decide +kernel
theorem dX12_spoonCount_1 : decode cX12_spoonCount 1 = .ok (.iconst 0, 1) := by decide +kernel
theorem dX12_spoonCount_2 : decode cX12_spoonCount 2 = .ok (.invokevirtual 231, 3) := by decide +kernel
theorem dX12_spoonCount_5 : decode cX12_spoonCount 5 = .ok (.ireturn, 1) := by decide +kernel
theorem dX12_tells_0 : decode cX12_tells 0 = .ok (.aload_n 0, 1) := by decide +kernel
theorem dX12_tells_1 : decode cX12_tells 1 = .ok (.iconst 0, 1) := by decide +kernel
theorem dX12_tells_2 : decode cX12_tells 2 = .ok (.putfield 48, 3) := by decide +kernel
theorem dX12_tells_5 : decode cX12_tells 5 = .ok (.aload_n 0, 1) := by decide +kernel
theorem dX12_tells_6 : decode cX12_tells 6 = .ok (.iload_n 1, 1) := by decide +kernel
theorem dX12_tells_7 : decode cX12_tells 7 = .ok (.invokevirtual 132, 3) := by decide +kernel
theorem dX12_tells_10 : decode cX12_tells 10 = .ok (.ifCond .eq 12, 3) := by decide +kernel
theorem dX12_tells_13 : decode cX12_tells 13 = .ok (.aload_n 0, 1) := by decide +kernel
theorem dX12_tells_14 : decode cX12_tells 14 = .ok (.iload_n 1, 1) := by decide +kernel
theorem dX12_tells_15 : decode cX12_tells 15 = .ok (.iload_n 2, 1) := by decide +kernel
theorem dX12_tells_16 : decode cX12_tells 16 = .ok (.invokevirtual 71, 3) := by decide +kernel
theorem dX12_tells_19 : decode cX12_tells 19 = .ok (.goto 8, 3) := by decide +kernel
theorem dX12_tells_22 : decode cX12_tells 22 = .ok (.aload_n 0, 1) := by decide +kernel
theorem dX12_tells_23 : decode cX12_tells 23 = .ok (.iconst 1, 1) := by decide +kernel
theorem dX12_tells_24 : decode cX12_tells 24 = .ok (.invokevirtual 82, 3) := by decide +kernel
theorem dX12_tells_27 : decode cX12_tells 27 = .ok (.ireturn, 1) := by decide +kernel
theorem dX12_weight_0 : decode cX12_weight 0 = .ok (.aload_n 0, 1) := by decide +kernel
theorem dX12_weight_1 : decode cX12_weight 1 = .ok (.iload_n 1, 1) := by decide +kernel
theorem dX12_weight_2 : decode cX12_weight 2 = .ok (.iconst 0, 1) := by decide +kernel
theorem dX12_weight_3 : decode cX12_weight 3 = .ok (.invokevirtual 234, 3) := by decide +kernel
theorem dX12_weight_6 : decode cX12_weight 6 = .ok (.ireturn, 1) := by decide +kernel
theorem dX12_stance_0 : decode cX12_stance 0 = .ok (.aload_n 0, 1) := by decide +kernel
theorem dX12_stance_1 : decode cX12_stance 1 = .ok (.iload_n 1, 1) := by decide +kernel
theorem dX12_stance_2 : decode cX12_stance 2 = .ok (.iconst 1, 1) := by decide +kernel
theorem dX12_stance_3 : decode cX12_stance 3 = .ok (.invokevirtual 234, 3) := by decide +kernel
theorem dX12_stance_6 : decode cX12_stance 6 = .ok (.ireturn, 1) := by decide +kernel
theorem dX12_sugar_0 : decode cX12_sugar 0 = .ok (.aload_n 0, 1) := by decide +kernel
theorem dX12_sugar_1 : decode cX12_sugar 1 = .ok (.iload_n 1, 1) := by decide +kernel
theorem dX12_sugar_2 : decode cX12_sugar 2 = .ok (.iconst 2, 1) := by decide +kernel
theorem dX12_sugar_3 : decode cX12_sugar 3 = .ok (.invokevirtual 234, 3) := by decide +kernel
theorem dX12_sugar_6 : decode cX12_sugar 6 = .ok (.ireturn, 1) := by decide +kernel
theorem dX12_speeches_0 : decode cX12_speeches 0 = .ok (.aload_n 0, 1) := by decide +kernel
theorem dX12_speeches_1 : decode cX12_speeches 1 = .ok (.iload_n 1, 1) := by decide +kernel
theorem dX12_speeches_2 : decode cX12_speeches 2 = .ok (.iconst 3, 1) := by decide +kernel
theorem dX12_speeches_3 : decode cX12_speeches 3 = .ok (.invokevirtual 234, 3) := by decide +kernel
theorem dX12_speeches_6 : decode cX12_speeches 6 = .ok (.ireturn, 1) := by decide +kernel
theorem dX12_isRicher_0 : decode cX12_isRicher 0 = .ok (.aload_n 0, 1) := by decide +kernel
theorem dX12_isRicher_1 : decode cX12_isRicher 1 = .ok (.iload_n 1, 1) := by decide +kernel
theorem dX12_isRicher_2 : decode cX12_isRicher 2 = .ok (.iconst 2, 1) := by decide +kernel
theorem dX12_isRicher_3 : decode cX12_isRicher 3 = .ok (.invokevirtual 71, 3) := by decide +kernel
theorem dX12_isRicher_6 : decode cX12_isRicher 6 = .ok (.aload_n 0, 1) := by decide +kernel
theorem dX12_isRicher_7 : decode cX12_isRicher 7 = .ok (.iload_n 2, 1) := by decide +kernel
theorem dX12_isRicher_8 : decode cX12_isRicher 8 = .ok (.iconst 2, 1) := by decide +kernel
theorem dX12_isRicher_9 : decode cX12_isRicher 9 = .ok (.invokevirtual 71, 3) := by decide +kernel
theorem dX12_isRicher_12 : decode cX12_isRicher 12 = .ok (.if_icmp .eq 24, 3) := by decide +kernel
theorem dX12_isRicher_15 : decode cX12_isRicher 15 = .ok (.aload_n 0, 1) := by decide +kernel
theorem dX12_isRicher_16 : decode cX12_isRicher 16 = .ok (.iload_n 1, 1) := by decide +kernel
theorem dX12_isRicher_17 : decode cX12_isRicher 17 = .ok (.iconst 2, 1) := by decide +kernel
theorem dX12_isRicher_18 : decode cX12_isRicher 18 = .ok (.invokevirtual 71, 3) := by decide +kernel
theorem dX12_isRicher_21 : decode cX12_isRicher 21 = .ok (.aload_n 0, 1) := by decide +kernel
theorem dX12_isRicher_22 : decode cX12_isRicher 22 = .ok (.iload_n 2, 1) := by decide +kernel
theorem dX12_isRicher_23 : decode cX12_isRicher 23 = .ok (.iconst 2, 1) := by decide +kernel
theorem dX12_isRicher_24 : decode cX12_isRicher 24 = .ok (.invokevirtual 71, 3) := by decide +kernel
theorem dX12_isRicher_27 : decode cX12_isRicher 27 = .ok (.if_icmp .le 7, 3) := by decide +kernel
theorem dX12_isRicher_30 : decode cX12_isRicher 30 = .ok (.iconst 1, 1) := by decide +kernel
theorem dX12_isRicher_31 : decode cX12_isRicher 31 = .ok (.goto 4, 3) := by decide +kernel
theorem dX12_isRicher_34 : decode cX12_isRicher 34 = .ok (.iconst 0, 1) := by decide +kernel
theorem dX12_isRicher_35 : decode cX12_isRicher 35 = .ok (.ireturn, 1) := by decide +kernel
theorem dX12_isRicher_36 : decode cX12_isRicher 36 = .ok (.aload_n 0, 1) := by decide +kernel
theorem dX12_isRicher_37 : decode cX12_isRicher 37 = .ok (.iload_n 1, 1) := by decide +kernel
theorem dX12_isRicher_38 : decode cX12_isRicher 38 = .ok (.iconst 0, 1) := by decide +kernel
theorem dX12_isRicher_39 : decode cX12_isRicher 39 = .ok (.invokevirtual 71, 3) := by decide +kernel
theorem dX12_isRicher_42 : decode cX12_isRicher 42 = .ok (.aload_n 0, 1) := by decide +kernel
theorem dX12_isRicher_43 : decode cX12_isRicher 43 = .ok (.iload_n 2, 1) := by decide +kernel
theorem dX12_isRicher_44 : decode cX12_isRicher 44 = .ok (.iconst 0, 1) := by decide +kernel
theorem dX12_isRicher_45 : decode cX12_isRicher 45 = .ok (.invokevirtual 71, 3) := by decide +kernel
theorem dX12_isRicher_48 : decode cX12_isRicher 48 = .ok (.if_icmp .eq 26, 3) := by decide +kernel
theorem dX12_isRicher_51 : decode cX12_isRicher 51 = .ok (.aload_n 0, 1) := by decide +kernel
theorem dX12_isRicher_52 : decode cX12_isRicher 52 = .ok (.iload_n 1, 1) := by decide +kernel
theorem dX12_isRicher_53 : decode cX12_isRicher 53 = .ok (.iconst 0, 1) := by decide +kernel
theorem dX12_isRicher_54 : decode cX12_isRicher 54 = .ok (.invokevirtual 71, 3) := by decide +kernel
theorem dX12_isRicher_57 : decode cX12_isRicher 57 = .ok (.aload_n 0, 1) := by decide +kernel
theorem dX12_isRicher_58 : decode cX12_isRicher 58 = .ok (.iload_n 2, 1) := by decide +kernel
theorem dX12_isRicher_59 : decode cX12_isRicher 59 = .ok (.iconst 0, 1) := by decide +kernel
theorem dX12_isRicher_60 : decode cX12_isRicher 60 = .ok (.invokevirtual 71, 3) := by decide +kernel
theorem dX12_isRicher_63 : decode cX12_isRicher 63 = .ok (.if_icmp .le 7, 3) := by decide +kernel
theorem dX12_isRicher_66 : decode cX12_isRicher 66 = .ok (.iconst 1, 1) := by decide +kernel
theorem dX12_isRicher_67 : decode cX12_isRicher 67 = .ok (.goto 17, 3) := by decide +kernel
theorem dX12_isRicher_70 : decode cX12_isRicher 70 = .ok (.iconst 0, 1) := by decide +kernel
theorem dX12_isRicher_71 : decode cX12_isRicher 71 = .ok (.goto 13, 3) := by decide +kernel
theorem dX12_isRicher_74 : decode cX12_isRicher 74 = .ok (.iload_n 1, 1) := by decide +kernel
theorem dX12_isRicher_75 : decode cX12_isRicher 75 = .ok (.iload_n 2, 1) := by decide +kernel
theorem dX12_isRicher_76 : decode cX12_isRicher 76 = .ok (.if_icmp .ge 7, 3) := by decide +kernel
theorem dX12_isRicher_79 : decode cX12_isRicher 79 = .ok (.iconst 1, 1) := by decide +kernel
theorem dX12_isRicher_80 : decode cX12_isRicher 80 = .ok (.goto 4, 3) := by decide +kernel
theorem dX12_isRicher_83 : decode cX12_isRicher 83 = .ok (.iconst 0, 1) := by decide +kernel
theorem dX12_isRicher_84 : decode cX12_isRicher 84 = .ok (.ireturn, 1) := by decide +kernel
theorem dX12_spoonBySugar_0 : decode cX12_spoonBySugar 0 = .ok (.aload_n 0, 1) := by decide +kernel
theorem dX12_spoonBySugar_1 : decode cX12_spoonBySugar 1 = .ok (.iconst 0, 1) := by decide +kernel
theorem dX12_spoonBySugar_2 : decode cX12_spoonBySugar 2 = .ok (.putfield 48, 3) := by decide +kernel
theorem dX12_spoonBySugar_5 : decode cX12_spoonBySugar 5 = .ok (.iconst 0, 1) := by decide +kernel
theorem dX12_spoonBySugar_6 : decode cX12_spoonBySugar 6 = .ok (.istore_n 2, 1) := by decide +kernel
theorem dX12_spoonBySugar_7 : decode cX12_spoonBySugar 7 = .ok (.iload_n 2, 1) := by decide +kernel
theorem dX12_spoonBySugar_8 : decode cX12_spoonBySugar 8 = .ok (.aload_n 0, 1) := by decide +kernel
theorem dX12_spoonBySugar_9 : decode cX12_spoonBySugar 9 = .ok (.getfield 7, 3) := by decide +kernel
theorem dX12_spoonBySugar_12 : decode cX12_spoonBySugar 12 = .ok (.iconst 0, 1) := by decide +kernel
theorem dX12_spoonBySugar_13 : decode cX12_spoonBySugar 13 = .ok (.iaload, 1) := by decide +kernel
theorem dX12_spoonBySugar_14 : decode cX12_spoonBySugar 14 = .ok (.if_icmp .ge 62, 3) := by decide +kernel
theorem dX12_spoonBySugar_17 : decode cX12_spoonBySugar 17 = .ok (.iconst 0, 1) := by decide +kernel
theorem dX12_spoonBySugar_18 : decode cX12_spoonBySugar 18 = .ok (.istore_n 3, 1) := by decide +kernel
theorem dX12_spoonBySugar_19 : decode cX12_spoonBySugar 19 = .ok (.iconst 0, 1) := by decide +kernel
theorem dX12_spoonBySugar_20 : decode cX12_spoonBySugar 20 = .ok (.istore 4, 2) := by decide +kernel
theorem dX12_spoonBySugar_22 : decode cX12_spoonBySugar 22 = .ok (.iload 4, 2) := by decide +kernel
theorem dX12_spoonBySugar_24 : decode cX12_spoonBySugar 24 = .ok (.aload_n 0, 1) := by decide +kernel
theorem dX12_spoonBySugar_25 : decode cX12_spoonBySugar 25 = .ok (.getfield 7, 3) := by decide +kernel
theorem dX12_spoonBySugar_28 : decode cX12_spoonBySugar 28 = .ok (.iconst 0, 1) := by decide +kernel
theorem dX12_spoonBySugar_29 : decode cX12_spoonBySugar 29 = .ok (.iaload, 1) := by decide +kernel
theorem dX12_spoonBySugar_30 : decode cX12_spoonBySugar 30 = .ok (.if_icmp .ge 33, 3) := by decide +kernel
theorem dX12_spoonBySugar_33 : decode cX12_spoonBySugar 33 = .ok (.iload_n 3, 1) := by decide +kernel
theorem dX12_spoonBySugar_34 : decode cX12_spoonBySugar 34 = .ok (.iload 4, 2) := by decide +kernel
theorem dX12_spoonBySugar_36 : decode cX12_spoonBySugar 36 = .ok (.iload_n 2, 1) := by decide +kernel
theorem dX12_spoonBySugar_37 : decode cX12_spoonBySugar 37 = .ok (.if_icmp .eq 17, 3) := by decide +kernel
theorem dX12_spoonBySugar_40 : decode cX12_spoonBySugar 40 = .ok (.aload_n 0, 1) := by decide +kernel
theorem dX12_spoonBySugar_41 : decode cX12_spoonBySugar 41 = .ok (.iload 4, 2) := by decide +kernel
theorem dX12_spoonBySugar_43 : decode cX12_spoonBySugar 43 = .ok (.iload_n 2, 1) := by decide +kernel
theorem dX12_spoonBySugar_44 : decode cX12_spoonBySugar 44 = .ok (.invokevirtual 237, 3) := by decide +kernel
theorem dX12_spoonBySugar_47 : decode cX12_spoonBySugar 47 = .ok (.ifCond .eq 7, 3) := by decide +kernel
theorem dX12_spoonBySugar_50 : decode cX12_spoonBySugar 50 = .ok (.iconst 1, 1) := by decide +kernel
theorem dX12_spoonBySugar_51 : decode cX12_spoonBySugar 51 = .ok (.goto 4, 3) := by decide +kernel
theorem dX12_spoonBySugar_54 : decode cX12_spoonBySugar 54 = .ok (.iconst 0, 1) := by decide +kernel
theorem dX12_spoonBySugar_55 : decode cX12_spoonBySugar 55 = .ok (.iadd, 1) := by decide +kernel
theorem dX12_spoonBySugar_56 : decode cX12_spoonBySugar 56 = .ok (.istore_n 3, 1) := by decide +kernel
theorem dX12_spoonBySugar_57 : decode cX12_spoonBySugar 57 = .ok (.iinc 4 1, 3) := by decide +kernel
theorem dX12_spoonBySugar_60 : decode cX12_spoonBySugar 60 = .ok (.goto (-38), 3) := by decide +kernel
theorem dX12_spoonBySugar_63 : decode cX12_spoonBySugar 63 = .ok (.iload_n 3, 1) := by decide +kernel
theorem dX12_spoonBySugar_64 : decode cX12_spoonBySugar 64 = .ok (.iload_n 1, 1) := by decide +kernel
theorem dX12_spoonBySugar_65 : decode cX12_spoonBySugar 65 = .ok (.if_icmp .ne 5, 3) := by decide +kernel
theorem dX12_spoonBySugar_68 : decode cX12_spoonBySugar 68 = .ok (.iload_n 2, 1) := by decide +kernel
theorem dX12_spoonBySugar_69 : decode cX12_spoonBySugar 69 = .ok (.ireturn, 1) := by decide +kernel
theorem dX12_spoonBySugar_70 : decode cX12_spoonBySugar 70 = .ok (.iinc 2 1, 3) := by decide +kernel
theorem dX12_spoonBySugar_73 : decode cX12_spoonBySugar 73 = .ok (.goto (-66), 3) := by decide +kernel
theorem dX12_spoonBySugar_76 : decode cX12_spoonBySugar 76 = .ok (.aload_n 0, 1) := by decide +kernel
theorem dX12_spoonBySugar_77 : decode cX12_spoonBySugar 77 = .ok (.iconst 1, 1) := by decide +kernel
theorem dX12_spoonBySugar_78 : decode cX12_spoonBySugar 78 = .ok (.invokevirtual 82, 3) := by decide +kernel
theorem dX12_spoonBySugar_81 : decode cX12_spoonBySugar 81 = .ok (.ireturn, 1) := by decide +kernel
theorem dX12_proposalCount_0 : decode cX12_proposalCount 0 = .ok (.aload_n 0, 1) := by decide +kernel
theorem dX12_proposalCount_1 : decode cX12_proposalCount 1 = .ok (.iconst 1, 1) := by decide +kernel
theorem dX12_proposalCount_2 : decode cX12_proposalCount 2 = .ok (.invokevirtual 231, 3) := by decide +kernel
theorem dX12_proposalCount_5 : decode cX12_proposalCount 5 = .ok (.ireturn, 1) := by decide +kernel
theorem dX12_proposalAt_0 : decode cX12_proposalAt 0 = .ok (.aload_n 0, 1) := by decide +kernel
theorem dX12_proposalAt_1 : decode cX12_proposalAt 1 = .ok (.iconst 0, 1) := by decide +kernel
theorem dX12_proposalAt_2 : decode cX12_proposalAt 2 = .ok (.putfield 48, 3) := by decide +kernel
theorem dX12_proposalAt_5 : decode cX12_proposalAt 5 = .ok (.iload_n 1, 1) := by decide +kernel
theorem dX12_proposalAt_6 : decode cX12_proposalAt 6 = .ok (.iconst 0, 1) := by decide +kernel
theorem dX12_proposalAt_7 : decode cX12_proposalAt 7 = .ok (.aload_n 0, 1) := by decide +kernel
theorem dX12_proposalAt_8 : decode cX12_proposalAt 8 = .ok (.getfield 7, 3) := by decide +kernel
theorem dX12_proposalAt_11 : decode cX12_proposalAt 11 = .ok (.iconst 1, 1) := by decide +kernel
theorem dX12_proposalAt_12 : decode cX12_proposalAt 12 = .ok (.iaload, 1) := by decide +kernel
theorem dX12_proposalAt_13 : decode cX12_proposalAt 13 = .ok (.iconst 1, 1) := by decide +kernel
theorem dX12_proposalAt_14 : decode cX12_proposalAt 14 = .ok (.isub, 1) := by decide +kernel
theorem dX12_proposalAt_15 : decode cX12_proposalAt 15 = .ok (.invokestatic 63, 3) := by decide +kernel
theorem dX12_proposalAt_18 : decode cX12_proposalAt 18 = .ok (.ifCond .eq 11, 3) := by decide +kernel
theorem dX12_proposalAt_21 : decode cX12_proposalAt 21 = .ok (.aload_n 0, 1) := by decide +kernel
theorem dX12_proposalAt_22 : decode cX12_proposalAt 22 = .ok (.iload_n 1, 1) := by decide +kernel
theorem dX12_proposalAt_23 : decode cX12_proposalAt 23 = .ok (.invokevirtual 67, 3) := by decide +kernel
theorem dX12_proposalAt_26 : decode cX12_proposalAt 26 = .ok (.goto 8, 3) := by decide +kernel
theorem dX12_proposalAt_29 : decode cX12_proposalAt 29 = .ok (.aload_n 0, 1) := by decide +kernel
theorem dX12_proposalAt_30 : decode cX12_proposalAt 30 = .ok (.iconst 1, 1) := by decide +kernel
theorem dX12_proposalAt_31 : decode cX12_proposalAt 31 = .ok (.invokevirtual 82, 3) := by decide +kernel
theorem dX12_proposalAt_34 : decode cX12_proposalAt 34 = .ok (.ireturn, 1) := by decide +kernel
theorem dX12_position_0 : decode cX12_position 0 = .ok (.aload_n 0, 1) := by decide +kernel
theorem dX12_position_1 : decode cX12_position 1 = .ok (.iconst 0, 1) := by decide +kernel
theorem dX12_position_2 : decode cX12_position 2 = .ok (.putfield 48, 3) := by decide +kernel
theorem dX12_position_5 : decode cX12_position 5 = .ok (.aload_n 0, 1) := by decide +kernel
theorem dX12_position_6 : decode cX12_position 6 = .ok (.iload_n 1, 1) := by decide +kernel
theorem dX12_position_7 : decode cX12_position 7 = .ok (.invokevirtual 104, 3) := by decide +kernel
theorem dX12_position_10 : decode cX12_position 10 = .ok (.ifCond .ge 11, 3) := by decide +kernel
theorem dX12_position_13 : decode cX12_position 13 = .ok (.aload_n 0, 1) := by decide +kernel
theorem dX12_position_14 : decode cX12_position 14 = .ok (.iconst 1, 1) := by decide +kernel
theorem dX12_position_15 : decode cX12_position 15 = .ok (.invokevirtual 82, 3) := by decide +kernel
theorem dX12_position_18 : decode cX12_position 18 = .ok (.goto 12, 3) := by decide +kernel
theorem dX12_position_21 : decode cX12_position 21 = .ok (.aload_n 0, 1) := by decide +kernel
theorem dX12_position_22 : decode cX12_position 22 = .ok (.aload_n 0, 1) := by decide +kernel
theorem dX12_position_23 : decode cX12_position 23 = .ok (.iload_n 1, 1) := by decide +kernel
theorem dX12_position_24 : decode cX12_position 24 = .ok (.invokevirtual 104, 3) := by decide +kernel
theorem dX12_position_27 : decode cX12_position 27 = .ok (.invokevirtual 141, 3) := by decide +kernel
theorem dX12_position_30 : decode cX12_position 30 = .ok (.ireturn, 1) := by decide +kernel
theorem dX12_motionCount_0 : decode cX12_motionCount 0 = .ok (.aload_n 0, 1) := by decide +kernel
theorem dX12_motionCount_1 : decode cX12_motionCount 1 = .ok (.iconst 3, 1) := by decide +kernel
theorem dX12_motionCount_2 : decode cX12_motionCount 2 = .ok (.invokevirtual 231, 3) := by decide +kernel
theorem dX12_motionCount_5 : decode cX12_motionCount 5 = .ok (.ireturn, 1) := by decide +kernel
theorem dX12_signOf_0 : decode cX12_signOf 0 = .ok (.iload_n 0, 1) := by decide +kernel
theorem dX12_signOf_1 : decode cX12_signOf 1 = .ok (.tableswitch 43 0 3 #[31, 34, 37, 40], 31) := by decide +kernel
theorem dX12_signOf_32 : decode cX12_signOf 32 = .ok (.bipush 109, 2) := by decide +kernel
theorem dX12_signOf_34 : decode cX12_signOf 34 = .ok (.ireturn, 1) := by decide +kernel
theorem dX12_signOf_35 : decode cX12_signOf 35 = .ok (.bipush 97, 2) := by decide +kernel
theorem dX12_signOf_37 : decode cX12_signOf 37 = .ok (.ireturn, 1) := by decide +kernel
theorem dX12_signOf_38 : decode cX12_signOf 38 = .ok (.bipush 112, 2) := by decide +kernel
theorem dX12_signOf_40 : decode cX12_signOf 40 = .ok (.ireturn, 1) := by decide +kernel
theorem dX12_signOf_41 : decode cX12_signOf 41 = .ok (.bipush 99, 2) := by decide +kernel
theorem dX12_signOf_43 : decode cX12_signOf 43 = .ok (.ireturn, 1) := by decide +kernel
theorem dX12_signOf_44 : decode cX12_signOf 44 = .ok (.bipush 106, 2) := by decide +kernel
theorem dX12_signOf_46 : decode cX12_signOf 46 = .ok (.ireturn, 1) := by decide +kernel
theorem dX12_motionKind_0 : decode cX12_motionKind 0 = .ok (.aload_n 0, 1) := by decide +kernel
theorem dX12_motionKind_1 : decode cX12_motionKind 1 = .ok (.iconst 0, 1) := by decide +kernel
theorem dX12_motionKind_2 : decode cX12_motionKind 2 = .ok (.putfield 48, 3) := by decide +kernel
theorem dX12_motionKind_5 : decode cX12_motionKind 5 = .ok (.iload_n 1, 1) := by decide +kernel
theorem dX12_motionKind_6 : decode cX12_motionKind 6 = .ok (.iconst 0, 1) := by decide +kernel
theorem dX12_motionKind_7 : decode cX12_motionKind 7 = .ok (.aload_n 0, 1) := by decide +kernel
theorem dX12_motionKind_8 : decode cX12_motionKind 8 = .ok (.getfield 7, 3) := by decide +kernel
theorem dX12_motionKind_11 : decode cX12_motionKind 11 = .ok (.iconst 3, 1) := by decide +kernel
theorem dX12_motionKind_12 : decode cX12_motionKind 12 = .ok (.iaload, 1) := by decide +kernel
theorem dX12_motionKind_13 : decode cX12_motionKind 13 = .ok (.iconst 1, 1) := by decide +kernel
theorem dX12_motionKind_14 : decode cX12_motionKind 14 = .ok (.isub, 1) := by decide +kernel
theorem dX12_motionKind_15 : decode cX12_motionKind 15 = .ok (.invokestatic 63, 3) := by decide +kernel
theorem dX12_motionKind_18 : decode cX12_motionKind 18 = .ok (.ifCond .eq 17, 3) := by decide +kernel
theorem dX12_motionKind_21 : decode cX12_motionKind 21 = .ok (.aload_n 0, 1) := by decide +kernel
theorem dX12_motionKind_22 : decode cX12_motionKind 22 = .ok (.getfield 7, 3) := by decide +kernel
theorem dX12_motionKind_25 : decode cX12_motionKind 25 = .ok (.bipush 55, 2) := by decide +kernel
theorem dX12_motionKind_27 : decode cX12_motionKind 27 = .ok (.iload_n 1, 1) := by decide +kernel
theorem dX12_motionKind_28 : decode cX12_motionKind 28 = .ok (.iadd, 1) := by decide +kernel
theorem dX12_motionKind_29 : decode cX12_motionKind 29 = .ok (.iaload, 1) := by decide +kernel
theorem dX12_motionKind_30 : decode cX12_motionKind 30 = .ok (.invokestatic 240, 3) := by decide +kernel
theorem dX12_motionKind_33 : decode cX12_motionKind 33 = .ok (.i2c, 1) := by decide +kernel
theorem dX12_motionKind_34 : decode cX12_motionKind 34 = .ok (.ireturn, 1) := by decide +kernel
theorem dX12_motionKind_35 : decode cX12_motionKind 35 = .ok (.aload_n 0, 1) := by decide +kernel
theorem dX12_motionKind_36 : decode cX12_motionKind 36 = .ok (.iconst 1, 1) := by decide +kernel
theorem dX12_motionKind_37 : decode cX12_motionKind 37 = .ok (.invokevirtual 82, 3) := by decide +kernel
theorem dX12_motionKind_40 : decode cX12_motionKind 40 = .ok (.i2c, 1) := by decide +kernel
theorem dX12_motionKind_41 : decode cX12_motionKind 41 = .ok (.ireturn, 1) := by decide +kernel
theorem dX12_lies_0 : decode cX12_lies 0 = .ok (.iconst 0, 1) := by decide +kernel
theorem dX12_lies_1 : decode cX12_lies 1 = .ok (.istore_n 2, 1) := by decide +kernel
theorem dX12_lies_2 : decode cX12_lies 2 = .ok (.iload_n 2, 1) := by decide +kernel
theorem dX12_lies_3 : decode cX12_lies 3 = .ok (.aload_n 0, 1) := by decide +kernel
theorem dX12_lies_4 : decode cX12_lies 4 = .ok (.getfield 7, 3) := by decide +kernel
theorem dX12_lies_7 : decode cX12_lies 7 = .ok (.iconst 3, 1) := by decide +kernel
theorem dX12_lies_8 : decode cX12_lies 8 = .ok (.iaload, 1) := by decide +kernel
theorem dX12_lies_9 : decode cX12_lies 9 = .ok (.if_icmp .ge 24, 3) := by decide +kernel
theorem dX12_lies_12 : decode cX12_lies 12 = .ok (.aload_n 0, 1) := by decide +kernel
theorem dX12_lies_13 : decode cX12_lies 13 = .ok (.getfield 7, 3) := by decide +kernel
theorem dX12_lies_16 : decode cX12_lies 16 = .ok (.bipush 55, 2) := by decide +kernel
theorem dX12_lies_18 : decode cX12_lies 18 = .ok (.iload_n 2, 1) := by decide +kernel
theorem dX12_lies_19 : decode cX12_lies 19 = .ok (.iadd, 1) := by decide +kernel
theorem dX12_lies_20 : decode cX12_lies 20 = .ok (.iaload, 1) := by decide +kernel
theorem dX12_lies_21 : decode cX12_lies 21 = .ok (.iload_n 1, 1) := by decide +kernel
theorem dX12_lies_22 : decode cX12_lies 22 = .ok (.if_icmp .ne 5, 3) := by decide +kernel
theorem dX12_lies_25 : decode cX12_lies 25 = .ok (.iconst 1, 1) := by decide +kernel
theorem dX12_lies_26 : decode cX12_lies 26 = .ok (.ireturn, 1) := by decide +kernel
theorem dX12_lies_27 : decode cX12_lies 27 = .ok (.iinc 2 1, 3) := by decide +kernel
theorem dX12_lies_30 : decode cX12_lies 30 = .ok (.goto (-28), 3) := by decide +kernel
theorem dX12_lies_33 : decode cX12_lies 33 = .ok (.iconst 0, 1) := by decide +kernel
theorem dX12_lies_34 : decode cX12_lies 34 = .ok (.ireturn, 1) := by decide +kernel
theorem dX12_amendment_0 : decode cX12_amendment 0 = .ok (.aload_n 0, 1) := by decide +kernel
theorem dX12_amendment_1 : decode cX12_amendment 1 = .ok (.iconst 0, 1) := by decide +kernel
theorem dX12_amendment_2 : decode cX12_amendment 2 = .ok (.putfield 48, 3) := by decide +kernel
theorem dX12_amendment_5 : decode cX12_amendment 5 = .ok (.aload_n 0, 1) := by decide +kernel
theorem dX12_amendment_6 : decode cX12_amendment 6 = .ok (.iconst 1, 1) := by decide +kernel
theorem dX12_amendment_7 : decode cX12_amendment 7 = .ok (.invokevirtual 243, 3) := by decide +kernel
theorem dX12_amendment_10 : decode cX12_amendment 10 = .ok (.ifCond .eq 13, 3) := by decide +kernel
theorem dX12_amendment_13 : decode cX12_amendment 13 = .ok (.aload_n 0, 1) := by decide +kernel
theorem dX12_amendment_14 : decode cX12_amendment 14 = .ok (.getfield 7, 3) := by decide +kernel
theorem dX12_amendment_17 : decode cX12_amendment 17 = .ok (.bipush 61, 2) := by decide +kernel
theorem dX12_amendment_19 : decode cX12_amendment 19 = .ok (.iaload, 1) := by decide +kernel
theorem dX12_amendment_20 : decode cX12_amendment 20 = .ok (.goto 8, 3) := by decide +kernel
theorem dX12_amendment_23 : decode cX12_amendment 23 = .ok (.aload_n 0, 1) := by decide +kernel
theorem dX12_amendment_24 : decode cX12_amendment 24 = .ok (.iconst 1, 1) := by decide +kernel
theorem dX12_amendment_25 : decode cX12_amendment 25 = .ok (.invokevirtual 82, 3) := by decide +kernel
theorem dX12_amendment_28 : decode cX12_amendment 28 = .ok (.ireturn, 1) := by decide +kernel
theorem dX12_mainProposal_0 : decode cX12_mainProposal 0 = .ok (.aload_n 0, 1) := by decide +kernel
theorem dX12_mainProposal_1 : decode cX12_mainProposal 1 = .ok (.iconst 0, 1) := by decide +kernel
theorem dX12_mainProposal_2 : decode cX12_mainProposal 2 = .ok (.putfield 48, 3) := by decide +kernel
theorem dX12_mainProposal_5 : decode cX12_mainProposal 5 = .ok (.aload_n 0, 1) := by decide +kernel
theorem dX12_mainProposal_6 : decode cX12_mainProposal 6 = .ok (.iconst 0, 1) := by decide +kernel
theorem dX12_mainProposal_7 : decode cX12_mainProposal 7 = .ok (.invokevirtual 243, 3) := by decide +kernel
theorem dX12_mainProposal_10 : decode cX12_mainProposal 10 = .ok (.ifCond .eq 13, 3) := by decide +kernel
theorem dX12_mainProposal_13 : decode cX12_mainProposal 13 = .ok (.aload_n 0, 1) := by decide +kernel
theorem dX12_mainProposal_14 : decode cX12_mainProposal 14 = .ok (.getfield 7, 3) := by decide +kernel
theorem dX12_mainProposal_17 : decode cX12_mainProposal 17 = .ok (.bipush 60, 2) := by decide +kernel
theorem dX12_mainProposal_19 : decode cX12_mainProposal 19 = .ok (.iaload, 1) := by decide +kernel
theorem dX12_mainProposal_20 : decode cX12_mainProposal 20 = .ok (.goto 8, 3) := by decide +kernel
theorem dX12_mainProposal_23 : decode cX12_mainProposal 23 = .ok (.aload_n 0, 1) := by decide +kernel
theorem dX12_mainProposal_24 : decode cX12_mainProposal 24 = .ok (.iconst 1, 1) := by decide +kernel
theorem dX12_mainProposal_25 : decode cX12_mainProposal 25 = .ok (.invokevirtual 82, 3) := by decide +kernel
theorem dX12_mainProposal_28 : decode cX12_mainProposal 28 = .ok (.ireturn, 1) := by decide +kernel
theorem dX12_isClosed_0 : decode cX12_isClosed 0 = .ok (.aload_n 0, 1) := by decide +kernel
theorem dX12_isClosed_1 : decode cX12_isClosed 1 = .ok (.iconst 4, 1) := by decide +kernel
theorem dX12_isClosed_2 : decode cX12_isClosed 2 = .ok (.invokevirtual 231, 3) := by decide +kernel
theorem dX12_isClosed_5 : decode cX12_isClosed 5 = .ok (.iconst 1, 1) := by decide +kernel
theorem dX12_isClosed_6 : decode cX12_isClosed 6 = .ok (.if_icmp .ne 7, 3) := by decide +kernel
theorem dX12_isClosed_9 : decode cX12_isClosed 9 = .ok (.iconst 1, 1) := by decide +kernel
theorem dX12_isClosed_10 : decode cX12_isClosed 10 = .ok (.goto 4, 3) := by decide +kernel
theorem dX12_isClosed_13 : decode cX12_isClosed 13 = .ok (.iconst 0, 1) := by decide +kernel
theorem dX12_isClosed_14 : decode cX12_isClosed 14 = .ok (.ireturn, 1) := by decide +kernel
theorem dX12_canMove_0 : decode cX12_canMove 0 = .ok (.aload_n 0, 1) := by decide +kernel
theorem dX12_canMove_1 : decode cX12_canMove 1 = .ok (.iconst 0, 1) := by decide +kernel
theorem dX12_canMove_2 : decode cX12_canMove 2 = .ok (.putfield 48, 3) := by decide +kernel
theorem dX12_canMove_5 : decode cX12_canMove 5 = .ok (.iconst 0, 1) := by decide +kernel
theorem dX12_canMove_6 : decode cX12_canMove 6 = .ok (.istore_n 2, 1) := by decide +kernel
theorem dX12_canMove_7 : decode cX12_canMove 7 = .ok (.iload_n 2, 1) := by decide +kernel
theorem dX12_canMove_8 : decode cX12_canMove 8 = .ok (.iconst 4, 1) := by decide +kernel
theorem dX12_canMove_9 : decode cX12_canMove 9 = .ok (.if_icmp .gt 44, 3) := by decide +kernel
theorem dX12_canMove_12 : decode cX12_canMove 12 = .ok (.iload_n 2, 1) := by decide +kernel
theorem dX12_canMove_13 : decode cX12_canMove 13 = .ok (.invokestatic 240, 3) := by decide +kernel
theorem dX12_canMove_16 : decode cX12_canMove 16 = .ok (.iload_n 1, 1) := by decide +kernel
theorem dX12_canMove_17 : decode cX12_canMove 17 = .ok (.if_icmp .ne 30, 3) := by decide +kernel
theorem dX12_canMove_20 : decode cX12_canMove 20 = .ok (.aload_n 0, 1) := by decide +kernel
theorem dX12_canMove_21 : decode cX12_canMove 21 = .ok (.iload_n 2, 1) := by decide +kernel
theorem dX12_canMove_22 : decode cX12_canMove 22 = .ok (.invokevirtual 107, 3) := by decide +kernel
theorem dX12_canMove_25 : decode cX12_canMove 25 = .ok (.ifCond .eq 20, 3) := by decide +kernel
theorem dX12_canMove_28 : decode cX12_canMove 28 = .ok (.iload_n 2, 1) := by decide +kernel
theorem dX12_canMove_29 : decode cX12_canMove 29 = .ok (.ifCond .ne 12, 3) := by decide +kernel
theorem dX12_canMove_32 : decode cX12_canMove 32 = .ok (.aload_n 0, 1) := by decide +kernel
theorem dX12_canMove_33 : decode cX12_canMove 33 = .ok (.getfield 7, 3) := by decide +kernel
theorem dX12_canMove_36 : decode cX12_canMove 36 = .ok (.iconst 1, 1) := by decide +kernel
theorem dX12_canMove_37 : decode cX12_canMove 37 = .ok (.iaload, 1) := by decide +kernel
theorem dX12_canMove_38 : decode cX12_canMove 38 = .ok (.ifCond .le 7, 3) := by decide +kernel
theorem dX12_canMove_41 : decode cX12_canMove 41 = .ok (.iconst 1, 1) := by decide +kernel
theorem dX12_canMove_42 : decode cX12_canMove 42 = .ok (.goto 4, 3) := by decide +kernel
theorem dX12_canMove_45 : decode cX12_canMove 45 = .ok (.iconst 0, 1) := by decide +kernel
theorem dX12_canMove_46 : decode cX12_canMove 46 = .ok (.ireturn, 1) := by decide +kernel
theorem dX12_canMove_47 : decode cX12_canMove 47 = .ok (.iinc 2 1, 3) := by decide +kernel
theorem dX12_canMove_50 : decode cX12_canMove 50 = .ok (.goto (-43), 3) := by decide +kernel
theorem dX12_canMove_53 : decode cX12_canMove 53 = .ok (.aload_n 0, 1) := by decide +kernel
theorem dX12_canMove_54 : decode cX12_canMove 54 = .ok (.iconst 1, 1) := by decide +kernel
theorem dX12_canMove_55 : decode cX12_canMove 55 = .ok (.invokevirtual 82, 3) := by decide +kernel
theorem dX12_canMove_58 : decode cX12_canMove 58 = .ok (.ifCond .le 7, 3) := by decide +kernel
theorem dX12_canMove_61 : decode cX12_canMove 61 = .ok (.iconst 1, 1) := by decide +kernel
theorem dX12_canMove_62 : decode cX12_canMove 62 = .ok (.goto 4, 3) := by decide +kernel
theorem dX12_canMove_65 : decode cX12_canMove 65 = .ok (.iconst 0, 1) := by decide +kernel
theorem dX12_canMove_66 : decode cX12_canMove 66 = .ok (.ireturn, 1) := by decide +kernel
theorem dX12_yesVotes_0 : decode cX12_yesVotes 0 = .ok (.aload_n 0, 1) := by decide +kernel
theorem dX12_yesVotes_1 : decode cX12_yesVotes 1 = .ok (.iconst 0, 1) := by decide +kernel
theorem dX12_yesVotes_2 : decode cX12_yesVotes 2 = .ok (.putfield 48, 3) := by decide +kernel
theorem dX12_yesVotes_5 : decode cX12_yesVotes 5 = .ok (.aload_n 0, 1) := by decide +kernel
theorem dX12_yesVotes_6 : decode cX12_yesVotes 6 = .ok (.getfield 7, 3) := by decide +kernel
theorem dX12_yesVotes_9 : decode cX12_yesVotes 9 = .ok (.iconst 3, 1) := by decide +kernel
theorem dX12_yesVotes_10 : decode cX12_yesVotes 10 = .ok (.iaload, 1) := by decide +kernel
theorem dX12_yesVotes_11 : decode cX12_yesVotes 11 = .ok (.ifCond .ne 11, 3) := by decide +kernel
theorem dX12_yesVotes_14 : decode cX12_yesVotes 14 = .ok (.aload_n 0, 1) := by decide +kernel
theorem dX12_yesVotes_15 : decode cX12_yesVotes 15 = .ok (.iconst 1, 1) := by decide +kernel
theorem dX12_yesVotes_16 : decode cX12_yesVotes 16 = .ok (.invokevirtual 82, 3) := by decide +kernel
theorem dX12_yesVotes_19 : decode cX12_yesVotes 19 = .ok (.goto 7, 3) := by decide +kernel
theorem dX12_yesVotes_22 : decode cX12_yesVotes 22 = .ok (.aload_n 0, 1) := by decide +kernel
theorem dX12_yesVotes_23 : decode cX12_yesVotes 23 = .ok (.invokevirtual 159, 3) := by decide +kernel
theorem dX12_yesVotes_26 : decode cX12_yesVotes 26 = .ok (.ireturn, 1) := by decide +kernel
theorem dX12_wouldPass_0 : decode cX12_wouldPass 0 = .ok (.aload_n 0, 1) := by decide +kernel
theorem dX12_wouldPass_1 : decode cX12_wouldPass 1 = .ok (.iconst 0, 1) := by decide +kernel
theorem dX12_wouldPass_2 : decode cX12_wouldPass 2 = .ok (.putfield 48, 3) := by decide +kernel
theorem dX12_wouldPass_5 : decode cX12_wouldPass 5 = .ok (.aload_n 0, 1) := by decide +kernel
theorem dX12_wouldPass_6 : decode cX12_wouldPass 6 = .ok (.getfield 7, 3) := by decide +kernel
theorem dX12_wouldPass_9 : decode cX12_wouldPass 9 = .ok (.iconst 3, 1) := by decide +kernel
theorem dX12_wouldPass_10 : decode cX12_wouldPass 10 = .ok (.iaload, 1) := by decide +kernel
theorem dX12_wouldPass_11 : decode cX12_wouldPass 11 = .ok (.ifCond .ne 17, 3) := by decide +kernel
theorem dX12_wouldPass_14 : decode cX12_wouldPass 14 = .ok (.aload_n 0, 1) := by decide +kernel
theorem dX12_wouldPass_15 : decode cX12_wouldPass 15 = .ok (.iconst 1, 1) := by decide +kernel
theorem dX12_wouldPass_16 : decode cX12_wouldPass 16 = .ok (.invokevirtual 82, 3) := by decide +kernel
theorem dX12_wouldPass_19 : decode cX12_wouldPass 19 = .ok (.ifCond .le 7, 3) := by decide +kernel
theorem dX12_wouldPass_22 : decode cX12_wouldPass 22 = .ok (.iconst 1, 1) := by decide +kernel
theorem dX12_wouldPass_23 : decode cX12_wouldPass 23 = .ok (.goto 4, 3) := by decide +kernel
theorem dX12_wouldPass_26 : decode cX12_wouldPass 26 = .ok (.iconst 0, 1) := by decide +kernel
theorem dX12_wouldPass_27 : decode cX12_wouldPass 27 = .ok (.ireturn, 1) := by decide +kernel
theorem dX12_wouldPass_28 : decode cX12_wouldPass 28 = .ok (.aload_n 0, 1) := by decide +kernel
theorem dX12_wouldPass_29 : decode cX12_wouldPass 29 = .ok (.invokevirtual 169, 3) := by decide +kernel
theorem dX12_wouldPass_32 : decode cX12_wouldPass 32 = .ok (.ireturn, 1) := by decide +kernel
theorem dX12_votesYes_0 : decode cX12_votesYes 0 = .ok (.aload_n 0, 1) := by decide +kernel
theorem dX12_votesYes_1 : decode cX12_votesYes 1 = .ok (.iconst 0, 1) := by decide +kernel
theorem dX12_votesYes_2 : decode cX12_votesYes 2 = .ok (.putfield 48, 3) := by decide +kernel
theorem dX12_votesYes_5 : decode cX12_votesYes 5 = .ok (.aload_n 0, 1) := by decide +kernel
theorem dX12_votesYes_6 : decode cX12_votesYes 6 = .ok (.iload_n 1, 1) := by decide +kernel
theorem dX12_votesYes_7 : decode cX12_votesYes 7 = .ok (.invokevirtual 132, 3) := by decide +kernel
theorem dX12_votesYes_10 : decode cX12_votesYes 10 = .ok (.ifCond .ne 17, 3) := by decide +kernel
theorem dX12_votesYes_13 : decode cX12_votesYes 13 = .ok (.aload_n 0, 1) := by decide +kernel
theorem dX12_votesYes_14 : decode cX12_votesYes 14 = .ok (.iconst 1, 1) := by decide +kernel
theorem dX12_votesYes_15 : decode cX12_votesYes 15 = .ok (.invokevirtual 82, 3) := by decide +kernel
theorem dX12_votesYes_18 : decode cX12_votesYes 18 = .ok (.ifCond .le 7, 3) := by decide +kernel
theorem dX12_votesYes_21 : decode cX12_votesYes 21 = .ok (.iconst 1, 1) := by decide +kernel
theorem dX12_votesYes_22 : decode cX12_votesYes 22 = .ok (.goto 4, 3) := by decide +kernel
theorem dX12_votesYes_25 : decode cX12_votesYes 25 = .ok (.iconst 0, 1) := by decide +kernel
theorem dX12_votesYes_26 : decode cX12_votesYes 26 = .ok (.ireturn, 1) := by decide +kernel
theorem dX12_votesYes_27 : decode cX12_votesYes 27 = .ok (.aload_n 0, 1) := by decide +kernel
theorem dX12_votesYes_28 : decode cX12_votesYes 28 = .ok (.getfield 7, 3) := by decide +kernel
theorem dX12_votesYes_31 : decode cX12_votesYes 31 = .ok (.iconst 3, 1) := by decide +kernel
theorem dX12_votesYes_32 : decode cX12_votesYes 32 = .ok (.iaload, 1) := by decide +kernel
theorem dX12_votesYes_33 : decode cX12_votesYes 33 = .ok (.ifCond .ne 17, 3) := by decide +kernel
theorem dX12_votesYes_36 : decode cX12_votesYes 36 = .ok (.aload_n 0, 1) := by decide +kernel
theorem dX12_votesYes_37 : decode cX12_votesYes 37 = .ok (.iconst 2, 1) := by decide +kernel
theorem dX12_votesYes_38 : decode cX12_votesYes 38 = .ok (.invokevirtual 82, 3) := by decide +kernel
theorem dX12_votesYes_41 : decode cX12_votesYes 41 = .ok (.ifCond .le 7, 3) := by decide +kernel
theorem dX12_votesYes_44 : decode cX12_votesYes 44 = .ok (.iconst 1, 1) := by decide +kernel
theorem dX12_votesYes_45 : decode cX12_votesYes 45 = .ok (.goto 4, 3) := by decide +kernel
theorem dX12_votesYes_48 : decode cX12_votesYes 48 = .ok (.iconst 0, 1) := by decide +kernel
theorem dX12_votesYes_49 : decode cX12_votesYes 49 = .ok (.ireturn, 1) := by decide +kernel
theorem dX12_votesYes_50 : decode cX12_votesYes 50 = .ok (.aload_n 0, 1) := by decide +kernel
theorem dX12_votesYes_51 : decode cX12_votesYes 51 = .ok (.iload_n 1, 1) := by decide +kernel
theorem dX12_votesYes_52 : decode cX12_votesYes 52 = .ok (.invokevirtual 156, 3) := by decide +kernel
theorem dX12_votesYes_55 : decode cX12_votesYes 55 = .ok (.ireturn, 1) := by decide +kernel
theorem dX12_supports_0 : decode cX12_supports 0 = .ok (.iconst 0, 1) := by decide +kernel
theorem dX12_supports_1 : decode cX12_supports 1 = .ok (.istore_n 3, 1) := by decide +kernel
theorem dX12_supports_2 : decode cX12_supports 2 = .ok (.iconst 0, 1) := by decide +kernel
theorem dX12_supports_3 : decode cX12_supports 3 = .ok (.istore 4, 2) := by decide +kernel
theorem dX12_supports_5 : decode cX12_supports 5 = .ok (.iload 4, 2) := by decide +kernel
theorem dX12_supports_7 : decode cX12_supports 7 = .ok (.aload_n 0, 1) := by decide +kernel
theorem dX12_supports_8 : decode cX12_supports 8 = .ok (.getfield 7, 3) := by decide +kernel
theorem dX12_supports_11 : decode cX12_supports 11 = .ok (.iconst 0, 1) := by decide +kernel
theorem dX12_supports_12 : decode cX12_supports 12 = .ok (.iaload, 1) := by decide +kernel
theorem dX12_supports_13 : decode cX12_supports 13 = .ok (.if_icmp .ge 60, 3) := by decide +kernel
theorem dX12_supports_16 : decode cX12_supports 16 = .ok (.aload_n 0, 1) := by decide +kernel
theorem dX12_supports_17 : decode cX12_supports 17 = .ok (.iload_n 1, 1) := by decide +kernel
theorem dX12_supports_18 : decode cX12_supports 18 = .ok (.invokevirtual 141, 3) := by decide +kernel
theorem dX12_supports_21 : decode cX12_supports 21 = .ok (.aload_n 0, 1) := by decide +kernel
theorem dX12_supports_22 : decode cX12_supports 22 = .ok (.iload 4, 2) := by decide +kernel
theorem dX12_supports_24 : decode cX12_supports 24 = .ok (.iconst 1, 1) := by decide +kernel
theorem dX12_supports_25 : decode cX12_supports 25 = .ok (.invokevirtual 71, 3) := by decide +kernel
theorem dX12_supports_28 : decode cX12_supports 28 = .ok (.invokestatic 147, 3) := by decide +kernel
theorem dX12_supports_31 : decode cX12_supports 31 = .ok (.istore 5, 2) := by decide +kernel
theorem dX12_supports_33 : decode cX12_supports 33 = .ok (.iload_n 3, 1) := by decide +kernel
theorem dX12_supports_34 : decode cX12_supports 34 = .ok (.iload 5, 2) := by decide +kernel
theorem dX12_supports_36 : decode cX12_supports 36 = .ok (.aload_n 0, 1) := by decide +kernel
theorem dX12_supports_37 : decode cX12_supports 37 = .ok (.iload_n 2, 1) := by decide +kernel
theorem dX12_supports_38 : decode cX12_supports 38 = .ok (.invokevirtual 141, 3) := by decide +kernel
theorem dX12_supports_41 : decode cX12_supports 41 = .ok (.aload_n 0, 1) := by decide +kernel
theorem dX12_supports_42 : decode cX12_supports 42 = .ok (.iload 4, 2) := by decide +kernel
theorem dX12_supports_44 : decode cX12_supports 44 = .ok (.iconst 1, 1) := by decide +kernel
theorem dX12_supports_45 : decode cX12_supports 45 = .ok (.invokevirtual 71, 3) := by decide +kernel
theorem dX12_supports_48 : decode cX12_supports 48 = .ok (.invokestatic 147, 3) := by decide +kernel
theorem dX12_supports_51 : decode cX12_supports 51 = .ok (.if_icmp .ge 13, 3) := by decide +kernel
theorem dX12_supports_54 : decode cX12_supports 54 = .ok (.aload_n 0, 1) := by decide +kernel
theorem dX12_supports_55 : decode cX12_supports 55 = .ok (.iload 4, 2) := by decide +kernel
theorem dX12_supports_57 : decode cX12_supports 57 = .ok (.iconst 0, 1) := by decide +kernel
theorem dX12_supports_58 : decode cX12_supports 58 = .ok (.invokevirtual 71, 3) := by decide +kernel
theorem dX12_supports_61 : decode cX12_supports 61 = .ok (.goto 4, 3) := by decide +kernel
theorem dX12_supports_64 : decode cX12_supports 64 = .ok (.iconst 0, 1) := by decide +kernel
theorem dX12_supports_65 : decode cX12_supports 65 = .ok (.iadd, 1) := by decide +kernel
theorem dX12_supports_66 : decode cX12_supports 66 = .ok (.istore_n 3, 1) := by decide +kernel
theorem dX12_supports_67 : decode cX12_supports 67 = .ok (.iinc 4 1, 3) := by decide +kernel
theorem dX12_supports_70 : decode cX12_supports 70 = .ok (.goto (-65), 3) := by decide +kernel
theorem dX12_supports_73 : decode cX12_supports 73 = .ok (.iload_n 3, 1) := by decide +kernel
theorem dX12_supports_74 : decode cX12_supports 74 = .ok (.ireturn, 1) := by decide +kernel
theorem dX12_support_0 : decode cX12_support 0 = .ok (.aload_n 0, 1) := by decide +kernel
theorem dX12_support_1 : decode cX12_support 1 = .ok (.iconst 0, 1) := by decide +kernel
theorem dX12_support_2 : decode cX12_support 2 = .ok (.putfield 48, 3) := by decide +kernel
theorem dX12_support_5 : decode cX12_support 5 = .ok (.aload_n 0, 1) := by decide +kernel
theorem dX12_support_6 : decode cX12_support 6 = .ok (.iload_n 1, 1) := by decide +kernel
theorem dX12_support_7 : decode cX12_support 7 = .ok (.invokevirtual 104, 3) := by decide +kernel
theorem dX12_support_10 : decode cX12_support 10 = .ok (.ifCond .lt 11, 3) := by decide +kernel
theorem dX12_support_13 : decode cX12_support 13 = .ok (.aload_n 0, 1) := by decide +kernel
theorem dX12_support_14 : decode cX12_support 14 = .ok (.iload_n 2, 1) := by decide +kernel
theorem dX12_support_15 : decode cX12_support 15 = .ok (.invokevirtual 104, 3) := by decide +kernel
theorem dX12_support_18 : decode cX12_support 18 = .ok (.ifCond .ge 9, 3) := by decide +kernel
theorem dX12_support_21 : decode cX12_support 21 = .ok (.aload_n 0, 1) := by decide +kernel
theorem dX12_support_22 : decode cX12_support 22 = .ok (.iconst 1, 1) := by decide +kernel
theorem dX12_support_23 : decode cX12_support 23 = .ok (.invokevirtual 82, 3) := by decide +kernel
theorem dX12_support_26 : decode cX12_support 26 = .ok (.ireturn, 1) := by decide +kernel
theorem dX12_support_27 : decode cX12_support 27 = .ok (.aload_n 0, 1) := by decide +kernel
theorem dX12_support_28 : decode cX12_support 28 = .ok (.aload_n 0, 1) := by decide +kernel
theorem dX12_support_29 : decode cX12_support 29 = .ok (.iload_n 1, 1) := by decide +kernel
theorem dX12_support_30 : decode cX12_support 30 = .ok (.invokevirtual 104, 3) := by decide +kernel
theorem dX12_support_33 : decode cX12_support 33 = .ok (.aload_n 0, 1) := by decide +kernel
theorem dX12_support_34 : decode cX12_support 34 = .ok (.iload_n 2, 1) := by decide +kernel
theorem dX12_support_35 : decode cX12_support 35 = .ok (.invokevirtual 104, 3) := by decide +kernel
theorem dX12_support_38 : decode cX12_support 38 = .ok (.invokevirtual 246, 3) := by decide +kernel
theorem dX12_support_41 : decode cX12_support 41 = .ok (.ireturn, 1) := by decide +kernel
theorem dX12_costFirst_0 : decode cX12_costFirst 0 = .ok (.iconst 0, 1) := by decide +kernel
theorem dX12_costFirst_1 : decode cX12_costFirst 1 = .ok (.istore_n 3, 1) := by decide +kernel
theorem dX12_costFirst_2 : decode cX12_costFirst 2 = .ok (.iconst 0, 1) := by decide +kernel
theorem dX12_costFirst_3 : decode cX12_costFirst 3 = .ok (.istore 4, 2) := by decide +kernel
theorem dX12_costFirst_5 : decode cX12_costFirst 5 = .ok (.iload 4, 2) := by decide +kernel
theorem dX12_costFirst_7 : decode cX12_costFirst 7 = .ok (.aload_n 0, 1) := by decide +kernel
theorem dX12_costFirst_8 : decode cX12_costFirst 8 = .ok (.getfield 7, 3) := by decide +kernel
theorem dX12_costFirst_11 : decode cX12_costFirst 11 = .ok (.iconst 1, 1) := by decide +kernel
theorem dX12_costFirst_12 : decode cX12_costFirst 12 = .ok (.iaload, 1) := by decide +kernel
theorem dX12_costFirst_13 : decode cX12_costFirst 13 = .ok (.if_icmp .ge 39, 3) := by decide +kernel
theorem dX12_costFirst_16 : decode cX12_costFirst 16 = .ok (.iload_n 3, 1) := by decide +kernel
theorem dX12_costFirst_17 : decode cX12_costFirst 17 = .ok (.iload 4, 2) := by decide +kernel
theorem dX12_costFirst_19 : decode cX12_costFirst 19 = .ok (.iload_n 1, 1) := by decide +kernel
theorem dX12_costFirst_20 : decode cX12_costFirst 20 = .ok (.if_icmp .eq 23, 3) := by decide +kernel
theorem dX12_costFirst_23 : decode cX12_costFirst 23 = .ok (.iload_n 2, 1) := by decide +kernel
theorem dX12_costFirst_24 : decode cX12_costFirst 24 = .ok (.iload 4, 2) := by decide +kernel
theorem dX12_costFirst_26 : decode cX12_costFirst 26 = .ok (.ishr, 1) := by decide +kernel
theorem dX12_costFirst_27 : decode cX12_costFirst 27 = .ok (.iconst 1, 1) := by decide +kernel
theorem dX12_costFirst_28 : decode cX12_costFirst 28 = .ok (.iand, 1) := by decide +kernel
theorem dX12_costFirst_29 : decode cX12_costFirst 29 = .ok (.iconst 1, 1) := by decide +kernel
theorem dX12_costFirst_30 : decode cX12_costFirst 30 = .ok (.if_icmp .ne 13, 3) := by decide +kernel
theorem dX12_costFirst_33 : decode cX12_costFirst 33 = .ok (.aload_n 0, 1) := by decide +kernel
theorem dX12_costFirst_34 : decode cX12_costFirst 34 = .ok (.iload 4, 2) := by decide +kernel
theorem dX12_costFirst_36 : decode cX12_costFirst 36 = .ok (.iload_n 1, 1) := by decide +kernel
theorem dX12_costFirst_37 : decode cX12_costFirst 37 = .ok (.invokevirtual 246, 3) := by decide +kernel
theorem dX12_costFirst_40 : decode cX12_costFirst 40 = .ok (.goto 4, 3) := by decide +kernel
theorem dX12_costFirst_43 : decode cX12_costFirst 43 = .ok (.iconst 0, 1) := by decide +kernel
theorem dX12_costFirst_44 : decode cX12_costFirst 44 = .ok (.iadd, 1) := by decide +kernel
theorem dX12_costFirst_45 : decode cX12_costFirst 45 = .ok (.istore_n 3, 1) := by decide +kernel
theorem dX12_costFirst_46 : decode cX12_costFirst 46 = .ok (.iinc 4 1, 3) := by decide +kernel
theorem dX12_costFirst_49 : decode cX12_costFirst 49 = .ok (.goto (-44), 3) := by decide +kernel
theorem dX12_costFirst_52 : decode cX12_costFirst 52 = .ok (.iload_n 3, 1) := by decide +kernel
theorem dX12_costFirst_53 : decode cX12_costFirst 53 = .ok (.ireturn, 1) := by decide +kernel
theorem dX12_ranks_0 : decode cX12_ranks 0 = .ok (.aload_n 0, 1) := by decide +kernel
theorem dX12_ranks_1 : decode cX12_ranks 1 = .ok (.getfield 25, 3) := by decide +kernel
theorem dX12_ranks_4 : decode cX12_ranks 4 = .ok (.iconst 0, 1) := by decide +kernel
theorem dX12_ranks_5 : decode cX12_ranks 5 = .ok (.iconst 0, 1) := by decide +kernel
theorem dX12_ranks_6 : decode cX12_ranks 6 = .ok (.iastore, 1) := by decide +kernel
theorem dX12_ranks_7 : decode cX12_ranks 7 = .ok (.iconst 1, 1) := by decide +kernel
theorem dX12_ranks_8 : decode cX12_ranks 8 = .ok (.istore_n 1, 1) := by decide +kernel
theorem dX12_ranks_9 : decode cX12_ranks 9 = .ok (.iload_n 1, 1) := by decide +kernel
theorem dX12_ranks_10 : decode cX12_ranks 10 = .ok (.iconst 1, 1) := by decide +kernel
theorem dX12_ranks_11 : decode cX12_ranks 11 = .ok (.aload_n 0, 1) := by decide +kernel
theorem dX12_ranks_12 : decode cX12_ranks 12 = .ok (.getfield 7, 3) := by decide +kernel
theorem dX12_ranks_15 : decode cX12_ranks 15 = .ok (.iconst 1, 1) := by decide +kernel
theorem dX12_ranks_16 : decode cX12_ranks 16 = .ok (.iaload, 1) := by decide +kernel
theorem dX12_ranks_17 : decode cX12_ranks 17 = .ok (.ishl, 1) := by decide +kernel
theorem dX12_ranks_18 : decode cX12_ranks 18 = .ok (.if_icmp .ge 141, 3) := by decide +kernel
theorem dX12_ranks_21 : decode cX12_ranks 21 = .ok (.aload_n 0, 1) := by decide +kernel
theorem dX12_ranks_22 : decode cX12_ranks 22 = .ok (.getfield 25, 3) := by decide +kernel
theorem dX12_ranks_25 : decode cX12_ranks 25 = .ok (.iload_n 1, 1) := by decide +kernel
theorem dX12_ranks_26 : decode cX12_ranks 26 = .ok (.iconst (-1), 1) := by decide +kernel
theorem dX12_ranks_27 : decode cX12_ranks 27 = .ok (.iastore, 1) := by decide +kernel
theorem dX12_ranks_28 : decode cX12_ranks 28 = .ok (.iconst 0, 1) := by decide +kernel
theorem dX12_ranks_29 : decode cX12_ranks 29 = .ok (.istore_n 2, 1) := by decide +kernel
theorem dX12_ranks_30 : decode cX12_ranks 30 = .ok (.iload_n 2, 1) := by decide +kernel
theorem dX12_ranks_31 : decode cX12_ranks 31 = .ok (.aload_n 0, 1) := by decide +kernel
theorem dX12_ranks_32 : decode cX12_ranks 32 = .ok (.getfield 7, 3) := by decide +kernel
theorem dX12_ranks_35 : decode cX12_ranks 35 = .ok (.iconst 1, 1) := by decide +kernel
theorem dX12_ranks_36 : decode cX12_ranks 36 = .ok (.iaload, 1) := by decide +kernel
theorem dX12_ranks_37 : decode cX12_ranks 37 = .ok (.if_icmp .ge 116, 3) := by decide +kernel
theorem dX12_ranks_40 : decode cX12_ranks 40 = .ok (.iload_n 1, 1) := by decide +kernel
theorem dX12_ranks_41 : decode cX12_ranks 41 = .ok (.iload_n 2, 1) := by decide +kernel
theorem dX12_ranks_42 : decode cX12_ranks 42 = .ok (.ishr, 1) := by decide +kernel
theorem dX12_ranks_43 : decode cX12_ranks 43 = .ok (.iconst 1, 1) := by decide +kernel
theorem dX12_ranks_44 : decode cX12_ranks 44 = .ok (.iand, 1) := by decide +kernel
theorem dX12_ranks_45 : decode cX12_ranks 45 = .ok (.ifCond .ne 6, 3) := by decide +kernel
theorem dX12_ranks_48 : decode cX12_ranks 48 = .ok (.goto 99, 3) := by decide +kernel
theorem dX12_ranks_51 : decode cX12_ranks 51 = .ok (.aload_n 0, 1) := by decide +kernel
theorem dX12_ranks_52 : decode cX12_ranks 52 = .ok (.iload_n 2, 1) := by decide +kernel
theorem dX12_ranks_53 : decode cX12_ranks 53 = .ok (.iload_n 1, 1) := by decide +kernel
theorem dX12_ranks_54 : decode cX12_ranks 54 = .ok (.invokevirtual 249, 3) := by decide +kernel
theorem dX12_ranks_57 : decode cX12_ranks 57 = .ok (.aload_n 0, 1) := by decide +kernel
theorem dX12_ranks_58 : decode cX12_ranks 58 = .ok (.getfield 25, 3) := by decide +kernel
theorem dX12_ranks_61 : decode cX12_ranks 61 = .ok (.iload_n 1, 1) := by decide +kernel
theorem dX12_ranks_62 : decode cX12_ranks 62 = .ok (.iconst 1, 1) := by decide +kernel
theorem dX12_ranks_63 : decode cX12_ranks 63 = .ok (.iload_n 2, 1) := by decide +kernel
theorem dX12_ranks_64 : decode cX12_ranks 64 = .ok (.ishl, 1) := by decide +kernel
theorem dX12_ranks_65 : decode cX12_ranks 65 = .ok (.isub, 1) := by decide +kernel
theorem dX12_ranks_66 : decode cX12_ranks 66 = .ok (.iaload, 1) := by decide +kernel
theorem dX12_ranks_67 : decode cX12_ranks 67 = .ok (.iadd, 1) := by decide +kernel
theorem dX12_ranks_68 : decode cX12_ranks 68 = .ok (.istore_n 3, 1) := by decide +kernel
theorem dX12_ranks_69 : decode cX12_ranks 69 = .ok (.aload_n 0, 1) := by decide +kernel
theorem dX12_ranks_70 : decode cX12_ranks 70 = .ok (.getfield 25, 3) := by decide +kernel
theorem dX12_ranks_73 : decode cX12_ranks 73 = .ok (.iload_n 1, 1) := by decide +kernel
theorem dX12_ranks_74 : decode cX12_ranks 74 = .ok (.iaload, 1) := by decide +kernel
theorem dX12_ranks_75 : decode cX12_ranks 75 = .ok (.ifCond .lt 41, 3) := by decide +kernel
theorem dX12_ranks_78 : decode cX12_ranks 78 = .ok (.iload_n 3, 1) := by decide +kernel
theorem dX12_ranks_79 : decode cX12_ranks 79 = .ok (.aload_n 0, 1) := by decide +kernel
theorem dX12_ranks_80 : decode cX12_ranks 80 = .ok (.getfield 25, 3) := by decide +kernel
theorem dX12_ranks_83 : decode cX12_ranks 83 = .ok (.iload_n 1, 1) := by decide +kernel
theorem dX12_ranks_84 : decode cX12_ranks 84 = .ok (.iaload, 1) := by decide +kernel
theorem dX12_ranks_85 : decode cX12_ranks 85 = .ok (.if_icmp .lt 31, 3) := by decide +kernel
theorem dX12_ranks_88 : decode cX12_ranks 88 = .ok (.iload_n 3, 1) := by decide +kernel
theorem dX12_ranks_89 : decode cX12_ranks 89 = .ok (.aload_n 0, 1) := by decide +kernel
theorem dX12_ranks_90 : decode cX12_ranks 90 = .ok (.getfield 25, 3) := by decide +kernel
theorem dX12_ranks_93 : decode cX12_ranks 93 = .ok (.iload_n 1, 1) := by decide +kernel
theorem dX12_ranks_94 : decode cX12_ranks 94 = .ok (.iaload, 1) := by decide +kernel
theorem dX12_ranks_95 : decode cX12_ranks 95 = .ok (.if_icmp .ne 25, 3) := by decide +kernel
theorem dX12_ranks_98 : decode cX12_ranks 98 = .ok (.aload_n 0, 1) := by decide +kernel
theorem dX12_ranks_99 : decode cX12_ranks 99 = .ok (.iload_n 2, 1) := by decide +kernel
theorem dX12_ranks_100 : decode cX12_ranks 100 = .ok (.invokevirtual 67, 3) := by decide +kernel
theorem dX12_ranks_103 : decode cX12_ranks 103 = .ok (.aload_n 0, 1) := by decide +kernel
theorem dX12_ranks_104 : decode cX12_ranks 104 = .ok (.aload_n 0, 1) := by decide +kernel
theorem dX12_ranks_105 : decode cX12_ranks 105 = .ok (.getfield 28, 3) := by decide +kernel
theorem dX12_ranks_108 : decode cX12_ranks 108 = .ok (.iload_n 1, 1) := by decide +kernel
theorem dX12_ranks_109 : decode cX12_ranks 109 = .ok (.iaload, 1) := by decide +kernel
theorem dX12_ranks_110 : decode cX12_ranks 110 = .ok (.invokevirtual 67, 3) := by decide +kernel
theorem dX12_ranks_113 : decode cX12_ranks 113 = .ok (.if_icmp .ge 7, 3) := by decide +kernel
theorem dX12_ranks_116 : decode cX12_ranks 116 = .ok (.iconst 1, 1) := by decide +kernel
theorem dX12_ranks_117 : decode cX12_ranks 117 = .ok (.goto 4, 3) := by decide +kernel
theorem dX12_ranks_120 : decode cX12_ranks 120 = .ok (.iconst 0, 1) := by decide +kernel
theorem dX12_ranks_121 : decode cX12_ranks 121 = .ok (.istore 4, 2) := by decide +kernel
theorem dX12_ranks_123 : decode cX12_ranks 123 = .ok (.iload 4, 2) := by decide +kernel
theorem dX12_ranks_125 : decode cX12_ranks 125 = .ok (.ifCond .eq 10, 3) := by decide +kernel
theorem dX12_ranks_128 : decode cX12_ranks 128 = .ok (.aload_n 0, 1) := by decide +kernel
theorem dX12_ranks_129 : decode cX12_ranks 129 = .ok (.getfield 28, 3) := by decide +kernel
theorem dX12_ranks_132 : decode cX12_ranks 132 = .ok (.iload_n 1, 1) := by decide +kernel
theorem dX12_ranks_133 : decode cX12_ranks 133 = .ok (.iload_n 2, 1) := by decide +kernel
theorem dX12_ranks_134 : decode cX12_ranks 134 = .ok (.iastore, 1) := by decide +kernel
theorem dX12_ranks_135 : decode cX12_ranks 135 = .ok (.iload 4, 2) := by decide +kernel
theorem dX12_ranks_137 : decode cX12_ranks 137 = .ok (.ifCond .eq 10, 3) := by decide +kernel
theorem dX12_ranks_140 : decode cX12_ranks 140 = .ok (.aload_n 0, 1) := by decide +kernel
theorem dX12_ranks_141 : decode cX12_ranks 141 = .ok (.getfield 25, 3) := by decide +kernel
theorem dX12_ranks_144 : decode cX12_ranks 144 = .ok (.iload_n 1, 1) := by decide +kernel
theorem dX12_ranks_145 : decode cX12_ranks 145 = .ok (.iload_n 3, 1) := by decide +kernel
theorem dX12_ranks_146 : decode cX12_ranks 146 = .ok (.iastore, 1) := by decide +kernel
theorem dX12_ranks_147 : decode cX12_ranks 147 = .ok (.iinc 2 1, 3) := by decide +kernel
theorem dX12_ranks_150 : decode cX12_ranks 150 = .ok (.goto (-120), 3) := by decide +kernel
theorem dX12_ranks_153 : decode cX12_ranks 153 = .ok (.iinc 1 1, 3) := by decide +kernel
theorem dX12_ranks_156 : decode cX12_ranks 156 = .ok (.goto (-147), 3) := by decide +kernel
theorem dX12_ranks_159 : decode cX12_ranks 159 = .ok (.return_, 1) := by decide +kernel
theorem dX12_fewestDisagreements_0 : decode cX12_fewestDisagreements 0 = .ok (.aload_n 0, 1) := by decide +kernel
theorem dX12_fewestDisagreements_1 : decode cX12_fewestDisagreements 1 = .ok (.iconst 0, 1) := by decide +kernel
theorem dX12_fewestDisagreements_2 : decode cX12_fewestDisagreements 2 = .ok (.putfield 48, 3) := by decide +kernel
theorem dX12_fewestDisagreements_5 : decode cX12_fewestDisagreements 5 = .ok (.aload_n 0, 1) := by decide +kernel
theorem dX12_fewestDisagreements_6 : decode cX12_fewestDisagreements 6 = .ok (.invokevirtual 252, 3) := by decide +kernel
theorem dX12_fewestDisagreements_9 : decode cX12_fewestDisagreements 9 = .ok (.aload_n 0, 1) := by decide +kernel
theorem dX12_fewestDisagreements_10 : decode cX12_fewestDisagreements 10 = .ok (.getfield 25, 3) := by decide +kernel
theorem dX12_fewestDisagreements_13 : decode cX12_fewestDisagreements 13 = .ok (.iconst 1, 1) := by decide +kernel
theorem dX12_fewestDisagreements_14 : decode cX12_fewestDisagreements 14 = .ok (.aload_n 0, 1) := by decide +kernel
theorem dX12_fewestDisagreements_15 : decode cX12_fewestDisagreements 15 = .ok (.getfield 7, 3) := by decide +kernel
theorem dX12_fewestDisagreements_18 : decode cX12_fewestDisagreements 18 = .ok (.iconst 1, 1) := by decide +kernel
theorem dX12_fewestDisagreements_19 : decode cX12_fewestDisagreements 19 = .ok (.iaload, 1) := by decide +kernel
theorem dX12_fewestDisagreements_20 : decode cX12_fewestDisagreements 20 = .ok (.ishl, 1) := by decide +kernel
theorem dX12_fewestDisagreements_21 : decode cX12_fewestDisagreements 21 = .ok (.iconst 1, 1) := by decide +kernel
theorem dX12_fewestDisagreements_22 : decode cX12_fewestDisagreements 22 = .ok (.isub, 1) := by decide +kernel
theorem dX12_fewestDisagreements_23 : decode cX12_fewestDisagreements 23 = .ok (.iaload, 1) := by decide +kernel
theorem dX12_fewestDisagreements_24 : decode cX12_fewestDisagreements 24 = .ok (.ireturn, 1) := by decide +kernel
theorem dX12_fewestDisagreementsByOrders_0 : decode cX12_fewestDisagreementsByOrders 0 = .ok (.aload_n 0, 1) := by decide +kernel
theorem dX12_fewestDisagreementsByOrders_1 : decode cX12_fewestDisagreementsByOrders 1 = .ok (.invokevirtual 255, 3) := by decide +kernel
theorem dX12_fewestDisagreementsByOrders_4 : decode cX12_fewestDisagreementsByOrders 4 = .ok (.ireturn, 1) := by decide +kernel
theorem dX12_bestOrder_0 : decode cX12_bestOrder 0 = .ok (.aload_n 0, 1) := by decide +kernel
theorem dX12_bestOrder_1 : decode cX12_bestOrder 1 = .ok (.iconst 0, 1) := by decide +kernel
theorem dX12_bestOrder_2 : decode cX12_bestOrder 2 = .ok (.putfield 48, 3) := by decide +kernel
theorem dX12_bestOrder_5 : decode cX12_bestOrder 5 = .ok (.iload_n 1, 1) := by decide +kernel
theorem dX12_bestOrder_6 : decode cX12_bestOrder 6 = .ok (.iconst 0, 1) := by decide +kernel
theorem dX12_bestOrder_7 : decode cX12_bestOrder 7 = .ok (.aload_n 0, 1) := by decide +kernel
theorem dX12_bestOrder_8 : decode cX12_bestOrder 8 = .ok (.getfield 7, 3) := by decide +kernel
theorem dX12_bestOrder_11 : decode cX12_bestOrder 11 = .ok (.iconst 1, 1) := by decide +kernel
theorem dX12_bestOrder_12 : decode cX12_bestOrder 12 = .ok (.iaload, 1) := by decide +kernel
theorem dX12_bestOrder_13 : decode cX12_bestOrder 13 = .ok (.iconst 1, 1) := by decide +kernel
theorem dX12_bestOrder_14 : decode cX12_bestOrder 14 = .ok (.isub, 1) := by decide +kernel
theorem dX12_bestOrder_15 : decode cX12_bestOrder 15 = .ok (.invokestatic 63, 3) := by decide +kernel
theorem dX12_bestOrder_18 : decode cX12_bestOrder 18 = .ok (.ifCond .ne 9, 3) := by decide +kernel
theorem dX12_bestOrder_21 : decode cX12_bestOrder 21 = .ok (.aload_n 0, 1) := by decide +kernel
theorem dX12_bestOrder_22 : decode cX12_bestOrder 22 = .ok (.iconst 1, 1) := by decide +kernel
theorem dX12_bestOrder_23 : decode cX12_bestOrder 23 = .ok (.invokevirtual 82, 3) := by decide +kernel
theorem dX12_bestOrder_26 : decode cX12_bestOrder 26 = .ok (.ireturn, 1) := by decide +kernel
theorem dX12_bestOrder_27 : decode cX12_bestOrder 27 = .ok (.aload_n 0, 1) := by decide +kernel
theorem dX12_bestOrder_28 : decode cX12_bestOrder 28 = .ok (.invokevirtual 252, 3) := by decide +kernel
theorem dX12_bestOrder_31 : decode cX12_bestOrder 31 = .ok (.iconst 1, 1) := by decide +kernel
theorem dX12_bestOrder_32 : decode cX12_bestOrder 32 = .ok (.aload_n 0, 1) := by decide +kernel
theorem dX12_bestOrder_33 : decode cX12_bestOrder 33 = .ok (.getfield 7, 3) := by decide +kernel
theorem dX12_bestOrder_36 : decode cX12_bestOrder 36 = .ok (.iconst 1, 1) := by decide +kernel
theorem dX12_bestOrder_37 : decode cX12_bestOrder 37 = .ok (.iaload, 1) := by decide +kernel
theorem dX12_bestOrder_38 : decode cX12_bestOrder 38 = .ok (.ishl, 1) := by decide +kernel
theorem dX12_bestOrder_39 : decode cX12_bestOrder 39 = .ok (.iconst 1, 1) := by decide +kernel
theorem dX12_bestOrder_40 : decode cX12_bestOrder 40 = .ok (.isub, 1) := by decide +kernel
theorem dX12_bestOrder_41 : decode cX12_bestOrder 41 = .ok (.istore_n 2, 1) := by decide +kernel
theorem dX12_bestOrder_42 : decode cX12_bestOrder 42 = .ok (.iconst 0, 1) := by decide +kernel
theorem dX12_bestOrder_43 : decode cX12_bestOrder 43 = .ok (.istore_n 3, 1) := by decide +kernel
theorem dX12_bestOrder_44 : decode cX12_bestOrder 44 = .ok (.iload_n 3, 1) := by decide +kernel
theorem dX12_bestOrder_45 : decode cX12_bestOrder 45 = .ok (.iload_n 1, 1) := by decide +kernel
theorem dX12_bestOrder_46 : decode cX12_bestOrder 46 = .ok (.if_icmp .ge 20, 3) := by decide +kernel
theorem dX12_bestOrder_49 : decode cX12_bestOrder 49 = .ok (.iload_n 2, 1) := by decide +kernel
theorem dX12_bestOrder_50 : decode cX12_bestOrder 50 = .ok (.iconst 1, 1) := by decide +kernel
theorem dX12_bestOrder_51 : decode cX12_bestOrder 51 = .ok (.aload_n 0, 1) := by decide +kernel
theorem dX12_bestOrder_52 : decode cX12_bestOrder 52 = .ok (.getfield 28, 3) := by decide +kernel
theorem dX12_bestOrder_55 : decode cX12_bestOrder 55 = .ok (.iload_n 2, 1) := by decide +kernel
theorem dX12_bestOrder_56 : decode cX12_bestOrder 56 = .ok (.iaload, 1) := by decide +kernel
theorem dX12_bestOrder_57 : decode cX12_bestOrder 57 = .ok (.ishl, 1) := by decide +kernel
theorem dX12_bestOrder_58 : decode cX12_bestOrder 58 = .ok (.isub, 1) := by decide +kernel
theorem dX12_bestOrder_59 : decode cX12_bestOrder 59 = .ok (.istore_n 2, 1) := by decide +kernel
theorem dX12_bestOrder_60 : decode cX12_bestOrder 60 = .ok (.iinc 3 1, 3) := by decide +kernel
theorem dX12_bestOrder_63 : decode cX12_bestOrder 63 = .ok (.goto (-19), 3) := by decide +kernel
theorem dX12_bestOrder_66 : decode cX12_bestOrder 66 = .ok (.aload_n 0, 1) := by decide +kernel
theorem dX12_bestOrder_67 : decode cX12_bestOrder 67 = .ok (.aload_n 0, 1) := by decide +kernel
theorem dX12_bestOrder_68 : decode cX12_bestOrder 68 = .ok (.getfield 28, 3) := by decide +kernel
theorem dX12_bestOrder_71 : decode cX12_bestOrder 71 = .ok (.iload_n 2, 1) := by decide +kernel
theorem dX12_bestOrder_72 : decode cX12_bestOrder 72 = .ok (.iaload, 1) := by decide +kernel
theorem dX12_bestOrder_73 : decode cX12_bestOrder 73 = .ok (.invokevirtual 67, 3) := by decide +kernel
theorem dX12_bestOrder_76 : decode cX12_bestOrder 76 = .ok (.ireturn, 1) := by decide +kernel
theorem dX12_beatsOthers_0 : decode cX12_beatsOthers 0 = .ok (.iconst 0, 1) := by decide +kernel
theorem dX12_beatsOthers_1 : decode cX12_beatsOthers 1 = .ok (.istore_n 2, 1) := by decide +kernel
theorem dX12_beatsOthers_2 : decode cX12_beatsOthers 2 = .ok (.iload_n 2, 1) := by decide +kernel
theorem dX12_beatsOthers_3 : decode cX12_beatsOthers 3 = .ok (.aload_n 0, 1) := by decide +kernel
theorem dX12_beatsOthers_4 : decode cX12_beatsOthers 4 = .ok (.getfield 7, 3) := by decide +kernel
theorem dX12_beatsOthers_7 : decode cX12_beatsOthers 7 = .ok (.iconst 1, 1) := by decide +kernel
theorem dX12_beatsOthers_8 : decode cX12_beatsOthers 8 = .ok (.iaload, 1) := by decide +kernel
theorem dX12_beatsOthers_9 : decode cX12_beatsOthers 9 = .ok (.if_icmp .ge 61, 3) := by decide +kernel
theorem dX12_beatsOthers_12 : decode cX12_beatsOthers 12 = .ok (.iconst 0, 1) := by decide +kernel
theorem dX12_beatsOthers_13 : decode cX12_beatsOthers 13 = .ok (.istore_n 3, 1) := by decide +kernel
theorem dX12_beatsOthers_14 : decode cX12_beatsOthers 14 = .ok (.iload_n 3, 1) := by decide +kernel
theorem dX12_beatsOthers_15 : decode cX12_beatsOthers 15 = .ok (.aload_n 0, 1) := by decide +kernel
theorem dX12_beatsOthers_16 : decode cX12_beatsOthers 16 = .ok (.getfield 7, 3) := by decide +kernel
theorem dX12_beatsOthers_19 : decode cX12_beatsOthers 19 = .ok (.iconst 1, 1) := by decide +kernel
theorem dX12_beatsOthers_20 : decode cX12_beatsOthers 20 = .ok (.iaload, 1) := by decide +kernel
theorem dX12_beatsOthers_21 : decode cX12_beatsOthers 21 = .ok (.if_icmp .ge 43, 3) := by decide +kernel
theorem dX12_beatsOthers_24 : decode cX12_beatsOthers 24 = .ok (.iload_n 1, 1) := by decide +kernel
theorem dX12_beatsOthers_25 : decode cX12_beatsOthers 25 = .ok (.iload_n 2, 1) := by decide +kernel
theorem dX12_beatsOthers_26 : decode cX12_beatsOthers 26 = .ok (.ishr, 1) := by decide +kernel
theorem dX12_beatsOthers_27 : decode cX12_beatsOthers 27 = .ok (.iconst 1, 1) := by decide +kernel
theorem dX12_beatsOthers_28 : decode cX12_beatsOthers 28 = .ok (.iand, 1) := by decide +kernel
theorem dX12_beatsOthers_29 : decode cX12_beatsOthers 29 = .ok (.iconst 1, 1) := by decide +kernel
theorem dX12_beatsOthers_30 : decode cX12_beatsOthers 30 = .ok (.if_icmp .ne 28, 3) := by decide +kernel
theorem dX12_beatsOthers_33 : decode cX12_beatsOthers 33 = .ok (.iload_n 1, 1) := by decide +kernel
theorem dX12_beatsOthers_34 : decode cX12_beatsOthers 34 = .ok (.iload_n 3, 1) := by decide +kernel
theorem dX12_beatsOthers_35 : decode cX12_beatsOthers 35 = .ok (.ishr, 1) := by decide +kernel
theorem dX12_beatsOthers_36 : decode cX12_beatsOthers 36 = .ok (.iconst 1, 1) := by decide +kernel
theorem dX12_beatsOthers_37 : decode cX12_beatsOthers 37 = .ok (.iand, 1) := by decide +kernel
theorem dX12_beatsOthers_38 : decode cX12_beatsOthers 38 = .ok (.ifCond .ne 20, 3) := by decide +kernel
theorem dX12_beatsOthers_41 : decode cX12_beatsOthers 41 = .ok (.aload_n 0, 1) := by decide +kernel
theorem dX12_beatsOthers_42 : decode cX12_beatsOthers 42 = .ok (.iload_n 2, 1) := by decide +kernel
theorem dX12_beatsOthers_43 : decode cX12_beatsOthers 43 = .ok (.iload_n 3, 1) := by decide +kernel
theorem dX12_beatsOthers_44 : decode cX12_beatsOthers 44 = .ok (.invokevirtual 246, 3) := by decide +kernel
theorem dX12_beatsOthers_47 : decode cX12_beatsOthers 47 = .ok (.aload_n 0, 1) := by decide +kernel
theorem dX12_beatsOthers_48 : decode cX12_beatsOthers 48 = .ok (.iload_n 3, 1) := by decide +kernel
theorem dX12_beatsOthers_49 : decode cX12_beatsOthers 49 = .ok (.iload_n 2, 1) := by decide +kernel
theorem dX12_beatsOthers_50 : decode cX12_beatsOthers 50 = .ok (.invokevirtual 246, 3) := by decide +kernel
theorem dX12_beatsOthers_53 : decode cX12_beatsOthers 53 = .ok (.if_icmp .gt 5, 3) := by decide +kernel
theorem dX12_beatsOthers_56 : decode cX12_beatsOthers 56 = .ok (.iconst 0, 1) := by decide +kernel
theorem dX12_beatsOthers_57 : decode cX12_beatsOthers 57 = .ok (.ireturn, 1) := by decide +kernel
theorem dX12_beatsOthers_58 : decode cX12_beatsOthers 58 = .ok (.iinc 3 1, 3) := by decide +kernel
theorem dX12_beatsOthers_61 : decode cX12_beatsOthers 61 = .ok (.goto (-47), 3) := by decide +kernel
theorem dX12_beatsOthers_64 : decode cX12_beatsOthers 64 = .ok (.iinc 2 1, 3) := by decide +kernel
theorem dX12_beatsOthers_67 : decode cX12_beatsOthers 67 = .ok (.goto (-65), 3) := by decide +kernel
theorem dX12_beatsOthers_70 : decode cX12_beatsOthers 70 = .ok (.iconst 1, 1) := by decide +kernel
theorem dX12_beatsOthers_71 : decode cX12_beatsOthers 71 = .ok (.ireturn, 1) := by decide +kernel
theorem dX12_many_0 : decode cX12_many 0 = .ok (.iconst 0, 1) := by decide +kernel
theorem dX12_many_1 : decode cX12_many 1 = .ok (.istore_n 1, 1) := by decide +kernel
theorem dX12_many_2 : decode cX12_many 2 = .ok (.iload_n 0, 1) := by decide +kernel
theorem dX12_many_3 : decode cX12_many 3 = .ok (.istore_n 2, 1) := by decide +kernel
theorem dX12_many_4 : decode cX12_many 4 = .ok (.iload_n 2, 1) := by decide +kernel
theorem dX12_many_5 : decode cX12_many 5 = .ok (.ifCond .le 16, 3) := by decide +kernel
theorem dX12_many_8 : decode cX12_many 8 = .ok (.iload_n 1, 1) := by decide +kernel
theorem dX12_many_9 : decode cX12_many 9 = .ok (.iload_n 2, 1) := by decide +kernel
theorem dX12_many_10 : decode cX12_many 10 = .ok (.iconst 2, 1) := by decide +kernel
theorem dX12_many_11 : decode cX12_many 11 = .ok (.irem, 1) := by decide +kernel
theorem dX12_many_12 : decode cX12_many 12 = .ok (.iadd, 1) := by decide +kernel
theorem dX12_many_13 : decode cX12_many 13 = .ok (.istore_n 1, 1) := by decide +kernel
theorem dX12_many_14 : decode cX12_many 14 = .ok (.iload_n 2, 1) := by decide +kernel
theorem dX12_many_15 : decode cX12_many 15 = .ok (.iconst 2, 1) := by decide +kernel
theorem dX12_many_16 : decode cX12_many 16 = .ok (.idiv, 1) := by decide +kernel
theorem dX12_many_17 : decode cX12_many 17 = .ok (.istore_n 2, 1) := by decide +kernel
theorem dX12_many_18 : decode cX12_many 18 = .ok (.goto (-14), 3) := by decide +kernel
theorem dX12_many_21 : decode cX12_many 21 = .ok (.iload_n 1, 1) := by decide +kernel
theorem dX12_many_22 : decode cX12_many 22 = .ok (.ireturn, 1) := by decide +kernel
theorem dX12_isInTop_0 : decode cX12_isInTop 0 = .ok (.aload_n 0, 1) := by decide +kernel
theorem dX12_isInTop_1 : decode cX12_isInTop 1 = .ok (.iconst 0, 1) := by decide +kernel
theorem dX12_isInTop_2 : decode cX12_isInTop 2 = .ok (.putfield 48, 3) := by decide +kernel
theorem dX12_isInTop_5 : decode cX12_isInTop 5 = .ok (.aload_n 0, 1) := by decide +kernel
theorem dX12_isInTop_6 : decode cX12_isInTop 6 = .ok (.iload_n 1, 1) := by decide +kernel
theorem dX12_isInTop_7 : decode cX12_isInTop 7 = .ok (.invokevirtual 104, 3) := by decide +kernel
theorem dX12_isInTop_10 : decode cX12_isInTop 10 = .ok (.ifCond .ge 17, 3) := by decide +kernel
theorem dX12_isInTop_13 : decode cX12_isInTop 13 = .ok (.aload_n 0, 1) := by decide +kernel
theorem dX12_isInTop_14 : decode cX12_isInTop 14 = .ok (.iconst 1, 1) := by decide +kernel
theorem dX12_isInTop_15 : decode cX12_isInTop 15 = .ok (.invokevirtual 82, 3) := by decide +kernel
theorem dX12_isInTop_18 : decode cX12_isInTop 18 = .ok (.ifCond .le 7, 3) := by decide +kernel
theorem dX12_isInTop_21 : decode cX12_isInTop 21 = .ok (.iconst 1, 1) := by decide +kernel
theorem dX12_isInTop_22 : decode cX12_isInTop 22 = .ok (.goto 4, 3) := by decide +kernel
theorem dX12_isInTop_25 : decode cX12_isInTop 25 = .ok (.iconst 0, 1) := by decide +kernel
theorem dX12_isInTop_26 : decode cX12_isInTop 26 = .ok (.ireturn, 1) := by decide +kernel
theorem dX12_isInTop_27 : decode cX12_isInTop 27 = .ok (.iconst 1, 1) := by decide +kernel
theorem dX12_isInTop_28 : decode cX12_isInTop 28 = .ok (.aload_n 0, 1) := by decide +kernel
theorem dX12_isInTop_29 : decode cX12_isInTop 29 = .ok (.getfield 7, 3) := by decide +kernel
theorem dX12_isInTop_32 : decode cX12_isInTop 32 = .ok (.iconst 1, 1) := by decide +kernel
theorem dX12_isInTop_33 : decode cX12_isInTop 33 = .ok (.iaload, 1) := by decide +kernel
theorem dX12_isInTop_34 : decode cX12_isInTop 34 = .ok (.ishl, 1) := by decide +kernel
theorem dX12_isInTop_35 : decode cX12_isInTop 35 = .ok (.iconst 1, 1) := by decide +kernel
theorem dX12_isInTop_36 : decode cX12_isInTop 36 = .ok (.isub, 1) := by decide +kernel
theorem dX12_isInTop_37 : decode cX12_isInTop 37 = .ok (.istore_n 2, 1) := by decide +kernel
theorem dX12_isInTop_38 : decode cX12_isInTop 38 = .ok (.iconst 1, 1) := by decide +kernel
theorem dX12_isInTop_39 : decode cX12_isInTop 39 = .ok (.istore_n 3, 1) := by decide +kernel
theorem dX12_isInTop_40 : decode cX12_isInTop 40 = .ok (.iload_n 3, 1) := by decide +kernel
theorem dX12_isInTop_41 : decode cX12_isInTop 41 = .ok (.iconst 1, 1) := by decide +kernel
theorem dX12_isInTop_42 : decode cX12_isInTop 42 = .ok (.aload_n 0, 1) := by decide +kernel
theorem dX12_isInTop_43 : decode cX12_isInTop 43 = .ok (.getfield 7, 3) := by decide +kernel
theorem dX12_isInTop_46 : decode cX12_isInTop 46 = .ok (.iconst 1, 1) := by decide +kernel
theorem dX12_isInTop_47 : decode cX12_isInTop 47 = .ok (.iaload, 1) := by decide +kernel
theorem dX12_isInTop_48 : decode cX12_isInTop 48 = .ok (.ishl, 1) := by decide +kernel
theorem dX12_isInTop_49 : decode cX12_isInTop 49 = .ok (.if_icmp .ge 30, 3) := by decide +kernel
theorem dX12_isInTop_52 : decode cX12_isInTop 52 = .ok (.iload_n 3, 1) := by decide +kernel
theorem dX12_isInTop_53 : decode cX12_isInTop 53 = .ok (.invokestatic 258, 3) := by decide +kernel
theorem dX12_isInTop_56 : decode cX12_isInTop 56 = .ok (.iload_n 2, 1) := by decide +kernel
theorem dX12_isInTop_57 : decode cX12_isInTop 57 = .ok (.invokestatic 258, 3) := by decide +kernel
theorem dX12_isInTop_60 : decode cX12_isInTop 60 = .ok (.if_icmp .ge 13, 3) := by decide +kernel
theorem dX12_isInTop_63 : decode cX12_isInTop 63 = .ok (.aload_n 0, 1) := by decide +kernel
theorem dX12_isInTop_64 : decode cX12_isInTop 64 = .ok (.iload_n 3, 1) := by decide +kernel
theorem dX12_isInTop_65 : decode cX12_isInTop 65 = .ok (.invokevirtual 261, 3) := by decide +kernel
theorem dX12_isInTop_68 : decode cX12_isInTop 68 = .ok (.ifCond .eq 5, 3) := by decide +kernel
theorem dX12_isInTop_71 : decode cX12_isInTop 71 = .ok (.iload_n 3, 1) := by decide +kernel
theorem dX12_isInTop_72 : decode cX12_isInTop 72 = .ok (.istore_n 2, 1) := by decide +kernel
theorem dX12_isInTop_73 : decode cX12_isInTop 73 = .ok (.iinc 3 1, 3) := by decide +kernel
theorem dX12_isInTop_76 : decode cX12_isInTop 76 = .ok (.goto (-36), 3) := by decide +kernel
theorem dX12_isInTop_79 : decode cX12_isInTop 79 = .ok (.iload_n 2, 1) := by decide +kernel
theorem dX12_isInTop_80 : decode cX12_isInTop 80 = .ok (.aload_n 0, 1) := by decide +kernel
theorem dX12_isInTop_81 : decode cX12_isInTop 81 = .ok (.iload_n 1, 1) := by decide +kernel
theorem dX12_isInTop_82 : decode cX12_isInTop 82 = .ok (.invokevirtual 104, 3) := by decide +kernel
theorem dX12_isInTop_85 : decode cX12_isInTop 85 = .ok (.ishr, 1) := by decide +kernel
theorem dX12_isInTop_86 : decode cX12_isInTop 86 = .ok (.iconst 1, 1) := by decide +kernel
theorem dX12_isInTop_87 : decode cX12_isInTop 87 = .ok (.iand, 1) := by decide +kernel
theorem dX12_isInTop_88 : decode cX12_isInTop 88 = .ok (.iconst 1, 1) := by decide +kernel
theorem dX12_isInTop_89 : decode cX12_isInTop 89 = .ok (.if_icmp .ne 7, 3) := by decide +kernel
theorem dX12_isInTop_92 : decode cX12_isInTop 92 = .ok (.iconst 1, 1) := by decide +kernel
theorem dX12_isInTop_93 : decode cX12_isInTop 93 = .ok (.goto 4, 3) := by decide +kernel
theorem dX12_isInTop_96 : decode cX12_isInTop 96 = .ok (.iconst 0, 1) := by decide +kernel
theorem dX12_isInTop_97 : decode cX12_isInTop 97 = .ok (.ireturn, 1) := by decide +kernel
theorem dX12_isInTopBySets_0 : decode cX12_isInTopBySets 0 = .ok (.aload_n 0, 1) := by decide +kernel
theorem dX12_isInTopBySets_1 : decode cX12_isInTopBySets 1 = .ok (.iload_n 1, 1) := by decide +kernel
theorem dX12_isInTopBySets_2 : decode cX12_isInTopBySets 2 = .ok (.invokevirtual 264, 3) := by decide +kernel
theorem dX12_isInTopBySets_5 : decode cX12_isInTopBySets 5 = .ok (.ireturn, 1) := by decide +kernel
theorem dX12_isWet_0 : decode cX12_isWet 0 = .ok (.aload_n 0, 1) := by decide +kernel
theorem dX12_isWet_1 : decode cX12_isWet 1 = .ok (.iconst 0, 1) := by decide +kernel
theorem dX12_isWet_2 : decode cX12_isWet 2 = .ok (.putfield 48, 3) := by decide +kernel
theorem dX12_isWet_5 : decode cX12_isWet 5 = .ok (.iload_n 1, 1) := by decide +kernel
theorem dX12_isWet_6 : decode cX12_isWet 6 = .ok (.iload_n 2, 1) := by decide +kernel
theorem dX12_isWet_7 : decode cX12_isWet 7 = .ok (.invokestatic 198, 3) := by decide +kernel
theorem dX12_isWet_10 : decode cX12_isWet 10 = .ok (.ifCond .ne 17, 3) := by decide +kernel
theorem dX12_isWet_13 : decode cX12_isWet 13 = .ok (.aload_n 0, 1) := by decide +kernel
theorem dX12_isWet_14 : decode cX12_isWet 14 = .ok (.iconst 1, 1) := by decide +kernel
theorem dX12_isWet_15 : decode cX12_isWet 15 = .ok (.invokevirtual 82, 3) := by decide +kernel
theorem dX12_isWet_18 : decode cX12_isWet 18 = .ok (.ifCond .le 7, 3) := by decide +kernel
theorem dX12_isWet_21 : decode cX12_isWet 21 = .ok (.iconst 1, 1) := by decide +kernel
theorem dX12_isWet_22 : decode cX12_isWet 22 = .ok (.goto 4, 3) := by decide +kernel
theorem dX12_isWet_25 : decode cX12_isWet 25 = .ok (.iconst 0, 1) := by decide +kernel
theorem dX12_isWet_26 : decode cX12_isWet 26 = .ok (.ireturn, 1) := by decide +kernel
theorem dX12_isWet_27 : decode cX12_isWet 27 = .ok (.aload_n 0, 1) := by decide +kernel
theorem dX12_isWet_28 : decode cX12_isWet 28 = .ok (.getfield 7, 3) := by decide +kernel
theorem dX12_isWet_31 : decode cX12_isWet 31 = .ok (.bipush 82, 2) := by decide +kernel
theorem dX12_isWet_33 : decode cX12_isWet 33 = .ok (.bipush 8, 2) := by decide +kernel
theorem dX12_isWet_35 : decode cX12_isWet 35 = .ok (.iload_n 1, 1) := by decide +kernel
theorem dX12_isWet_36 : decode cX12_isWet 36 = .ok (.imul, 1) := by decide +kernel
theorem dX12_isWet_37 : decode cX12_isWet 37 = .ok (.iadd, 1) := by decide +kernel
theorem dX12_isWet_38 : decode cX12_isWet 38 = .ok (.iload_n 2, 1) := by decide +kernel
theorem dX12_isWet_39 : decode cX12_isWet 39 = .ok (.iadd, 1) := by decide +kernel
theorem dX12_isWet_40 : decode cX12_isWet 40 = .ok (.iaload, 1) := by decide +kernel
theorem dX12_isWet_41 : decode cX12_isWet 41 = .ok (.iconst 1, 1) := by decide +kernel
theorem dX12_isWet_42 : decode cX12_isWet 42 = .ok (.if_icmp .ne 7, 3) := by decide +kernel
theorem dX12_isWet_45 : decode cX12_isWet 45 = .ok (.iconst 1, 1) := by decide +kernel
theorem dX12_isWet_46 : decode cX12_isWet 46 = .ok (.goto 4, 3) := by decide +kernel
theorem dX12_isWet_49 : decode cX12_isWet 49 = .ok (.iconst 0, 1) := by decide +kernel
theorem dX12_isWet_50 : decode cX12_isWet 50 = .ok (.ireturn, 1) := by decide +kernel
theorem dX12_wetCells_0 : decode cX12_wetCells 0 = .ok (.aload_n 0, 1) := by decide +kernel
theorem dX12_wetCells_1 : decode cX12_wetCells 1 = .ok (.iconst 0, 1) := by decide +kernel
theorem dX12_wetCells_2 : decode cX12_wetCells 2 = .ok (.putfield 48, 3) := by decide +kernel
theorem dX12_wetCells_5 : decode cX12_wetCells 5 = .ok (.aload_n 0, 1) := by decide +kernel
theorem dX12_wetCells_6 : decode cX12_wetCells 6 = .ok (.invokevirtual 209, 3) := by decide +kernel
theorem dX12_wetCells_9 : decode cX12_wetCells 9 = .ok (.ireturn, 1) := by decide +kernel
theorem dX12_puddle_0 : decode cX12_puddle 0 = .ok (.aload_n 0, 1) := by decide +kernel
theorem dX12_puddle_1 : decode cX12_puddle 1 = .ok (.iconst 0, 1) := by decide +kernel
theorem dX12_puddle_2 : decode cX12_puddle 2 = .ok (.putfield 48, 3) := by decide +kernel
theorem dX12_puddle_5 : decode cX12_puddle 5 = .ok (.iload_n 1, 1) := by decide +kernel
theorem dX12_puddle_6 : decode cX12_puddle 6 = .ok (.iload_n 2, 1) := by decide +kernel
theorem dX12_puddle_7 : decode cX12_puddle 7 = .ok (.invokestatic 198, 3) := by decide +kernel
theorem dX12_puddle_10 : decode cX12_puddle 10 = .ok (.ifCond .eq 16, 3) := by decide +kernel
theorem dX12_puddle_13 : decode cX12_puddle 13 = .ok (.aload_n 0, 1) := by decide +kernel
theorem dX12_puddle_14 : decode cX12_puddle 14 = .ok (.bipush 8, 2) := by decide +kernel
theorem dX12_puddle_16 : decode cX12_puddle 16 = .ok (.iload_n 1, 1) := by decide +kernel
theorem dX12_puddle_17 : decode cX12_puddle 17 = .ok (.imul, 1) := by decide +kernel
theorem dX12_puddle_18 : decode cX12_puddle 18 = .ok (.iload_n 2, 1) := by decide +kernel
theorem dX12_puddle_19 : decode cX12_puddle 19 = .ok (.iadd, 1) := by decide +kernel
theorem dX12_puddle_20 : decode cX12_puddle 20 = .ok (.invokevirtual 195, 3) := by decide +kernel
theorem dX12_puddle_23 : decode cX12_puddle 23 = .ok (.goto 8, 3) := by decide +kernel
theorem dX12_puddle_26 : decode cX12_puddle 26 = .ok (.aload_n 0, 1) := by decide +kernel
theorem dX12_puddle_27 : decode cX12_puddle 27 = .ok (.iconst 1, 1) := by decide +kernel
theorem dX12_puddle_28 : decode cX12_puddle 28 = .ok (.invokevirtual 82, 3) := by decide +kernel
theorem dX12_puddle_31 : decode cX12_puddle 31 = .ok (.ireturn, 1) := by decide +kernel
theorem dX12_puddleByGroups_0 : decode cX12_puddleByGroups 0 = .ok (.aload_n 0, 1) := by decide +kernel
theorem dX12_puddleByGroups_1 : decode cX12_puddleByGroups 1 = .ok (.iload_n 1, 1) := by decide +kernel
theorem dX12_puddleByGroups_2 : decode cX12_puddleByGroups 2 = .ok (.iload_n 2, 1) := by decide +kernel
theorem dX12_puddleByGroups_3 : decode cX12_puddleByGroups 3 = .ok (.invokevirtual 267, 3) := by decide +kernel
theorem dX12_puddleByGroups_6 : decode cX12_puddleByGroups 6 = .ok (.ireturn, 1) := by decide +kernel
theorem dX12_largestPuddle_0 : decode cX12_largestPuddle 0 = .ok (.aload_n 0, 1) := by decide +kernel
theorem dX12_largestPuddle_1 : decode cX12_largestPuddle 1 = .ok (.iconst 0, 1) := by decide +kernel
theorem dX12_largestPuddle_2 : decode cX12_largestPuddle 2 = .ok (.putfield 48, 3) := by decide +kernel
theorem dX12_largestPuddle_5 : decode cX12_largestPuddle 5 = .ok (.aload_n 0, 1) := by decide +kernel
theorem dX12_largestPuddle_6 : decode cX12_largestPuddle 6 = .ok (.invokevirtual 206, 3) := by decide +kernel
theorem dX12_largestPuddle_9 : decode cX12_largestPuddle 9 = .ok (.ireturn, 1) := by decide +kernel
theorem dX12_puddleCount_0 : decode cX12_puddleCount 0 = .ok (.aload_n 0, 1) := by decide +kernel
theorem dX12_puddleCount_1 : decode cX12_puddleCount 1 = .ok (.iconst 0, 1) := by decide +kernel
theorem dX12_puddleCount_2 : decode cX12_puddleCount 2 = .ok (.putfield 48, 3) := by decide +kernel
theorem dX12_puddleCount_5 : decode cX12_puddleCount 5 = .ok (.iconst 0, 1) := by decide +kernel
theorem dX12_puddleCount_6 : decode cX12_puddleCount 6 = .ok (.istore_n 1, 1) := by decide +kernel
theorem dX12_puddleCount_7 : decode cX12_puddleCount 7 = .ok (.iconst 0, 1) := by decide +kernel
theorem dX12_puddleCount_8 : decode cX12_puddleCount 8 = .ok (.istore_n 2, 1) := by decide +kernel
theorem dX12_puddleCount_9 : decode cX12_puddleCount 9 = .ok (.iload_n 2, 1) := by decide +kernel
theorem dX12_puddleCount_10 : decode cX12_puddleCount 10 = .ok (.bipush 64, 2) := by decide +kernel
theorem dX12_puddleCount_12 : decode cX12_puddleCount 12 = .ok (.if_icmp .ge 67, 3) := by decide +kernel
theorem dX12_puddleCount_15 : decode cX12_puddleCount 15 = .ok (.aload_n 0, 1) := by decide +kernel
theorem dX12_puddleCount_16 : decode cX12_puddleCount 16 = .ok (.getfield 7, 3) := by decide +kernel
theorem dX12_puddleCount_19 : decode cX12_puddleCount 19 = .ok (.bipush 82, 2) := by decide +kernel
theorem dX12_puddleCount_21 : decode cX12_puddleCount 21 = .ok (.iload_n 2, 1) := by decide +kernel
theorem dX12_puddleCount_22 : decode cX12_puddleCount 22 = .ok (.iadd, 1) := by decide +kernel
theorem dX12_puddleCount_23 : decode cX12_puddleCount 23 = .ok (.iaload, 1) := by decide +kernel
theorem dX12_puddleCount_24 : decode cX12_puddleCount 24 = .ok (.ifCond .ne 6, 3) := by decide +kernel
theorem dX12_puddleCount_27 : decode cX12_puddleCount 27 = .ok (.goto 46, 3) := by decide +kernel
theorem dX12_puddleCount_30 : decode cX12_puddleCount 30 = .ok (.aload_n 0, 1) := by decide +kernel
theorem dX12_puddleCount_31 : decode cX12_puddleCount 31 = .ok (.iload_n 2, 1) := by decide +kernel
theorem dX12_puddleCount_32 : decode cX12_puddleCount 32 = .ok (.invokevirtual 195, 3) := by decide +kernel
theorem dX12_puddleCount_35 : decode cX12_puddleCount 35 = .ok (.istore_n 3, 1) := by decide +kernel
theorem dX12_puddleCount_36 : decode cX12_puddleCount 36 = .ok (.iconst 0, 1) := by decide +kernel
theorem dX12_puddleCount_37 : decode cX12_puddleCount 37 = .ok (.istore 4, 2) := by decide +kernel
theorem dX12_puddleCount_39 : decode cX12_puddleCount 39 = .ok (.aload_n 0, 1) := by decide +kernel
theorem dX12_puddleCount_40 : decode cX12_puddleCount 40 = .ok (.getfield 22, 3) := by decide +kernel
theorem dX12_puddleCount_43 : decode cX12_puddleCount 43 = .ok (.iload 4, 2) := by decide +kernel
theorem dX12_puddleCount_45 : decode cX12_puddleCount 45 = .ok (.iaload, 1) := by decide +kernel
theorem dX12_puddleCount_46 : decode cX12_puddleCount 46 = .ok (.ifCond .ne 9, 3) := by decide +kernel
theorem dX12_puddleCount_49 : decode cX12_puddleCount 49 = .ok (.iinc 4 1, 3) := by decide +kernel
theorem dX12_puddleCount_52 : decode cX12_puddleCount 52 = .ok (.goto (-13), 3) := by decide +kernel
theorem dX12_puddleCount_55 : decode cX12_puddleCount 55 = .ok (.iload_n 1, 1) := by decide +kernel
theorem dX12_puddleCount_56 : decode cX12_puddleCount 56 = .ok (.iload 4, 2) := by decide +kernel
theorem dX12_puddleCount_58 : decode cX12_puddleCount 58 = .ok (.iload_n 2, 1) := by decide +kernel
theorem dX12_puddleCount_59 : decode cX12_puddleCount 59 = .ok (.if_icmp .ne 11, 3) := by decide +kernel
theorem dX12_puddleCount_62 : decode cX12_puddleCount 62 = .ok (.iload_n 3, 1) := by decide +kernel
theorem dX12_puddleCount_63 : decode cX12_puddleCount 63 = .ok (.ifCond .le 7, 3) := by decide +kernel
theorem dX12_puddleCount_66 : decode cX12_puddleCount 66 = .ok (.iconst 1, 1) := by decide +kernel
theorem dX12_puddleCount_67 : decode cX12_puddleCount 67 = .ok (.goto 4, 3) := by decide +kernel
theorem dX12_puddleCount_70 : decode cX12_puddleCount 70 = .ok (.iconst 0, 1) := by decide +kernel
theorem dX12_puddleCount_71 : decode cX12_puddleCount 71 = .ok (.iadd, 1) := by decide +kernel
theorem dX12_puddleCount_72 : decode cX12_puddleCount 72 = .ok (.istore_n 1, 1) := by decide +kernel
theorem dX12_puddleCount_73 : decode cX12_puddleCount 73 = .ok (.iinc 2 1, 3) := by decide +kernel
theorem dX12_puddleCount_76 : decode cX12_puddleCount 76 = .ok (.goto (-67), 3) := by decide +kernel
theorem dX12_puddleCount_79 : decode cX12_puddleCount 79 = .ok (.iload_n 1, 1) := by decide +kernel
theorem dX12_puddleCount_80 : decode cX12_puddleCount 80 = .ok (.ireturn, 1) := by decide +kernel
theorem dX12_minutesCount_0 : decode cX12_minutesCount 0 = .ok (.aload_n 0, 1) := by decide +kernel
theorem dX12_minutesCount_1 : decode cX12_minutesCount 1 = .ok (.bipush 6, 2) := by decide +kernel
theorem dX12_minutesCount_3 : decode cX12_minutesCount 3 = .ok (.invokevirtual 231, 3) := by decide +kernel
theorem dX12_minutesCount_6 : decode cX12_minutesCount 6 = .ok (.ireturn, 1) := by decide +kernel
theorem dX12_minute_0 : decode cX12_minute 0 = .ok (.aload_n 0, 1) := by decide +kernel
theorem dX12_minute_1 : decode cX12_minute 1 = .ok (.iconst 0, 1) := by decide +kernel
theorem dX12_minute_2 : decode cX12_minute 2 = .ok (.putfield 48, 3) := by decide +kernel
theorem dX12_minute_5 : decode cX12_minute 5 = .ok (.iload_n 1, 1) := by decide +kernel
theorem dX12_minute_6 : decode cX12_minute 6 = .ok (.iconst 0, 1) := by decide +kernel
theorem dX12_minute_7 : decode cX12_minute 7 = .ok (.aload_n 0, 1) := by decide +kernel
theorem dX12_minute_8 : decode cX12_minute 8 = .ok (.getfield 7, 3) := by decide +kernel
theorem dX12_minute_11 : decode cX12_minute 11 = .ok (.bipush 6, 2) := by decide +kernel
theorem dX12_minute_13 : decode cX12_minute 13 = .ok (.iaload, 1) := by decide +kernel
theorem dX12_minute_14 : decode cX12_minute 14 = .ok (.iconst 1, 1) := by decide +kernel
theorem dX12_minute_15 : decode cX12_minute 15 = .ok (.isub, 1) := by decide +kernel
theorem dX12_minute_16 : decode cX12_minute 16 = .ok (.invokestatic 63, 3) := by decide +kernel
theorem dX12_minute_19 : decode cX12_minute 19 = .ok (.ifCond .eq 21, 3) := by decide +kernel
theorem dX12_minute_22 : decode cX12_minute 22 = .ok (.iload_n 1, 1) := by decide +kernel
theorem dX12_minute_23 : decode cX12_minute 23 = .ok (.aload_n 0, 1) := by decide +kernel
theorem dX12_minute_24 : decode cX12_minute 24 = .ok (.getfield 7, 3) := by decide +kernel
theorem dX12_minute_27 : decode cX12_minute 27 = .ok (.bipush 6, 2) := by decide +kernel
theorem dX12_minute_29 : decode cX12_minute 29 = .ok (.iaload, 1) := by decide +kernel
theorem dX12_minute_30 : decode cX12_minute 30 = .ok (.bipush 20, 2) := by decide +kernel
theorem dX12_minute_32 : decode cX12_minute 32 = .ok (.isub, 1) := by decide +kernel
theorem dX12_minute_33 : decode cX12_minute 33 = .ok (.if_icmp .lt 7, 3) := by decide +kernel
theorem dX12_minute_36 : decode cX12_minute 36 = .ok (.iconst 1, 1) := by decide +kernel
theorem dX12_minute_37 : decode cX12_minute 37 = .ok (.goto 4, 3) := by decide +kernel
theorem dX12_minute_40 : decode cX12_minute 40 = .ok (.iconst 0, 1) := by decide +kernel
theorem dX12_minute_41 : decode cX12_minute 41 = .ok (.istore_n 2, 1) := by decide +kernel
theorem dX12_minute_42 : decode cX12_minute 42 = .ok (.iload_n 2, 1) := by decide +kernel
theorem dX12_minute_43 : decode cX12_minute 43 = .ok (.ifCond .eq 18, 3) := by decide +kernel
theorem dX12_minute_46 : decode cX12_minute 46 = .ok (.aload_n 0, 1) := by decide +kernel
theorem dX12_minute_47 : decode cX12_minute 47 = .ok (.getfield 7, 3) := by decide +kernel
theorem dX12_minute_50 : decode cX12_minute 50 = .ok (.bipush 62, 2) := by decide +kernel
theorem dX12_minute_52 : decode cX12_minute 52 = .ok (.iload_n 1, 1) := by decide +kernel
theorem dX12_minute_53 : decode cX12_minute 53 = .ok (.bipush 20, 2) := by decide +kernel
theorem dX12_minute_55 : decode cX12_minute 55 = .ok (.irem, 1) := by decide +kernel
theorem dX12_minute_56 : decode cX12_minute 56 = .ok (.iadd, 1) := by decide +kernel
theorem dX12_minute_57 : decode cX12_minute 57 = .ok (.iaload, 1) := by decide +kernel
theorem dX12_minute_58 : decode cX12_minute 58 = .ok (.goto 8, 3) := by decide +kernel
theorem dX12_minute_61 : decode cX12_minute 61 = .ok (.aload_n 0, 1) := by decide +kernel
theorem dX12_minute_62 : decode cX12_minute 62 = .ok (.iconst 1, 1) := by decide +kernel
theorem dX12_minute_63 : decode cX12_minute 63 = .ok (.invokevirtual 82, 3) := by decide +kernel
theorem dX12_minute_66 : decode cX12_minute 66 = .ok (.ireturn, 1) := by decide +kernel
theorem dX12_sittings_0 : decode cX12_sittings 0 = .ok (.aload_n 0, 1) := by decide +kernel
theorem dX12_sittings_1 : decode cX12_sittings 1 = .ok (.iconst 5, 1) := by decide +kernel
theorem dX12_sittings_2 : decode cX12_sittings 2 = .ok (.invokevirtual 231, 3) := by decide +kernel
theorem dX12_sittings_5 : decode cX12_sittings 5 = .ok (.ireturn, 1) := by decide +kernel
theorem dX12_sugarTotal_0 : decode cX12_sugarTotal 0 = .ok (.aload_n 0, 1) := by decide +kernel
theorem dX12_sugarTotal_1 : decode cX12_sugarTotal 1 = .ok (.iconst 0, 1) := by decide +kernel
theorem dX12_sugarTotal_2 : decode cX12_sugarTotal 2 = .ok (.putfield 48, 3) := by decide +kernel
theorem dX12_sugarTotal_5 : decode cX12_sugarTotal 5 = .ok (.iconst 0, 1) := by decide +kernel
theorem dX12_sugarTotal_6 : decode cX12_sugarTotal 6 = .ok (.istore_n 1, 1) := by decide +kernel
theorem dX12_sugarTotal_7 : decode cX12_sugarTotal 7 = .ok (.iconst 0, 1) := by decide +kernel
theorem dX12_sugarTotal_8 : decode cX12_sugarTotal 8 = .ok (.istore_n 2, 1) := by decide +kernel
theorem dX12_sugarTotal_9 : decode cX12_sugarTotal 9 = .ok (.iload_n 2, 1) := by decide +kernel
theorem dX12_sugarTotal_10 : decode cX12_sugarTotal 10 = .ok (.aload_n 0, 1) := by decide +kernel
theorem dX12_sugarTotal_11 : decode cX12_sugarTotal 11 = .ok (.getfield 7, 3) := by decide +kernel
theorem dX12_sugarTotal_14 : decode cX12_sugarTotal 14 = .ok (.iconst 0, 1) := by decide +kernel
theorem dX12_sugarTotal_15 : decode cX12_sugarTotal 15 = .ok (.iaload, 1) := by decide +kernel
theorem dX12_sugarTotal_16 : decode cX12_sugarTotal 16 = .ok (.if_icmp .ge 18, 3) := by decide +kernel
theorem dX12_sugarTotal_19 : decode cX12_sugarTotal 19 = .ok (.iload_n 1, 1) := by decide +kernel
theorem dX12_sugarTotal_20 : decode cX12_sugarTotal 20 = .ok (.aload_n 0, 1) := by decide +kernel
theorem dX12_sugarTotal_21 : decode cX12_sugarTotal 21 = .ok (.iload_n 2, 1) := by decide +kernel
theorem dX12_sugarTotal_22 : decode cX12_sugarTotal 22 = .ok (.iconst 2, 1) := by decide +kernel
theorem dX12_sugarTotal_23 : decode cX12_sugarTotal 23 = .ok (.invokevirtual 71, 3) := by decide +kernel
theorem dX12_sugarTotal_26 : decode cX12_sugarTotal 26 = .ok (.iadd, 1) := by decide +kernel
theorem dX12_sugarTotal_27 : decode cX12_sugarTotal 27 = .ok (.istore_n 1, 1) := by decide +kernel
theorem dX12_sugarTotal_28 : decode cX12_sugarTotal 28 = .ok (.iinc 2 1, 3) := by decide +kernel
theorem dX12_sugarTotal_31 : decode cX12_sugarTotal 31 = .ok (.goto (-22), 3) := by decide +kernel
theorem dX12_sugarTotal_34 : decode cX12_sugarTotal 34 = .ok (.iload_n 1, 1) := by decide +kernel
theorem dX12_sugarTotal_35 : decode cX12_sugarTotal 35 = .ok (.ireturn, 1) := by decide +kernel
theorem dX12_sugarByAccounts_0 : decode cX12_sugarByAccounts 0 = .ok (.aload_n 0, 1) := by decide +kernel
theorem dX12_sugarByAccounts_1 : decode cX12_sugarByAccounts 1 = .ok (.iconst 0, 1) := by decide +kernel
theorem dX12_sugarByAccounts_2 : decode cX12_sugarByAccounts 2 = .ok (.putfield 48, 3) := by decide +kernel
theorem dX12_sugarByAccounts_5 : decode cX12_sugarByAccounts 5 = .ok (.iconst 5, 1) := by decide +kernel
theorem dX12_sugarByAccounts_6 : decode cX12_sugarByAccounts 6 = .ok (.aload_n 0, 1) := by decide +kernel
theorem dX12_sugarByAccounts_7 : decode cX12_sugarByAccounts 7 = .ok (.getfield 7, 3) := by decide +kernel
theorem dX12_sugarByAccounts_10 : decode cX12_sugarByAccounts 10 = .ok (.iconst 0, 1) := by decide +kernel
theorem dX12_sugarByAccounts_11 : decode cX12_sugarByAccounts 11 = .ok (.iaload, 1) := by decide +kernel
theorem dX12_sugarByAccounts_12 : decode cX12_sugarByAccounts 12 = .ok (.imul, 1) := by decide +kernel
theorem dX12_sugarByAccounts_13 : decode cX12_sugarByAccounts 13 = .ok (.aload_n 0, 1) := by decide +kernel
theorem dX12_sugarByAccounts_14 : decode cX12_sugarByAccounts 14 = .ok (.getfield 7, 3) := by decide +kernel
theorem dX12_sugarByAccounts_17 : decode cX12_sugarByAccounts 17 = .ok (.bipush 9, 2) := by decide +kernel
theorem dX12_sugarByAccounts_19 : decode cX12_sugarByAccounts 19 = .ok (.iaload, 1) := by decide +kernel
theorem dX12_sugarByAccounts_20 : decode cX12_sugarByAccounts 20 = .ok (.iadd, 1) := by decide +kernel
theorem dX12_sugarByAccounts_21 : decode cX12_sugarByAccounts 21 = .ok (.aload_n 0, 1) := by decide +kernel
theorem dX12_sugarByAccounts_22 : decode cX12_sugarByAccounts 22 = .ok (.getfield 7, 3) := by decide +kernel
theorem dX12_sugarByAccounts_25 : decode cX12_sugarByAccounts 25 = .ok (.bipush 10, 2) := by decide +kernel
theorem dX12_sugarByAccounts_27 : decode cX12_sugarByAccounts 27 = .ok (.iaload, 1) := by decide +kernel
theorem dX12_sugarByAccounts_28 : decode cX12_sugarByAccounts 28 = .ok (.isub, 1) := by decide +kernel
theorem dX12_sugarByAccounts_29 : decode cX12_sugarByAccounts 29 = .ok (.ireturn, 1) := by decide +kernel
theorem dX12_meanStance_0 : decode cX12_meanStance 0 = .ok (.aload_n 0, 1) := by decide +kernel
theorem dX12_meanStance_1 : decode cX12_meanStance 1 = .ok (.iconst 0, 1) := by decide +kernel
theorem dX12_meanStance_2 : decode cX12_meanStance 2 = .ok (.putfield 48, 3) := by decide +kernel
theorem dX12_meanStance_5 : decode cX12_meanStance 5 = .ok (.aload_n 0, 1) := by decide +kernel
theorem dX12_meanStance_6 : decode cX12_meanStance 6 = .ok (.getfield 7, 3) := by decide +kernel
theorem dX12_meanStance_9 : decode cX12_meanStance 9 = .ok (.iconst 0, 1) := by decide +kernel
theorem dX12_meanStance_10 : decode cX12_meanStance 10 = .ok (.iaload, 1) := by decide +kernel
theorem dX12_meanStance_11 : decode cX12_meanStance 11 = .ok (.ifCond .ne 10, 3) := by decide +kernel
theorem dX12_meanStance_14 : decode cX12_meanStance 14 = .ok (.aload_n 0, 1) := by decide +kernel
theorem dX12_meanStance_15 : decode cX12_meanStance 15 = .ok (.iconst 1, 1) := by decide +kernel
theorem dX12_meanStance_16 : decode cX12_meanStance 16 = .ok (.invokevirtual 82, 3) := by decide +kernel
theorem dX12_meanStance_19 : decode cX12_meanStance 19 = .ok (.i2d, 1) := by decide +kernel
theorem dX12_meanStance_20 : decode cX12_meanStance 20 = .ok (.dreturn, 1) := by decide +kernel
theorem dX12_meanStance_21 : decode cX12_meanStance 21 = .ok (.iconst 0, 1) := by decide +kernel
theorem dX12_meanStance_22 : decode cX12_meanStance 22 = .ok (.istore_n 1, 1) := by decide +kernel
theorem dX12_meanStance_23 : decode cX12_meanStance 23 = .ok (.iconst 0, 1) := by decide +kernel
theorem dX12_meanStance_24 : decode cX12_meanStance 24 = .ok (.istore_n 2, 1) := by decide +kernel
theorem dX12_meanStance_25 : decode cX12_meanStance 25 = .ok (.iload_n 2, 1) := by decide +kernel
theorem dX12_meanStance_26 : decode cX12_meanStance 26 = .ok (.aload_n 0, 1) := by decide +kernel
theorem dX12_meanStance_27 : decode cX12_meanStance 27 = .ok (.getfield 7, 3) := by decide +kernel
theorem dX12_meanStance_30 : decode cX12_meanStance 30 = .ok (.iconst 0, 1) := by decide +kernel
theorem dX12_meanStance_31 : decode cX12_meanStance 31 = .ok (.iaload, 1) := by decide +kernel
theorem dX12_meanStance_32 : decode cX12_meanStance 32 = .ok (.if_icmp .ge 18, 3) := by decide +kernel
theorem dX12_meanStance_35 : decode cX12_meanStance 35 = .ok (.iload_n 1, 1) := by decide +kernel
theorem dX12_meanStance_36 : decode cX12_meanStance 36 = .ok (.aload_n 0, 1) := by decide +kernel
theorem dX12_meanStance_37 : decode cX12_meanStance 37 = .ok (.iload_n 2, 1) := by decide +kernel
theorem dX12_meanStance_38 : decode cX12_meanStance 38 = .ok (.iconst 1, 1) := by decide +kernel
theorem dX12_meanStance_39 : decode cX12_meanStance 39 = .ok (.invokevirtual 71, 3) := by decide +kernel
theorem dX12_meanStance_42 : decode cX12_meanStance 42 = .ok (.iadd, 1) := by decide +kernel
theorem dX12_meanStance_43 : decode cX12_meanStance 43 = .ok (.istore_n 1, 1) := by decide +kernel
theorem dX12_meanStance_44 : decode cX12_meanStance 44 = .ok (.iinc 2 1, 3) := by decide +kernel
theorem dX12_meanStance_47 : decode cX12_meanStance 47 = .ok (.goto (-22), 3) := by decide +kernel
theorem dX12_meanStance_50 : decode cX12_meanStance 50 = .ok (.iload_n 1, 1) := by decide +kernel
theorem dX12_meanStance_51 : decode cX12_meanStance 51 = .ok (.i2d, 1) := by decide +kernel
theorem dX12_meanStance_52 : decode cX12_meanStance 52 = .ok (.aload_n 0, 1) := by decide +kernel
theorem dX12_meanStance_53 : decode cX12_meanStance 53 = .ok (.getfield 7, 3) := by decide +kernel
theorem dX12_meanStance_56 : decode cX12_meanStance 56 = .ok (.iconst 0, 1) := by decide +kernel
theorem dX12_meanStance_57 : decode cX12_meanStance 57 = .ok (.iaload, 1) := by decide +kernel
theorem dX12_meanStance_58 : decode cX12_meanStance 58 = .ok (.i2d, 1) := by decide +kernel
theorem dX12_meanStance_59 : decode cX12_meanStance 59 = .ok (.ddiv, 1) := by decide +kernel
theorem dX12_meanStance_60 : decode cX12_meanStance 60 = .ok (.dreturn, 1) := by decide +kernel
theorem dX12_adoptedShare_0 : decode cX12_adoptedShare 0 = .ok (.aload_n 0, 1) := by decide +kernel
theorem dX12_adoptedShare_1 : decode cX12_adoptedShare 1 = .ok (.iconst 0, 1) := by decide +kernel
theorem dX12_adoptedShare_2 : decode cX12_adoptedShare 2 = .ok (.putfield 48, 3) := by decide +kernel
theorem dX12_adoptedShare_5 : decode cX12_adoptedShare 5 = .ok (.aload_n 0, 1) := by decide +kernel
theorem dX12_adoptedShare_6 : decode cX12_adoptedShare 6 = .ok (.getfield 7, 3) := by decide +kernel
theorem dX12_adoptedShare_9 : decode cX12_adoptedShare 9 = .ok (.bipush 7, 2) := by decide +kernel
theorem dX12_adoptedShare_11 : decode cX12_adoptedShare 11 = .ok (.iaload, 1) := by decide +kernel
theorem dX12_adoptedShare_12 : decode cX12_adoptedShare 12 = .ok (.ifCond .ne 12, 3) := by decide +kernel
theorem dX12_adoptedShare_15 : decode cX12_adoptedShare 15 = .ok (.aload_n 0, 1) := by decide +kernel
theorem dX12_adoptedShare_16 : decode cX12_adoptedShare 16 = .ok (.iconst 1, 1) := by decide +kernel
theorem dX12_adoptedShare_17 : decode cX12_adoptedShare 17 = .ok (.invokevirtual 82, 3) := by decide +kernel
theorem dX12_adoptedShare_20 : decode cX12_adoptedShare 20 = .ok (.i2f, 1) := by decide +kernel
theorem dX12_adoptedShare_21 : decode cX12_adoptedShare 21 = .ok (.goto 20, 3) := by decide +kernel
theorem dX12_adoptedShare_24 : decode cX12_adoptedShare 24 = .ok (.aload_n 0, 1) := by decide +kernel
theorem dX12_adoptedShare_25 : decode cX12_adoptedShare 25 = .ok (.getfield 7, 3) := by decide +kernel
theorem dX12_adoptedShare_28 : decode cX12_adoptedShare 28 = .ok (.bipush 8, 2) := by decide +kernel
theorem dX12_adoptedShare_30 : decode cX12_adoptedShare 30 = .ok (.iaload, 1) := by decide +kernel
theorem dX12_adoptedShare_31 : decode cX12_adoptedShare 31 = .ok (.i2f, 1) := by decide +kernel
theorem dX12_adoptedShare_32 : decode cX12_adoptedShare 32 = .ok (.aload_n 0, 1) := by decide +kernel
theorem dX12_adoptedShare_33 : decode cX12_adoptedShare 33 = .ok (.getfield 7, 3) := by decide +kernel
theorem dX12_adoptedShare_36 : decode cX12_adoptedShare 36 = .ok (.bipush 7, 2) := by decide +kernel
theorem dX12_adoptedShare_38 : decode cX12_adoptedShare 38 = .ok (.iaload, 1) := by decide +kernel
theorem dX12_adoptedShare_39 : decode cX12_adoptedShare 39 = .ok (.i2f, 1) := by decide +kernel
theorem dX12_adoptedShare_40 : decode cX12_adoptedShare 40 = .ok (.fdiv, 1) := by decide +kernel
theorem dX12_adoptedShare_41 : decode cX12_adoptedShare 41 = .ok (.freturn, 1) := by decide +kernel
theorem dX12_isConsistent_0 : decode cX12_isConsistent 0 = .ok (.aload_n 0, 1) := by decide +kernel
theorem dX12_isConsistent_1 : decode cX12_isConsistent 1 = .ok (.invokevirtual 270, 3) := by decide +kernel
theorem dX12_isConsistent_4 : decode cX12_isConsistent 4 = .ok (.aload_n 0, 1) := by decide +kernel
theorem dX12_isConsistent_5 : decode cX12_isConsistent 5 = .ok (.invokevirtual 273, 3) := by decide +kernel
theorem dX12_isConsistent_8 : decode cX12_isConsistent 8 = .ok (.if_icmp .ne 7, 3) := by decide +kernel
theorem dX12_isConsistent_11 : decode cX12_isConsistent 11 = .ok (.iconst 1, 1) := by decide +kernel
theorem dX12_isConsistent_12 : decode cX12_isConsistent 12 = .ok (.goto 4, 3) := by decide +kernel
theorem dX12_isConsistent_15 : decode cX12_isConsistent 15 = .ok (.iconst 0, 1) := by decide +kernel
theorem dX12_isConsistent_16 : decode cX12_isConsistent 16 = .ok (.ireturn, 1) := by decide +kernel
theorem dX12_writes_0 : decode cX12_writes 0 = .ok (.aload_n 0, 1) := by decide +kernel
theorem dX12_writes_1 : decode cX12_writes 1 = .ok (.getfield 31, 3) := by decide +kernel
theorem dX12_writes_4 : decode cX12_writes 4 = .ok (.aload_n 0, 1) := by decide +kernel
theorem dX12_writes_5 : decode cX12_writes 5 = .ok (.getfield 276, 3) := by decide +kernel
theorem dX12_writes_8 : decode cX12_writes 8 = .ok (.iload_n 1, 1) := by decide +kernel
theorem dX12_writes_9 : decode cX12_writes 9 = .ok (.i2c, 1) := by decide +kernel
theorem dX12_writes_10 : decode cX12_writes 10 = .ok (.castore, 1) := by decide +kernel
theorem dX12_writes_11 : decode cX12_writes 11 = .ok (.aload_n 0, 1) := by decide +kernel
theorem dX12_writes_12 : decode cX12_writes 12 = .ok (.dup, 1) := by decide +kernel
theorem dX12_writes_13 : decode cX12_writes 13 = .ok (.getfield 276, 3) := by decide +kernel
theorem dX12_writes_16 : decode cX12_writes 16 = .ok (.iconst 1, 1) := by decide +kernel
theorem dX12_writes_17 : decode cX12_writes 17 = .ok (.iadd, 1) := by decide +kernel
theorem dX12_writes_18 : decode cX12_writes 18 = .ok (.putfield 276, 3) := by decide +kernel
theorem dX12_writes_21 : decode cX12_writes 21 = .ok (.return_, 1) := by decide +kernel
theorem dX12_writesNumber_0 : decode cX12_writesNumber 0 = .ok (.iload_n 1, 1) := by decide +kernel
theorem dX12_writesNumber_1 : decode cX12_writesNumber 1 = .ok (.ifCond .ge 9, 3) := by decide +kernel
theorem dX12_writesNumber_4 : decode cX12_writesNumber 4 = .ok (.aload_n 0, 1) := by decide +kernel
theorem dX12_writesNumber_5 : decode cX12_writesNumber 5 = .ok (.bipush 45, 2) := by decide +kernel
theorem dX12_writesNumber_7 : decode cX12_writesNumber 7 = .ok (.invokevirtual 279, 3) := by decide +kernel
theorem dX12_writesNumber_10 : decode cX12_writesNumber 10 = .ok (.iload_n 1, 1) := by decide +kernel
theorem dX12_writesNumber_11 : decode cX12_writesNumber 11 = .ok (.ifCond .ge 8, 3) := by decide +kernel
theorem dX12_writesNumber_14 : decode cX12_writesNumber 14 = .ok (.iload_n 1, 1) := by decide +kernel
theorem dX12_writesNumber_15 : decode cX12_writesNumber 15 = .ok (.ineg, 1) := by decide +kernel
theorem dX12_writesNumber_16 : decode cX12_writesNumber 16 = .ok (.goto 4, 3) := by decide +kernel
theorem dX12_writesNumber_19 : decode cX12_writesNumber 19 = .ok (.iload_n 1, 1) := by decide +kernel
theorem dX12_writesNumber_20 : decode cX12_writesNumber 20 = .ok (.istore_n 2, 1) := by decide +kernel
theorem dX12_writesNumber_21 : decode cX12_writesNumber 21 = .ok (.iconst 1, 1) := by decide +kernel
theorem dX12_writesNumber_22 : decode cX12_writesNumber 22 = .ok (.istore_n 3, 1) := by decide +kernel
theorem dX12_writesNumber_23 : decode cX12_writesNumber 23 = .ok (.iload_n 2, 1) := by decide +kernel
theorem dX12_writesNumber_24 : decode cX12_writesNumber 24 = .ok (.iload_n 3, 1) := by decide +kernel
theorem dX12_writesNumber_25 : decode cX12_writesNumber 25 = .ok (.idiv, 1) := by decide +kernel
theorem dX12_writesNumber_26 : decode cX12_writesNumber 26 = .ok (.bipush 9, 2) := by decide +kernel
theorem dX12_writesNumber_28 : decode cX12_writesNumber 28 = .ok (.if_icmp .le 11, 3) := by decide +kernel
theorem dX12_writesNumber_31 : decode cX12_writesNumber 31 = .ok (.iload_n 3, 1) := by decide +kernel
theorem dX12_writesNumber_32 : decode cX12_writesNumber 32 = .ok (.bipush 10, 2) := by decide +kernel
theorem dX12_writesNumber_34 : decode cX12_writesNumber 34 = .ok (.imul, 1) := by decide +kernel
theorem dX12_writesNumber_35 : decode cX12_writesNumber 35 = .ok (.istore_n 3, 1) := by decide +kernel
theorem dX12_writesNumber_36 : decode cX12_writesNumber 36 = .ok (.goto (-13), 3) := by decide +kernel
theorem dX12_writesNumber_39 : decode cX12_writesNumber 39 = .ok (.iload_n 3, 1) := by decide +kernel
theorem dX12_writesNumber_40 : decode cX12_writesNumber 40 = .ok (.istore 4, 2) := by decide +kernel
theorem dX12_writesNumber_42 : decode cX12_writesNumber 42 = .ok (.iload 4, 2) := by decide +kernel
theorem dX12_writesNumber_44 : decode cX12_writesNumber 44 = .ok (.ifCond .le 27, 3) := by decide +kernel
theorem dX12_writesNumber_47 : decode cX12_writesNumber 47 = .ok (.aload_n 0, 1) := by decide +kernel
theorem dX12_writesNumber_48 : decode cX12_writesNumber 48 = .ok (.bipush 48, 2) := by decide +kernel
theorem dX12_writesNumber_50 : decode cX12_writesNumber 50 = .ok (.iload_n 2, 1) := by decide +kernel
theorem dX12_writesNumber_51 : decode cX12_writesNumber 51 = .ok (.iload 4, 2) := by decide +kernel
theorem dX12_writesNumber_53 : decode cX12_writesNumber 53 = .ok (.idiv, 1) := by decide +kernel
theorem dX12_writesNumber_54 : decode cX12_writesNumber 54 = .ok (.bipush 10, 2) := by decide +kernel
theorem dX12_writesNumber_56 : decode cX12_writesNumber 56 = .ok (.irem, 1) := by decide +kernel
theorem dX12_writesNumber_57 : decode cX12_writesNumber 57 = .ok (.iadd, 1) := by decide +kernel
theorem dX12_writesNumber_58 : decode cX12_writesNumber 58 = .ok (.invokevirtual 279, 3) := by decide +kernel
theorem dX12_writesNumber_61 : decode cX12_writesNumber 61 = .ok (.iload 4, 2) := by decide +kernel
theorem dX12_writesNumber_63 : decode cX12_writesNumber 63 = .ok (.bipush 10, 2) := by decide +kernel
theorem dX12_writesNumber_65 : decode cX12_writesNumber 65 = .ok (.idiv, 1) := by decide +kernel
theorem dX12_writesNumber_66 : decode cX12_writesNumber 66 = .ok (.istore 4, 2) := by decide +kernel
theorem dX12_writesNumber_68 : decode cX12_writesNumber 68 = .ok (.goto (-26), 3) := by decide +kernel
theorem dX12_writesNumber_71 : decode cX12_writesNumber 71 = .ok (.return_, 1) := by decide +kernel
theorem dX12_renderTable_0 : decode cX12_renderTable 0 = .ok (.aload_n 0, 1) := by decide +kernel
theorem dX12_renderTable_1 : decode cX12_renderTable 1 = .ok (.iconst 0, 1) := by decide +kernel
theorem dX12_renderTable_2 : decode cX12_renderTable 2 = .ok (.putfield 48, 3) := by decide +kernel
theorem dX12_renderTable_5 : decode cX12_renderTable 5 = .ok (.aload_n 0, 1) := by decide +kernel
theorem dX12_renderTable_6 : decode cX12_renderTable 6 = .ok (.iconst 0, 1) := by decide +kernel
theorem dX12_renderTable_7 : decode cX12_renderTable 7 = .ok (.putfield 276, 3) := by decide +kernel
theorem dX12_renderTable_10 : decode cX12_renderTable 10 = .ok (.iconst 0, 1) := by decide +kernel
theorem dX12_renderTable_11 : decode cX12_renderTable 11 = .ok (.istore_n 1, 1) := by decide +kernel
theorem dX12_renderTable_12 : decode cX12_renderTable 12 = .ok (.iload_n 1, 1) := by decide +kernel
theorem dX12_renderTable_13 : decode cX12_renderTable 13 = .ok (.aload_n 0, 1) := by decide +kernel
theorem dX12_renderTable_14 : decode cX12_renderTable 14 = .ok (.getfield 7, 3) := by decide +kernel
theorem dX12_renderTable_17 : decode cX12_renderTable 17 = .ok (.iconst 3, 1) := by decide +kernel
theorem dX12_renderTable_18 : decode cX12_renderTable 18 = .ok (.iaload, 1) := by decide +kernel
theorem dX12_renderTable_19 : decode cX12_renderTable 19 = .ok (.if_icmp .ge 72, 3) := by decide +kernel
theorem dX12_renderTable_22 : decode cX12_renderTable 22 = .ok (.aload_n 0, 1) := by decide +kernel
theorem dX12_renderTable_23 : decode cX12_renderTable 23 = .ok (.aload_n 0, 1) := by decide +kernel
theorem dX12_renderTable_24 : decode cX12_renderTable 24 = .ok (.getfield 7, 3) := by decide +kernel
theorem dX12_renderTable_27 : decode cX12_renderTable 27 = .ok (.bipush 55, 2) := by decide +kernel
theorem dX12_renderTable_29 : decode cX12_renderTable 29 = .ok (.iload_n 1, 1) := by decide +kernel
theorem dX12_renderTable_30 : decode cX12_renderTable 30 = .ok (.iadd, 1) := by decide +kernel
theorem dX12_renderTable_31 : decode cX12_renderTable 31 = .ok (.iaload, 1) := by decide +kernel
theorem dX12_renderTable_32 : decode cX12_renderTable 32 = .ok (.invokestatic 240, 3) := by decide +kernel
theorem dX12_renderTable_35 : decode cX12_renderTable 35 = .ok (.invokevirtual 279, 3) := by decide +kernel
theorem dX12_renderTable_38 : decode cX12_renderTable 38 = .ok (.aload_n 0, 1) := by decide +kernel
theorem dX12_renderTable_39 : decode cX12_renderTable 39 = .ok (.getfield 7, 3) := by decide +kernel
theorem dX12_renderTable_42 : decode cX12_renderTable 42 = .ok (.bipush 55, 2) := by decide +kernel
theorem dX12_renderTable_44 : decode cX12_renderTable 44 = .ok (.iload_n 1, 1) := by decide +kernel
theorem dX12_renderTable_45 : decode cX12_renderTable 45 = .ok (.iadd, 1) := by decide +kernel
theorem dX12_renderTable_46 : decode cX12_renderTable 46 = .ok (.iaload, 1) := by decide +kernel
theorem dX12_renderTable_47 : decode cX12_renderTable 47 = .ok (.ifCond .ne 14, 3) := by decide +kernel
theorem dX12_renderTable_50 : decode cX12_renderTable 50 = .ok (.aload_n 0, 1) := by decide +kernel
theorem dX12_renderTable_51 : decode cX12_renderTable 51 = .ok (.aload_n 0, 1) := by decide +kernel
theorem dX12_renderTable_52 : decode cX12_renderTable 52 = .ok (.getfield 7, 3) := by decide +kernel
theorem dX12_renderTable_55 : decode cX12_renderTable 55 = .ok (.bipush 60, 2) := by decide +kernel
theorem dX12_renderTable_57 : decode cX12_renderTable 57 = .ok (.iaload, 1) := by decide +kernel
theorem dX12_renderTable_58 : decode cX12_renderTable 58 = .ok (.invokevirtual 282, 3) := by decide +kernel
theorem dX12_renderTable_61 : decode cX12_renderTable 61 = .ok (.aload_n 0, 1) := by decide +kernel
theorem dX12_renderTable_62 : decode cX12_renderTable 62 = .ok (.getfield 7, 3) := by decide +kernel
theorem dX12_renderTable_65 : decode cX12_renderTable 65 = .ok (.bipush 55, 2) := by decide +kernel
theorem dX12_renderTable_67 : decode cX12_renderTable 67 = .ok (.iload_n 1, 1) := by decide +kernel
theorem dX12_renderTable_68 : decode cX12_renderTable 68 = .ok (.iadd, 1) := by decide +kernel
theorem dX12_renderTable_69 : decode cX12_renderTable 69 = .ok (.iaload, 1) := by decide +kernel
theorem dX12_renderTable_70 : decode cX12_renderTable 70 = .ok (.iconst 1, 1) := by decide +kernel
theorem dX12_renderTable_71 : decode cX12_renderTable 71 = .ok (.if_icmp .ne 14, 3) := by decide +kernel
theorem dX12_renderTable_74 : decode cX12_renderTable 74 = .ok (.aload_n 0, 1) := by decide +kernel
theorem dX12_renderTable_75 : decode cX12_renderTable 75 = .ok (.aload_n 0, 1) := by decide +kernel
theorem dX12_renderTable_76 : decode cX12_renderTable 76 = .ok (.getfield 7, 3) := by decide +kernel
theorem dX12_renderTable_79 : decode cX12_renderTable 79 = .ok (.bipush 61, 2) := by decide +kernel
theorem dX12_renderTable_81 : decode cX12_renderTable 81 = .ok (.iaload, 1) := by decide +kernel
theorem dX12_renderTable_82 : decode cX12_renderTable 82 = .ok (.invokevirtual 282, 3) := by decide +kernel
theorem dX12_renderTable_85 : decode cX12_renderTable 85 = .ok (.iinc 1 1, 3) := by decide +kernel
theorem dX12_renderTable_88 : decode cX12_renderTable 88 = .ok (.goto (-76), 3) := by decide +kernel
theorem dX12_renderTable_91 : decode cX12_renderTable 91 = .ok (.aload_n 0, 1) := by decide +kernel
theorem dX12_renderTable_92 : decode cX12_renderTable 92 = .ok (.getfield 7, 3) := by decide +kernel
theorem dX12_renderTable_95 : decode cX12_renderTable 95 = .ok (.iconst 4, 1) := by decide +kernel
theorem dX12_renderTable_96 : decode cX12_renderTable 96 = .ok (.iaload, 1) := by decide +kernel
theorem dX12_renderTable_97 : decode cX12_renderTable 97 = .ok (.iconst 1, 1) := by decide +kernel
theorem dX12_renderTable_98 : decode cX12_renderTable 98 = .ok (.if_icmp .ne 9, 3) := by decide +kernel
theorem dX12_renderTable_101 : decode cX12_renderTable 101 = .ok (.aload_n 0, 1) := by decide +kernel
theorem dX12_renderTable_102 : decode cX12_renderTable 102 = .ok (.bipush 33, 2) := by decide +kernel
theorem dX12_renderTable_104 : decode cX12_renderTable 104 = .ok (.invokevirtual 279, 3) := by decide +kernel
theorem dX12_renderTable_107 : decode cX12_renderTable 107 = .ok (.aload_n 0, 1) := by decide +kernel
theorem dX12_renderTable_108 : decode cX12_renderTable 108 = .ok (.getfield 276, 3) := by decide +kernel
theorem dX12_renderTable_111 : decode cX12_renderTable 111 = .ok (.ireturn, 1) := by decide +kernel
theorem dX12_renderList_0 : decode cX12_renderList 0 = .ok (.aload_n 0, 1) := by decide +kernel
theorem dX12_renderList_1 : decode cX12_renderList 1 = .ok (.iconst 0, 1) := by decide +kernel
theorem dX12_renderList_2 : decode cX12_renderList 2 = .ok (.putfield 48, 3) := by decide +kernel
theorem dX12_renderList_5 : decode cX12_renderList 5 = .ok (.aload_n 0, 1) := by decide +kernel
theorem dX12_renderList_6 : decode cX12_renderList 6 = .ok (.iconst 0, 1) := by decide +kernel
theorem dX12_renderList_7 : decode cX12_renderList 7 = .ok (.putfield 276, 3) := by decide +kernel
theorem dX12_renderList_10 : decode cX12_renderList 10 = .ok (.iconst 0, 1) := by decide +kernel
theorem dX12_renderList_11 : decode cX12_renderList 11 = .ok (.istore_n 1, 1) := by decide +kernel
theorem dX12_renderList_12 : decode cX12_renderList 12 = .ok (.iload_n 1, 1) := by decide +kernel
theorem dX12_renderList_13 : decode cX12_renderList 13 = .ok (.aload_n 0, 1) := by decide +kernel
theorem dX12_renderList_14 : decode cX12_renderList 14 = .ok (.getfield 7, 3) := by decide +kernel
theorem dX12_renderList_17 : decode cX12_renderList 17 = .ok (.iconst 1, 1) := by decide +kernel
theorem dX12_renderList_18 : decode cX12_renderList 18 = .ok (.iaload, 1) := by decide +kernel
theorem dX12_renderList_19 : decode cX12_renderList 19 = .ok (.if_icmp .ge 43, 3) := by decide +kernel
theorem dX12_renderList_22 : decode cX12_renderList 22 = .ok (.iload_n 1, 1) := by decide +kernel
theorem dX12_renderList_23 : decode cX12_renderList 23 = .ok (.ifCond .le 9, 3) := by decide +kernel
theorem dX12_renderList_26 : decode cX12_renderList 26 = .ok (.aload_n 0, 1) := by decide +kernel
theorem dX12_renderList_27 : decode cX12_renderList 27 = .ok (.bipush 44, 2) := by decide +kernel
theorem dX12_renderList_29 : decode cX12_renderList 29 = .ok (.invokevirtual 279, 3) := by decide +kernel
theorem dX12_renderList_32 : decode cX12_renderList 32 = .ok (.aload_n 0, 1) := by decide +kernel
theorem dX12_renderList_33 : decode cX12_renderList 33 = .ok (.aload_n 0, 1) := by decide +kernel
theorem dX12_renderList_34 : decode cX12_renderList 34 = .ok (.iload_n 1, 1) := by decide +kernel
theorem dX12_renderList_35 : decode cX12_renderList 35 = .ok (.invokevirtual 67, 3) := by decide +kernel
theorem dX12_renderList_38 : decode cX12_renderList 38 = .ok (.invokevirtual 282, 3) := by decide +kernel
theorem dX12_renderList_41 : decode cX12_renderList 41 = .ok (.aload_n 0, 1) := by decide +kernel
theorem dX12_renderList_42 : decode cX12_renderList 42 = .ok (.bipush 64, 2) := by decide +kernel
theorem dX12_renderList_44 : decode cX12_renderList 44 = .ok (.invokevirtual 279, 3) := by decide +kernel
theorem dX12_renderList_47 : decode cX12_renderList 47 = .ok (.aload_n 0, 1) := by decide +kernel
theorem dX12_renderList_48 : decode cX12_renderList 48 = .ok (.aload_n 0, 1) := by decide +kernel
theorem dX12_renderList_49 : decode cX12_renderList 49 = .ok (.iload_n 1, 1) := by decide +kernel
theorem dX12_renderList_50 : decode cX12_renderList 50 = .ok (.invokevirtual 141, 3) := by decide +kernel
theorem dX12_renderList_53 : decode cX12_renderList 53 = .ok (.invokevirtual 282, 3) := by decide +kernel
theorem dX12_renderList_56 : decode cX12_renderList 56 = .ok (.iinc 1 1, 3) := by decide +kernel
theorem dX12_renderList_59 : decode cX12_renderList 59 = .ok (.goto (-47), 3) := by decide +kernel
theorem dX12_renderList_62 : decode cX12_renderList 62 = .ok (.aload_n 0, 1) := by decide +kernel
theorem dX12_renderList_63 : decode cX12_renderList 63 = .ok (.getfield 276, 3) := by decide +kernel
theorem dX12_renderList_66 : decode cX12_renderList 66 = .ok (.ireturn, 1) := by decide +kernel
theorem dX12_outputAt_0 : decode cX12_outputAt 0 = .ok (.aload_n 0, 1) := by decide +kernel
theorem dX12_outputAt_1 : decode cX12_outputAt 1 = .ok (.iconst 0, 1) := by decide +kernel
theorem dX12_outputAt_2 : decode cX12_outputAt 2 = .ok (.putfield 48, 3) := by decide +kernel
theorem dX12_outputAt_5 : decode cX12_outputAt 5 = .ok (.iload_n 1, 1) := by decide +kernel
theorem dX12_outputAt_6 : decode cX12_outputAt 6 = .ok (.iconst 0, 1) := by decide +kernel
theorem dX12_outputAt_7 : decode cX12_outputAt 7 = .ok (.aload_n 0, 1) := by decide +kernel
theorem dX12_outputAt_8 : decode cX12_outputAt 8 = .ok (.getfield 276, 3) := by decide +kernel
theorem dX12_outputAt_11 : decode cX12_outputAt 11 = .ok (.iconst 1, 1) := by decide +kernel
theorem dX12_outputAt_12 : decode cX12_outputAt 12 = .ok (.isub, 1) := by decide +kernel
theorem dX12_outputAt_13 : decode cX12_outputAt 13 = .ok (.invokestatic 63, 3) := by decide +kernel
theorem dX12_outputAt_16 : decode cX12_outputAt 16 = .ok (.ifCond .eq 10, 3) := by decide +kernel
theorem dX12_outputAt_19 : decode cX12_outputAt 19 = .ok (.aload_n 0, 1) := by decide +kernel
theorem dX12_outputAt_20 : decode cX12_outputAt 20 = .ok (.getfield 31, 3) := by decide +kernel
theorem dX12_outputAt_23 : decode cX12_outputAt 23 = .ok (.iload_n 1, 1) := by decide +kernel
theorem dX12_outputAt_24 : decode cX12_outputAt 24 = .ok (.caload, 1) := by decide +kernel
theorem dX12_outputAt_25 : decode cX12_outputAt 25 = .ok (.ireturn, 1) := by decide +kernel
theorem dX12_outputAt_26 : decode cX12_outputAt 26 = .ok (.aload_n 0, 1) := by decide +kernel
theorem dX12_outputAt_27 : decode cX12_outputAt 27 = .ok (.iconst 1, 1) := by decide +kernel
theorem dX12_outputAt_28 : decode cX12_outputAt 28 = .ok (.invokevirtual 82, 3) := by decide +kernel
theorem dX12_outputAt_31 : decode cX12_outputAt 31 = .ok (.i2c, 1) := by decide +kernel
theorem dX12_outputAt_32 : decode cX12_outputAt 32 = .ok (.ireturn, 1) := by decide +kernel
theorem dX12_type_0 : decode cX12_type 0 = .ok (.aload_n 0, 1) := by decide +kernel
theorem dX12_type_1 : decode cX12_type 1 = .ok (.iconst 0, 1) := by decide +kernel
theorem dX12_type_2 : decode cX12_type 2 = .ok (.putfield 48, 3) := by decide +kernel
theorem dX12_type_5 : decode cX12_type 5 = .ok (.iload_n 1, 1) := by decide +kernel
theorem dX12_type_6 : decode cX12_type 6 = .ok (.bipush 32, 2) := by decide +kernel
theorem dX12_type_8 : decode cX12_type 8 = .ok (.bipush 126, 2) := by decide +kernel
theorem dX12_type_10 : decode cX12_type 10 = .ok (.invokestatic 63, 3) := by decide +kernel
theorem dX12_type_13 : decode cX12_type 13 = .ok (.ifCond .ne 9, 3) := by decide +kernel
theorem dX12_type_16 : decode cX12_type 16 = .ok (.aload_n 0, 1) := by decide +kernel
theorem dX12_type_17 : decode cX12_type 17 = .ok (.iconst 1, 1) := by decide +kernel
theorem dX12_type_18 : decode cX12_type 18 = .ok (.invokevirtual 82, 3) := by decide +kernel
theorem dX12_type_21 : decode cX12_type 21 = .ok (.ireturn, 1) := by decide +kernel
theorem dX12_type_22 : decode cX12_type 22 = .ok (.aload_n 0, 1) := by decide +kernel
theorem dX12_type_23 : decode cX12_type 23 = .ok (.getfield 285, 3) := by decide +kernel
theorem dX12_type_26 : decode cX12_type 26 = .ok (.bipush 60, 2) := by decide +kernel
theorem dX12_type_28 : decode cX12_type 28 = .ok (.if_icmp .ne 9, 3) := by decide +kernel
theorem dX12_type_31 : decode cX12_type 31 = .ok (.aload_n 0, 1) := by decide +kernel
theorem dX12_type_32 : decode cX12_type 32 = .ok (.iconst 2, 1) := by decide +kernel
theorem dX12_type_33 : decode cX12_type 33 = .ok (.invokevirtual 82, 3) := by decide +kernel
theorem dX12_type_36 : decode cX12_type 36 = .ok (.ireturn, 1) := by decide +kernel
theorem dX12_type_37 : decode cX12_type 37 = .ok (.aload_n 0, 1) := by decide +kernel
theorem dX12_type_38 : decode cX12_type 38 = .ok (.getfield 35, 3) := by decide +kernel
theorem dX12_type_41 : decode cX12_type 41 = .ok (.aload_n 0, 1) := by decide +kernel
theorem dX12_type_42 : decode cX12_type 42 = .ok (.getfield 285, 3) := by decide +kernel
theorem dX12_type_45 : decode cX12_type 45 = .ok (.iload_n 1, 1) := by decide +kernel
theorem dX12_type_46 : decode cX12_type 46 = .ok (.castore, 1) := by decide +kernel
theorem dX12_type_47 : decode cX12_type 47 = .ok (.aload_n 0, 1) := by decide +kernel
theorem dX12_type_48 : decode cX12_type 48 = .ok (.dup, 1) := by decide +kernel
theorem dX12_type_49 : decode cX12_type 49 = .ok (.getfield 285, 3) := by decide +kernel
theorem dX12_type_52 : decode cX12_type 52 = .ok (.iconst 1, 1) := by decide +kernel
theorem dX12_type_53 : decode cX12_type 53 = .ok (.iadd, 1) := by decide +kernel
theorem dX12_type_54 : decode cX12_type 54 = .ok (.putfield 285, 3) := by decide +kernel
theorem dX12_type_57 : decode cX12_type 57 = .ok (.aload_n 0, 1) := by decide +kernel
theorem dX12_type_58 : decode cX12_type 58 = .ok (.getfield 285, 3) := by decide +kernel
theorem dX12_type_61 : decode cX12_type 61 = .ok (.ireturn, 1) := by decide +kernel
theorem dX12_nextChar_0 : decode cX12_nextChar 0 = .ok (.aload_n 0, 1) := by decide +kernel
theorem dX12_nextChar_1 : decode cX12_nextChar 1 = .ok (.getfield 288, 3) := by decide +kernel
theorem dX12_nextChar_4 : decode cX12_nextChar 4 = .ok (.aload_n 0, 1) := by decide +kernel
theorem dX12_nextChar_5 : decode cX12_nextChar 5 = .ok (.getfield 285, 3) := by decide +kernel
theorem dX12_nextChar_8 : decode cX12_nextChar 8 = .ok (.if_icmp .ge 15, 3) := by decide +kernel
theorem dX12_nextChar_11 : decode cX12_nextChar 11 = .ok (.aload_n 0, 1) := by decide +kernel
theorem dX12_nextChar_12 : decode cX12_nextChar 12 = .ok (.getfield 35, 3) := by decide +kernel
theorem dX12_nextChar_15 : decode cX12_nextChar 15 = .ok (.aload_n 0, 1) := by decide +kernel
theorem dX12_nextChar_16 : decode cX12_nextChar 16 = .ok (.getfield 288, 3) := by decide +kernel
theorem dX12_nextChar_19 : decode cX12_nextChar 19 = .ok (.caload, 1) := by decide +kernel
theorem dX12_nextChar_20 : decode cX12_nextChar 20 = .ok (.goto 4, 3) := by decide +kernel
theorem dX12_nextChar_23 : decode cX12_nextChar 23 = .ok (.iconst (-1), 1) := by decide +kernel
theorem dX12_nextChar_24 : decode cX12_nextChar 24 = .ok (.ireturn, 1) := by decide +kernel
theorem dX12_reads_0 : decode cX12_reads 0 = .ok (.aload_n 0, 1) := by decide +kernel
theorem dX12_reads_1 : decode cX12_reads 1 = .ok (.invokevirtual 291, 3) := by decide +kernel
theorem dX12_reads_4 : decode cX12_reads 4 = .ok (.iload_n 1, 1) := by decide +kernel
theorem dX12_reads_5 : decode cX12_reads 5 = .ok (.if_icmp .eq 5, 3) := by decide +kernel
theorem dX12_reads_8 : decode cX12_reads 8 = .ok (.iconst 0, 1) := by decide +kernel
theorem dX12_reads_9 : decode cX12_reads 9 = .ok (.ireturn, 1) := by decide +kernel
theorem dX12_reads_10 : decode cX12_reads 10 = .ok (.aload_n 0, 1) := by decide +kernel
theorem dX12_reads_11 : decode cX12_reads 11 = .ok (.dup, 1) := by decide +kernel
theorem dX12_reads_12 : decode cX12_reads 12 = .ok (.getfield 288, 3) := by decide +kernel
theorem dX12_reads_15 : decode cX12_reads 15 = .ok (.iconst 1, 1) := by decide +kernel
theorem dX12_reads_16 : decode cX12_reads 16 = .ok (.iadd, 1) := by decide +kernel
theorem dX12_reads_17 : decode cX12_reads 17 = .ok (.putfield 288, 3) := by decide +kernel
theorem dX12_reads_20 : decode cX12_reads 20 = .ok (.iconst 1, 1) := by decide +kernel
theorem dX12_reads_21 : decode cX12_reads 21 = .ok (.ireturn, 1) := by decide +kernel
theorem dX12_readsDigit_0 : decode cX12_readsDigit 0 = .ok (.aload_n 0, 1) := by decide +kernel
theorem dX12_readsDigit_1 : decode cX12_readsDigit 1 = .ok (.invokevirtual 291, 3) := by decide +kernel
theorem dX12_readsDigit_4 : decode cX12_readsDigit 4 = .ok (.bipush 48, 2) := by decide +kernel
theorem dX12_readsDigit_6 : decode cX12_readsDigit 6 = .ok (.bipush 57, 2) := by decide +kernel
theorem dX12_readsDigit_8 : decode cX12_readsDigit 8 = .ok (.invokestatic 63, 3) := by decide +kernel
theorem dX12_readsDigit_11 : decode cX12_readsDigit 11 = .ok (.ifCond .ne 5, 3) := by decide +kernel
theorem dX12_readsDigit_14 : decode cX12_readsDigit 14 = .ok (.iconst 0, 1) := by decide +kernel
theorem dX12_readsDigit_15 : decode cX12_readsDigit 15 = .ok (.ireturn, 1) := by decide +kernel
theorem dX12_readsDigit_16 : decode cX12_readsDigit 16 = .ok (.aload_n 0, 1) := by decide +kernel
theorem dX12_readsDigit_17 : decode cX12_readsDigit 17 = .ok (.getfield 45, 3) := by decide +kernel
theorem dX12_readsDigit_20 : decode cX12_readsDigit 20 = .ok (.iload_n 1, 1) := by decide +kernel
theorem dX12_readsDigit_21 : decode cX12_readsDigit 21 = .ok (.aload_n 0, 1) := by decide +kernel
theorem dX12_readsDigit_22 : decode cX12_readsDigit 22 = .ok (.invokevirtual 291, 3) := by decide +kernel
theorem dX12_readsDigit_25 : decode cX12_readsDigit 25 = .ok (.bipush 48, 2) := by decide +kernel
theorem dX12_readsDigit_27 : decode cX12_readsDigit 27 = .ok (.isub, 1) := by decide +kernel
theorem dX12_readsDigit_28 : decode cX12_readsDigit 28 = .ok (.iastore, 1) := by decide +kernel
theorem dX12_readsDigit_29 : decode cX12_readsDigit 29 = .ok (.aload_n 0, 1) := by decide +kernel
theorem dX12_readsDigit_30 : decode cX12_readsDigit 30 = .ok (.dup, 1) := by decide +kernel
theorem dX12_readsDigit_31 : decode cX12_readsDigit 31 = .ok (.getfield 288, 3) := by decide +kernel
theorem dX12_readsDigit_34 : decode cX12_readsDigit 34 = .ok (.iconst 1, 1) := by decide +kernel
theorem dX12_readsDigit_35 : decode cX12_readsDigit 35 = .ok (.iadd, 1) := by decide +kernel
theorem dX12_readsDigit_36 : decode cX12_readsDigit 36 = .ok (.putfield 288, 3) := by decide +kernel
theorem dX12_readsDigit_39 : decode cX12_readsDigit 39 = .ok (.iconst 1, 1) := by decide +kernel
theorem dX12_readsDigit_40 : decode cX12_readsDigit 40 = .ok (.ireturn, 1) := by decide +kernel
theorem dX12_readsNumber_0 : decode cX12_readsNumber 0 = .ok (.aload_n 0, 1) := by decide +kernel
theorem dX12_readsNumber_1 : decode cX12_readsNumber 1 = .ok (.iload_n 1, 1) := by decide +kernel
theorem dX12_readsNumber_2 : decode cX12_readsNumber 2 = .ok (.invokevirtual 294, 3) := by decide +kernel
theorem dX12_readsNumber_5 : decode cX12_readsNumber 5 = .ok (.ifCond .ne 5, 3) := by decide +kernel
theorem dX12_readsNumber_8 : decode cX12_readsNumber 8 = .ok (.iconst 0, 1) := by decide +kernel
theorem dX12_readsNumber_9 : decode cX12_readsNumber 9 = .ok (.ireturn, 1) := by decide +kernel
theorem dX12_readsNumber_10 : decode cX12_readsNumber 10 = .ok (.aload_n 0, 1) := by decide +kernel
theorem dX12_readsNumber_11 : decode cX12_readsNumber 11 = .ok (.invokevirtual 291, 3) := by decide +kernel
theorem dX12_readsNumber_14 : decode cX12_readsNumber 14 = .ok (.bipush 48, 2) := by decide +kernel
theorem dX12_readsNumber_16 : decode cX12_readsNumber 16 = .ok (.bipush 57, 2) := by decide +kernel
theorem dX12_readsNumber_18 : decode cX12_readsNumber 18 = .ok (.invokestatic 63, 3) := by decide +kernel
theorem dX12_readsNumber_21 : decode cX12_readsNumber 21 = .ok (.ifCond .ne 5, 3) := by decide +kernel
theorem dX12_readsNumber_24 : decode cX12_readsNumber 24 = .ok (.iconst 1, 1) := by decide +kernel
theorem dX12_readsNumber_25 : decode cX12_readsNumber 25 = .ok (.ireturn, 1) := by decide +kernel
theorem dX12_readsNumber_26 : decode cX12_readsNumber 26 = .ok (.aload_n 0, 1) := by decide +kernel
theorem dX12_readsNumber_27 : decode cX12_readsNumber 27 = .ok (.getfield 45, 3) := by decide +kernel
theorem dX12_readsNumber_30 : decode cX12_readsNumber 30 = .ok (.iload_n 1, 1) := by decide +kernel
theorem dX12_readsNumber_31 : decode cX12_readsNumber 31 = .ok (.bipush 10, 2) := by decide +kernel
theorem dX12_readsNumber_33 : decode cX12_readsNumber 33 = .ok (.aload_n 0, 1) := by decide +kernel
theorem dX12_readsNumber_34 : decode cX12_readsNumber 34 = .ok (.getfield 45, 3) := by decide +kernel
theorem dX12_readsNumber_37 : decode cX12_readsNumber 37 = .ok (.iload_n 1, 1) := by decide +kernel
theorem dX12_readsNumber_38 : decode cX12_readsNumber 38 = .ok (.iaload, 1) := by decide +kernel
theorem dX12_readsNumber_39 : decode cX12_readsNumber 39 = .ok (.imul, 1) := by decide +kernel
theorem dX12_readsNumber_40 : decode cX12_readsNumber 40 = .ok (.aload_n 0, 1) := by decide +kernel
theorem dX12_readsNumber_41 : decode cX12_readsNumber 41 = .ok (.invokevirtual 291, 3) := by decide +kernel
theorem dX12_readsNumber_44 : decode cX12_readsNumber 44 = .ok (.iadd, 1) := by decide +kernel
theorem dX12_readsNumber_45 : decode cX12_readsNumber 45 = .ok (.bipush 48, 2) := by decide +kernel
theorem dX12_readsNumber_47 : decode cX12_readsNumber 47 = .ok (.isub, 1) := by decide +kernel
theorem dX12_readsNumber_48 : decode cX12_readsNumber 48 = .ok (.iastore, 1) := by decide +kernel
theorem dX12_readsNumber_49 : decode cX12_readsNumber 49 = .ok (.aload_n 0, 1) := by decide +kernel
theorem dX12_readsNumber_50 : decode cX12_readsNumber 50 = .ok (.dup, 1) := by decide +kernel
theorem dX12_readsNumber_51 : decode cX12_readsNumber 51 = .ok (.getfield 288, 3) := by decide +kernel
theorem dX12_readsNumber_54 : decode cX12_readsNumber 54 = .ok (.iconst 1, 1) := by decide +kernel
theorem dX12_readsNumber_55 : decode cX12_readsNumber 55 = .ok (.iadd, 1) := by decide +kernel
theorem dX12_readsNumber_56 : decode cX12_readsNumber 56 = .ok (.putfield 288, 3) := by decide +kernel
theorem dX12_readsNumber_59 : decode cX12_readsNumber 59 = .ok (.iconst 1, 1) := by decide +kernel
theorem dX12_readsNumber_60 : decode cX12_readsNumber 60 = .ok (.ireturn, 1) := by decide +kernel
theorem dX12_readsSp_0 : decode cX12_readsSp 0 = .ok (.aload_n 0, 1) := by decide +kernel
theorem dX12_readsSp_1 : decode cX12_readsSp 1 = .ok (.bipush 111, 2) := by decide +kernel
theorem dX12_readsSp_3 : decode cX12_readsSp 3 = .ok (.invokevirtual 297, 3) := by decide +kernel
theorem dX12_readsSp_6 : decode cX12_readsSp 6 = .ok (.ifCond .eq 61, 3) := by decide +kernel
theorem dX12_readsSp_9 : decode cX12_readsSp 9 = .ok (.aload_n 0, 1) := by decide +kernel
theorem dX12_readsSp_10 : decode cX12_readsSp 10 = .ok (.bipush 111, 2) := by decide +kernel
theorem dX12_readsSp_12 : decode cX12_readsSp 12 = .ok (.invokevirtual 297, 3) := by decide +kernel
theorem dX12_readsSp_15 : decode cX12_readsSp 15 = .ok (.ifCond .eq 50, 3) := by decide +kernel
theorem dX12_readsSp_18 : decode cX12_readsSp 18 = .ok (.aload_n 0, 1) := by decide +kernel
theorem dX12_readsSp_19 : decode cX12_readsSp 19 = .ok (.bipush 110, 2) := by decide +kernel
theorem dX12_readsSp_21 : decode cX12_readsSp 21 = .ok (.invokevirtual 297, 3) := by decide +kernel
theorem dX12_readsSp_24 : decode cX12_readsSp 24 = .ok (.ifCond .eq 41, 3) := by decide +kernel
theorem dX12_readsSp_27 : decode cX12_readsSp 27 = .ok (.aload_n 0, 1) := by decide +kernel
theorem dX12_readsSp_28 : decode cX12_readsSp 28 = .ok (.bipush 32, 2) := by decide +kernel
theorem dX12_readsSp_30 : decode cX12_readsSp 30 = .ok (.invokevirtual 297, 3) := by decide +kernel
theorem dX12_readsSp_33 : decode cX12_readsSp 33 = .ok (.ifCond .eq 32, 3) := by decide +kernel
theorem dX12_readsSp_36 : decode cX12_readsSp 36 = .ok (.aload_n 0, 1) := by decide +kernel
theorem dX12_readsSp_37 : decode cX12_readsSp 37 = .ok (.iconst 0, 1) := by decide +kernel
theorem dX12_readsSp_38 : decode cX12_readsSp 38 = .ok (.invokevirtual 294, 3) := by decide +kernel
theorem dX12_readsSp_41 : decode cX12_readsSp 41 = .ok (.ifCond .eq 24, 3) := by decide +kernel
theorem dX12_readsSp_44 : decode cX12_readsSp 44 = .ok (.aload_n 0, 1) := by decide +kernel
theorem dX12_readsSp_45 : decode cX12_readsSp 45 = .ok (.bipush 32, 2) := by decide +kernel
theorem dX12_readsSp_47 : decode cX12_readsSp 47 = .ok (.invokevirtual 297, 3) := by decide +kernel
theorem dX12_readsSp_50 : decode cX12_readsSp 50 = .ok (.ifCond .eq 15, 3) := by decide +kernel
theorem dX12_readsSp_53 : decode cX12_readsSp 53 = .ok (.aload_n 0, 1) := by decide +kernel
theorem dX12_readsSp_54 : decode cX12_readsSp 54 = .ok (.iconst 1, 1) := by decide +kernel
theorem dX12_readsSp_55 : decode cX12_readsSp 55 = .ok (.invokevirtual 300, 3) := by decide +kernel
theorem dX12_readsSp_58 : decode cX12_readsSp 58 = .ok (.ifCond .eq 7, 3) := by decide +kernel
theorem dX12_readsSp_61 : decode cX12_readsSp 61 = .ok (.iconst 1, 1) := by decide +kernel
theorem dX12_readsSp_62 : decode cX12_readsSp 62 = .ok (.goto 4, 3) := by decide +kernel
theorem dX12_readsSp_65 : decode cX12_readsSp 65 = .ok (.iconst 0, 1) := by decide +kernel
theorem dX12_readsSp_66 : decode cX12_readsSp 66 = .ok (.ireturn, 1) := by decide +kernel
theorem dX12_readsSp_67 : decode cX12_readsSp 67 = .ok (.aload_n 0, 1) := by decide +kernel
theorem dX12_readsSp_68 : decode cX12_readsSp 68 = .ok (.bipush 107, 2) := by decide +kernel
theorem dX12_readsSp_70 : decode cX12_readsSp 70 = .ok (.putfield 303, 3) := by decide +kernel
theorem dX12_readsSp_73 : decode cX12_readsSp 73 = .ok (.aload_n 0, 1) := by decide +kernel
theorem dX12_readsSp_74 : decode cX12_readsSp 74 = .ok (.bipush 101, 2) := by decide +kernel
theorem dX12_readsSp_76 : decode cX12_readsSp 76 = .ok (.invokevirtual 297, 3) := by decide +kernel
theorem dX12_readsSp_79 : decode cX12_readsSp 79 = .ok (.ifCond .eq 44, 3) := by decide +kernel
theorem dX12_readsSp_82 : decode cX12_readsSp 82 = .ok (.aload_n 0, 1) := by decide +kernel
theorem dX12_readsSp_83 : decode cX12_readsSp 83 = .ok (.bipush 97, 2) := by decide +kernel
theorem dX12_readsSp_85 : decode cX12_readsSp 85 = .ok (.invokevirtual 297, 3) := by decide +kernel
theorem dX12_readsSp_88 : decode cX12_readsSp 88 = .ok (.ifCond .eq 33, 3) := by decide +kernel
theorem dX12_readsSp_91 : decode cX12_readsSp 91 = .ok (.aload_n 0, 1) := by decide +kernel
theorem dX12_readsSp_92 : decode cX12_readsSp 92 = .ok (.bipush 107, 2) := by decide +kernel
theorem dX12_readsSp_94 : decode cX12_readsSp 94 = .ok (.invokevirtual 297, 3) := by decide +kernel
theorem dX12_readsSp_97 : decode cX12_readsSp 97 = .ok (.ifCond .eq 24, 3) := by decide +kernel
theorem dX12_readsSp_100 : decode cX12_readsSp 100 = .ok (.aload_n 0, 1) := by decide +kernel
theorem dX12_readsSp_101 : decode cX12_readsSp 101 = .ok (.bipush 32, 2) := by decide +kernel
theorem dX12_readsSp_103 : decode cX12_readsSp 103 = .ok (.invokevirtual 297, 3) := by decide +kernel
theorem dX12_readsSp_106 : decode cX12_readsSp 106 = .ok (.ifCond .eq 15, 3) := by decide +kernel
theorem dX12_readsSp_109 : decode cX12_readsSp 109 = .ok (.aload_n 0, 1) := by decide +kernel
theorem dX12_readsSp_110 : decode cX12_readsSp 110 = .ok (.iconst 0, 1) := by decide +kernel
theorem dX12_readsSp_111 : decode cX12_readsSp 111 = .ok (.invokevirtual 294, 3) := by decide +kernel
theorem dX12_readsSp_114 : decode cX12_readsSp 114 = .ok (.ifCond .eq 7, 3) := by decide +kernel
theorem dX12_readsSp_117 : decode cX12_readsSp 117 = .ok (.iconst 1, 1) := by decide +kernel
theorem dX12_readsSp_118 : decode cX12_readsSp 118 = .ok (.goto 4, 3) := by decide +kernel
theorem dX12_readsSp_121 : decode cX12_readsSp 121 = .ok (.iconst 0, 1) := by decide +kernel
theorem dX12_readsSp_122 : decode cX12_readsSp 122 = .ok (.ireturn, 1) := by decide +kernel
theorem dX12_readsSp_123 : decode cX12_readsSp 123 = .ok (.aload_n 0, 1) := by decide +kernel
theorem dX12_readsSp_124 : decode cX12_readsSp 124 = .ok (.bipush 105, 2) := by decide +kernel
theorem dX12_readsSp_126 : decode cX12_readsSp 126 = .ok (.putfield 303, 3) := by decide +kernel
theorem dX12_readsSp_129 : decode cX12_readsSp 129 = .ok (.aload_n 0, 1) := by decide +kernel
theorem dX12_readsSp_130 : decode cX12_readsSp 130 = .ok (.bipush 105, 2) := by decide +kernel
theorem dX12_readsSp_132 : decode cX12_readsSp 132 = .ok (.invokevirtual 297, 3) := by decide +kernel
theorem dX12_readsSp_135 : decode cX12_readsSp 135 = .ok (.ifCond .eq 67, 3) := by decide +kernel
theorem dX12_readsSp_138 : decode cX12_readsSp 138 = .ok (.aload_n 0, 1) := by decide +kernel
theorem dX12_readsSp_139 : decode cX12_readsSp 139 = .ok (.bipush 108, 2) := by decide +kernel
theorem dX12_readsSp_141 : decode cX12_readsSp 141 = .ok (.invokevirtual 297, 3) := by decide +kernel
theorem dX12_readsSp_144 : decode cX12_readsSp 144 = .ok (.ifCond .eq 58, 3) := by decide +kernel
theorem dX12_readsSp_147 : decode cX12_readsSp 147 = .ok (.aload_n 0, 1) := by decide +kernel
theorem dX12_readsSp_148 : decode cX12_readsSp 148 = .ok (.bipush 108, 2) := by decide +kernel
theorem dX12_readsSp_150 : decode cX12_readsSp 150 = .ok (.invokevirtual 297, 3) := by decide +kernel
theorem dX12_readsSp_153 : decode cX12_readsSp 153 = .ok (.ifCond .eq 49, 3) := by decide +kernel
theorem dX12_readsSp_156 : decode cX12_readsSp 156 = .ok (.aload_n 0, 1) := by decide +kernel
theorem dX12_readsSp_157 : decode cX12_readsSp 157 = .ok (.bipush 32, 2) := by decide +kernel
theorem dX12_readsSp_159 : decode cX12_readsSp 159 = .ok (.invokevirtual 297, 3) := by decide +kernel
theorem dX12_readsSp_162 : decode cX12_readsSp 162 = .ok (.ifCond .eq 40, 3) := by decide +kernel
theorem dX12_readsSp_165 : decode cX12_readsSp 165 = .ok (.aload_n 0, 1) := by decide +kernel
theorem dX12_readsSp_166 : decode cX12_readsSp 166 = .ok (.iconst 0, 1) := by decide +kernel
theorem dX12_readsSp_167 : decode cX12_readsSp 167 = .ok (.invokevirtual 294, 3) := by decide +kernel
theorem dX12_readsSp_170 : decode cX12_readsSp 170 = .ok (.ifCond .eq 32, 3) := by decide +kernel
theorem dX12_readsSp_173 : decode cX12_readsSp 173 = .ok (.aload_n 0, 1) := by decide +kernel
theorem dX12_readsSp_174 : decode cX12_readsSp 174 = .ok (.iconst 1, 1) := by decide +kernel
theorem dX12_readsSp_175 : decode cX12_readsSp 175 = .ok (.invokevirtual 294, 3) := by decide +kernel
theorem dX12_readsSp_178 : decode cX12_readsSp 178 = .ok (.ifCond .eq 24, 3) := by decide +kernel
theorem dX12_readsSp_181 : decode cX12_readsSp 181 = .ok (.aload_n 0, 1) := by decide +kernel
theorem dX12_readsSp_182 : decode cX12_readsSp 182 = .ok (.bipush 32, 2) := by decide +kernel
theorem dX12_readsSp_184 : decode cX12_readsSp 184 = .ok (.invokevirtual 297, 3) := by decide +kernel
theorem dX12_readsSp_187 : decode cX12_readsSp 187 = .ok (.ifCond .eq 15, 3) := by decide +kernel
theorem dX12_readsSp_190 : decode cX12_readsSp 190 = .ok (.aload_n 0, 1) := by decide +kernel
theorem dX12_readsSp_191 : decode cX12_readsSp 191 = .ok (.iconst 2, 1) := by decide +kernel
theorem dX12_readsSp_192 : decode cX12_readsSp 192 = .ok (.invokevirtual 300, 3) := by decide +kernel
theorem dX12_readsSp_195 : decode cX12_readsSp 195 = .ok (.ifCond .eq 7, 3) := by decide +kernel
theorem dX12_readsSp_198 : decode cX12_readsSp 198 = .ok (.iconst 1, 1) := by decide +kernel
theorem dX12_readsSp_199 : decode cX12_readsSp 199 = .ok (.goto 4, 3) := by decide +kernel
theorem dX12_readsSp_202 : decode cX12_readsSp 202 = .ok (.iconst 0, 1) := by decide +kernel
theorem dX12_readsSp_203 : decode cX12_readsSp 203 = .ok (.ireturn, 1) := by decide +kernel
theorem dX12_readsS_0 : decode cX12_readsS 0 = .ok (.aload_n 0, 1) := by decide +kernel
theorem dX12_readsS_1 : decode cX12_readsS 1 = .ok (.bipush 112, 2) := by decide +kernel
theorem dX12_readsS_3 : decode cX12_readsS 3 = .ok (.invokevirtual 297, 3) := by decide +kernel
theorem dX12_readsS_6 : decode cX12_readsS 6 = .ok (.ifCond .eq 8, 3) := by decide +kernel
theorem dX12_readsS_9 : decode cX12_readsS 9 = .ok (.aload_n 0, 1) := by decide +kernel
theorem dX12_readsS_10 : decode cX12_readsS 10 = .ok (.invokevirtual 306, 3) := by decide +kernel
theorem dX12_readsS_13 : decode cX12_readsS 13 = .ok (.ireturn, 1) := by decide +kernel
theorem dX12_readsS_14 : decode cX12_readsS 14 = .ok (.aload_n 0, 1) := by decide +kernel
theorem dX12_readsS_15 : decode cX12_readsS 15 = .ok (.bipush 117, 2) := by decide +kernel
theorem dX12_readsS_17 : decode cX12_readsS 17 = .ok (.putfield 303, 3) := by decide +kernel
theorem dX12_readsS_20 : decode cX12_readsS 20 = .ok (.aload_n 0, 1) := by decide +kernel
theorem dX12_readsS_21 : decode cX12_readsS 21 = .ok (.bipush 117, 2) := by decide +kernel
theorem dX12_readsS_23 : decode cX12_readsS 23 = .ok (.invokevirtual 297, 3) := by decide +kernel
theorem dX12_readsS_26 : decode cX12_readsS 26 = .ok (.ifCond .eq 68, 3) := by decide +kernel
theorem dX12_readsS_29 : decode cX12_readsS 29 = .ok (.aload_n 0, 1) := by decide +kernel
theorem dX12_readsS_30 : decode cX12_readsS 30 = .ok (.bipush 103, 2) := by decide +kernel
theorem dX12_readsS_32 : decode cX12_readsS 32 = .ok (.invokevirtual 297, 3) := by decide +kernel
theorem dX12_readsS_35 : decode cX12_readsS 35 = .ok (.ifCond .eq 59, 3) := by decide +kernel
theorem dX12_readsS_38 : decode cX12_readsS 38 = .ok (.aload_n 0, 1) := by decide +kernel
theorem dX12_readsS_39 : decode cX12_readsS 39 = .ok (.bipush 97, 2) := by decide +kernel
theorem dX12_readsS_41 : decode cX12_readsS 41 = .ok (.invokevirtual 297, 3) := by decide +kernel
theorem dX12_readsS_44 : decode cX12_readsS 44 = .ok (.ifCond .eq 50, 3) := by decide +kernel
theorem dX12_readsS_47 : decode cX12_readsS 47 = .ok (.aload_n 0, 1) := by decide +kernel
theorem dX12_readsS_48 : decode cX12_readsS 48 = .ok (.bipush 114, 2) := by decide +kernel
theorem dX12_readsS_50 : decode cX12_readsS 50 = .ok (.invokevirtual 297, 3) := by decide +kernel
theorem dX12_readsS_53 : decode cX12_readsS 53 = .ok (.ifCond .eq 41, 3) := by decide +kernel
theorem dX12_readsS_56 : decode cX12_readsS 56 = .ok (.aload_n 0, 1) := by decide +kernel
theorem dX12_readsS_57 : decode cX12_readsS 57 = .ok (.bipush 32, 2) := by decide +kernel
theorem dX12_readsS_59 : decode cX12_readsS 59 = .ok (.invokevirtual 297, 3) := by decide +kernel
theorem dX12_readsS_62 : decode cX12_readsS 62 = .ok (.ifCond .eq 32, 3) := by decide +kernel
theorem dX12_readsS_65 : decode cX12_readsS 65 = .ok (.aload_n 0, 1) := by decide +kernel
theorem dX12_readsS_66 : decode cX12_readsS 66 = .ok (.iconst 0, 1) := by decide +kernel
theorem dX12_readsS_67 : decode cX12_readsS 67 = .ok (.invokevirtual 294, 3) := by decide +kernel
theorem dX12_readsS_70 : decode cX12_readsS 70 = .ok (.ifCond .eq 24, 3) := by decide +kernel
theorem dX12_readsS_73 : decode cX12_readsS 73 = .ok (.aload_n 0, 1) := by decide +kernel
theorem dX12_readsS_74 : decode cX12_readsS 74 = .ok (.bipush 32, 2) := by decide +kernel
theorem dX12_readsS_76 : decode cX12_readsS 76 = .ok (.invokevirtual 297, 3) := by decide +kernel
theorem dX12_readsS_79 : decode cX12_readsS 79 = .ok (.ifCond .eq 15, 3) := by decide +kernel
theorem dX12_readsS_82 : decode cX12_readsS 82 = .ok (.aload_n 0, 1) := by decide +kernel
theorem dX12_readsS_83 : decode cX12_readsS 83 = .ok (.iconst 1, 1) := by decide +kernel
theorem dX12_readsS_84 : decode cX12_readsS 84 = .ok (.invokevirtual 294, 3) := by decide +kernel
theorem dX12_readsS_87 : decode cX12_readsS 87 = .ok (.ifCond .eq 7, 3) := by decide +kernel
theorem dX12_readsS_90 : decode cX12_readsS 90 = .ok (.iconst 1, 1) := by decide +kernel
theorem dX12_readsS_91 : decode cX12_readsS 91 = .ok (.goto 4, 3) := by decide +kernel
theorem dX12_readsS_94 : decode cX12_readsS 94 = .ok (.iconst 0, 1) := by decide +kernel
theorem dX12_readsS_95 : decode cX12_readsS 95 = .ok (.ireturn, 1) := by decide +kernel
theorem dX12_readsP_0 : decode cX12_readsP 0 = .ok (.aload_n 0, 1) := by decide +kernel
theorem dX12_readsP_1 : decode cX12_readsP 1 = .ok (.bipush 114, 2) := by decide +kernel
theorem dX12_readsP_3 : decode cX12_readsP 3 = .ok (.invokevirtual 297, 3) := by decide +kernel
theorem dX12_readsP_6 : decode cX12_readsP 6 = .ok (.ifCond .eq 71, 3) := by decide +kernel
theorem dX12_readsP_9 : decode cX12_readsP 9 = .ok (.aload_n 0, 1) := by decide +kernel
theorem dX12_readsP_10 : decode cX12_readsP 10 = .ok (.bipush 111, 2) := by decide +kernel
theorem dX12_readsP_12 : decode cX12_readsP 12 = .ok (.invokevirtual 297, 3) := by decide +kernel
theorem dX12_readsP_15 : decode cX12_readsP 15 = .ok (.ifCond .eq 60, 3) := by decide +kernel
theorem dX12_readsP_18 : decode cX12_readsP 18 = .ok (.aload_n 0, 1) := by decide +kernel
theorem dX12_readsP_19 : decode cX12_readsP 19 = .ok (.bipush 112, 2) := by decide +kernel
theorem dX12_readsP_21 : decode cX12_readsP 21 = .ok (.invokevirtual 297, 3) := by decide +kernel
theorem dX12_readsP_24 : decode cX12_readsP 24 = .ok (.ifCond .eq 51, 3) := by decide +kernel
theorem dX12_readsP_27 : decode cX12_readsP 27 = .ok (.aload_n 0, 1) := by decide +kernel
theorem dX12_readsP_28 : decode cX12_readsP 28 = .ok (.bipush 111, 2) := by decide +kernel
theorem dX12_readsP_30 : decode cX12_readsP 30 = .ok (.invokevirtual 297, 3) := by decide +kernel
theorem dX12_readsP_33 : decode cX12_readsP 33 = .ok (.ifCond .eq 42, 3) := by decide +kernel
theorem dX12_readsP_36 : decode cX12_readsP 36 = .ok (.aload_n 0, 1) := by decide +kernel
theorem dX12_readsP_37 : decode cX12_readsP 37 = .ok (.bipush 115, 2) := by decide +kernel
theorem dX12_readsP_39 : decode cX12_readsP 39 = .ok (.invokevirtual 297, 3) := by decide +kernel
theorem dX12_readsP_42 : decode cX12_readsP 42 = .ok (.ifCond .eq 33, 3) := by decide +kernel
theorem dX12_readsP_45 : decode cX12_readsP 45 = .ok (.aload_n 0, 1) := by decide +kernel
theorem dX12_readsP_46 : decode cX12_readsP 46 = .ok (.bipush 101, 2) := by decide +kernel
theorem dX12_readsP_48 : decode cX12_readsP 48 = .ok (.invokevirtual 297, 3) := by decide +kernel
theorem dX12_readsP_51 : decode cX12_readsP 51 = .ok (.ifCond .eq 24, 3) := by decide +kernel
theorem dX12_readsP_54 : decode cX12_readsP 54 = .ok (.aload_n 0, 1) := by decide +kernel
theorem dX12_readsP_55 : decode cX12_readsP 55 = .ok (.bipush 32, 2) := by decide +kernel
theorem dX12_readsP_57 : decode cX12_readsP 57 = .ok (.invokevirtual 297, 3) := by decide +kernel
theorem dX12_readsP_60 : decode cX12_readsP 60 = .ok (.ifCond .eq 15, 3) := by decide +kernel
theorem dX12_readsP_63 : decode cX12_readsP 63 = .ok (.aload_n 0, 1) := by decide +kernel
theorem dX12_readsP_64 : decode cX12_readsP 64 = .ok (.iconst 0, 1) := by decide +kernel
theorem dX12_readsP_65 : decode cX12_readsP 65 = .ok (.invokevirtual 300, 3) := by decide +kernel
theorem dX12_readsP_68 : decode cX12_readsP 68 = .ok (.ifCond .eq 7, 3) := by decide +kernel
theorem dX12_readsP_71 : decode cX12_readsP 71 = .ok (.iconst 1, 1) := by decide +kernel
theorem dX12_readsP_72 : decode cX12_readsP 72 = .ok (.goto 4, 3) := by decide +kernel
theorem dX12_readsP_75 : decode cX12_readsP 75 = .ok (.iconst 0, 1) := by decide +kernel
theorem dX12_readsP_76 : decode cX12_readsP 76 = .ok (.ireturn, 1) := by decide +kernel
theorem dX12_readsP_77 : decode cX12_readsP 77 = .ok (.aload_n 0, 1) := by decide +kernel
theorem dX12_readsP_78 : decode cX12_readsP 78 = .ok (.bipush 113, 2) := by decide +kernel
theorem dX12_readsP_80 : decode cX12_readsP 80 = .ok (.putfield 303, 3) := by decide +kernel
theorem dX12_readsP_83 : decode cX12_readsP 83 = .ok (.aload_n 0, 1) := by decide +kernel
theorem dX12_readsP_84 : decode cX12_readsP 84 = .ok (.bipush 111, 2) := by decide +kernel
theorem dX12_readsP_86 : decode cX12_readsP 86 = .ok (.invokevirtual 297, 3) := by decide +kernel
theorem dX12_readsP_89 : decode cX12_readsP 89 = .ok (.ifCond .eq 61, 3) := by decide +kernel
theorem dX12_readsP_92 : decode cX12_readsP 92 = .ok (.aload_n 0, 1) := by decide +kernel
theorem dX12_readsP_93 : decode cX12_readsP 93 = .ok (.bipush 115, 2) := by decide +kernel
theorem dX12_readsP_95 : decode cX12_readsP 95 = .ok (.invokevirtual 297, 3) := by decide +kernel
theorem dX12_readsP_98 : decode cX12_readsP 98 = .ok (.ifCond .eq 52, 3) := by decide +kernel
theorem dX12_readsP_101 : decode cX12_readsP 101 = .ok (.aload_n 0, 1) := by decide +kernel
theorem dX12_readsP_102 : decode cX12_readsP 102 = .ok (.bipush 116, 2) := by decide +kernel
theorem dX12_readsP_104 : decode cX12_readsP 104 = .ok (.invokevirtual 297, 3) := by decide +kernel
theorem dX12_readsP_107 : decode cX12_readsP 107 = .ok (.ifCond .eq 43, 3) := by decide +kernel
theorem dX12_readsP_110 : decode cX12_readsP 110 = .ok (.aload_n 0, 1) := by decide +kernel
theorem dX12_readsP_111 : decode cX12_readsP 111 = .ok (.bipush 112, 2) := by decide +kernel
theorem dX12_readsP_113 : decode cX12_readsP 113 = .ok (.invokevirtual 297, 3) := by decide +kernel
theorem dX12_readsP_116 : decode cX12_readsP 116 = .ok (.ifCond .eq 34, 3) := by decide +kernel
theorem dX12_readsP_119 : decode cX12_readsP 119 = .ok (.aload_n 0, 1) := by decide +kernel
theorem dX12_readsP_120 : decode cX12_readsP 120 = .ok (.bipush 111, 2) := by decide +kernel
theorem dX12_readsP_122 : decode cX12_readsP 122 = .ok (.invokevirtual 297, 3) := by decide +kernel
theorem dX12_readsP_125 : decode cX12_readsP 125 = .ok (.ifCond .eq 25, 3) := by decide +kernel
theorem dX12_readsP_128 : decode cX12_readsP 128 = .ok (.aload_n 0, 1) := by decide +kernel
theorem dX12_readsP_129 : decode cX12_readsP 129 = .ok (.bipush 110, 2) := by decide +kernel
theorem dX12_readsP_131 : decode cX12_readsP 131 = .ok (.invokevirtual 297, 3) := by decide +kernel
theorem dX12_readsP_134 : decode cX12_readsP 134 = .ok (.ifCond .eq 16, 3) := by decide +kernel
theorem dX12_readsP_137 : decode cX12_readsP 137 = .ok (.aload_n 0, 1) := by decide +kernel
theorem dX12_readsP_138 : decode cX12_readsP 138 = .ok (.bipush 101, 2) := by decide +kernel
theorem dX12_readsP_140 : decode cX12_readsP 140 = .ok (.invokevirtual 297, 3) := by decide +kernel
theorem dX12_readsP_143 : decode cX12_readsP 143 = .ok (.ifCond .eq 7, 3) := by decide +kernel
theorem dX12_readsP_146 : decode cX12_readsP 146 = .ok (.iconst 1, 1) := by decide +kernel
theorem dX12_readsP_147 : decode cX12_readsP 147 = .ok (.goto 4, 3) := by decide +kernel
theorem dX12_readsP_150 : decode cX12_readsP 150 = .ok (.iconst 0, 1) := by decide +kernel
theorem dX12_readsP_151 : decode cX12_readsP 151 = .ok (.ireturn, 1) := by decide +kernel
theorem dX12_readsM_0 : decode cX12_readsM 0 = .ok (.aload_n 0, 1) := by decide +kernel
theorem dX12_readsM_1 : decode cX12_readsM 1 = .ok (.bipush 111, 2) := by decide +kernel
theorem dX12_readsM_3 : decode cX12_readsM 3 = .ok (.invokevirtual 297, 3) := by decide +kernel
theorem dX12_readsM_6 : decode cX12_readsM 6 = .ok (.ifCond .ne 5, 3) := by decide +kernel
theorem dX12_readsM_9 : decode cX12_readsM 9 = .ok (.iconst 0, 1) := by decide +kernel
theorem dX12_readsM_10 : decode cX12_readsM 10 = .ok (.ireturn, 1) := by decide +kernel
theorem dX12_readsM_11 : decode cX12_readsM 11 = .ok (.aload_n 0, 1) := by decide +kernel
theorem dX12_readsM_12 : decode cX12_readsM 12 = .ok (.bipush 118, 2) := by decide +kernel
theorem dX12_readsM_14 : decode cX12_readsM 14 = .ok (.invokevirtual 297, 3) := by decide +kernel
theorem dX12_readsM_17 : decode cX12_readsM 17 = .ok (.ifCond .eq 35, 3) := by decide +kernel
theorem dX12_readsM_20 : decode cX12_readsM 20 = .ok (.aload_n 0, 1) := by decide +kernel
theorem dX12_readsM_21 : decode cX12_readsM 21 = .ok (.bipush 101, 2) := by decide +kernel
theorem dX12_readsM_23 : decode cX12_readsM 23 = .ok (.invokevirtual 297, 3) := by decide +kernel
theorem dX12_readsM_26 : decode cX12_readsM 26 = .ok (.ifCond .eq 24, 3) := by decide +kernel
theorem dX12_readsM_29 : decode cX12_readsM 29 = .ok (.aload_n 0, 1) := by decide +kernel
theorem dX12_readsM_30 : decode cX12_readsM 30 = .ok (.bipush 32, 2) := by decide +kernel
theorem dX12_readsM_32 : decode cX12_readsM 32 = .ok (.invokevirtual 297, 3) := by decide +kernel
theorem dX12_readsM_35 : decode cX12_readsM 35 = .ok (.ifCond .eq 15, 3) := by decide +kernel
theorem dX12_readsM_38 : decode cX12_readsM 38 = .ok (.aload_n 0, 1) := by decide +kernel
theorem dX12_readsM_39 : decode cX12_readsM 39 = .ok (.iconst 0, 1) := by decide +kernel
theorem dX12_readsM_40 : decode cX12_readsM 40 = .ok (.invokevirtual 300, 3) := by decide +kernel
theorem dX12_readsM_43 : decode cX12_readsM 43 = .ok (.ifCond .eq 7, 3) := by decide +kernel
theorem dX12_readsM_46 : decode cX12_readsM 46 = .ok (.iconst 1, 1) := by decide +kernel
theorem dX12_readsM_47 : decode cX12_readsM 47 = .ok (.goto 4, 3) := by decide +kernel
theorem dX12_readsM_50 : decode cX12_readsM 50 = .ok (.iconst 0, 1) := by decide +kernel
theorem dX12_readsM_51 : decode cX12_readsM 51 = .ok (.ireturn, 1) := by decide +kernel
theorem dX12_readsM_52 : decode cX12_readsM 52 = .ok (.aload_n 0, 1) := by decide +kernel
theorem dX12_readsM_53 : decode cX12_readsM 53 = .ok (.bipush 100, 2) := by decide +kernel
theorem dX12_readsM_55 : decode cX12_readsM 55 = .ok (.putfield 303, 3) := by decide +kernel
theorem dX12_readsM_58 : decode cX12_readsM 58 = .ok (.aload_n 0, 1) := by decide +kernel
theorem dX12_readsM_59 : decode cX12_readsM 59 = .ok (.bipush 112, 2) := by decide +kernel
theorem dX12_readsM_61 : decode cX12_readsM 61 = .ok (.invokevirtual 297, 3) := by decide +kernel
theorem dX12_readsM_64 : decode cX12_readsM 64 = .ok (.ifCond .eq 32, 3) := by decide +kernel
theorem dX12_readsM_67 : decode cX12_readsM 67 = .ok (.aload_n 0, 1) := by decide +kernel
theorem dX12_readsM_68 : decode cX12_readsM 68 = .ok (.bipush 32, 2) := by decide +kernel
theorem dX12_readsM_70 : decode cX12_readsM 70 = .ok (.invokevirtual 297, 3) := by decide +kernel
theorem dX12_readsM_73 : decode cX12_readsM 73 = .ok (.ifCond .eq 23, 3) := by decide +kernel
theorem dX12_readsM_76 : decode cX12_readsM 76 = .ok (.aload_n 0, 1) := by decide +kernel
theorem dX12_readsM_77 : decode cX12_readsM 77 = .ok (.iconst 0, 1) := by decide +kernel
theorem dX12_readsM_78 : decode cX12_readsM 78 = .ok (.invokevirtual 294, 3) := by decide +kernel
theorem dX12_readsM_81 : decode cX12_readsM 81 = .ok (.ifCond .eq 15, 3) := by decide +kernel
theorem dX12_readsM_84 : decode cX12_readsM 84 = .ok (.aload_n 0, 1) := by decide +kernel
theorem dX12_readsM_85 : decode cX12_readsM 85 = .ok (.iconst 1, 1) := by decide +kernel
theorem dX12_readsM_86 : decode cX12_readsM 86 = .ok (.invokevirtual 294, 3) := by decide +kernel
theorem dX12_readsM_89 : decode cX12_readsM 89 = .ok (.ifCond .eq 7, 3) := by decide +kernel
theorem dX12_readsM_92 : decode cX12_readsM 92 = .ok (.iconst 1, 1) := by decide +kernel
theorem dX12_readsM_93 : decode cX12_readsM 93 = .ok (.goto 4, 3) := by decide +kernel
theorem dX12_readsM_96 : decode cX12_readsM 96 = .ok (.iconst 0, 1) := by decide +kernel
theorem dX12_readsM_97 : decode cX12_readsM 97 = .ok (.ireturn, 1) := by decide +kernel
theorem dX12_readsA_0 : decode cX12_readsA 0 = .ok (.aload_n 0, 1) := by decide +kernel
theorem dX12_readsA_1 : decode cX12_readsA 1 = .ok (.bipush 109, 2) := by decide +kernel
theorem dX12_readsA_3 : decode cX12_readsA 3 = .ok (.invokevirtual 297, 3) := by decide +kernel
theorem dX12_readsA_6 : decode cX12_readsA 6 = .ok (.ifCond .eq 86, 3) := by decide +kernel
theorem dX12_readsA_9 : decode cX12_readsA 9 = .ok (.aload_n 0, 1) := by decide +kernel
theorem dX12_readsA_10 : decode cX12_readsA 10 = .ok (.bipush 101, 2) := by decide +kernel
theorem dX12_readsA_12 : decode cX12_readsA 12 = .ok (.invokevirtual 297, 3) := by decide +kernel
theorem dX12_readsA_15 : decode cX12_readsA 15 = .ok (.ifCond .eq 30, 3) := by decide +kernel
theorem dX12_readsA_18 : decode cX12_readsA 18 = .ok (.aload_n 0, 1) := by decide +kernel
theorem dX12_readsA_19 : decode cX12_readsA 19 = .ok (.bipush 110, 2) := by decide +kernel
theorem dX12_readsA_21 : decode cX12_readsA 21 = .ok (.invokevirtual 297, 3) := by decide +kernel
theorem dX12_readsA_24 : decode cX12_readsA 24 = .ok (.ifCond .eq 21, 3) := by decide +kernel
theorem dX12_readsA_27 : decode cX12_readsA 27 = .ok (.aload_n 0, 1) := by decide +kernel
theorem dX12_readsA_28 : decode cX12_readsA 28 = .ok (.bipush 100, 2) := by decide +kernel
theorem dX12_readsA_30 : decode cX12_readsA 30 = .ok (.invokevirtual 297, 3) := by decide +kernel
theorem dX12_readsA_33 : decode cX12_readsA 33 = .ok (.ifCond .eq 12, 3) := by decide +kernel
theorem dX12_readsA_36 : decode cX12_readsA 36 = .ok (.aload_n 0, 1) := by decide +kernel
theorem dX12_readsA_37 : decode cX12_readsA 37 = .ok (.bipush 32, 2) := by decide +kernel
theorem dX12_readsA_39 : decode cX12_readsA 39 = .ok (.invokevirtual 297, 3) := by decide +kernel
theorem dX12_readsA_42 : decode cX12_readsA 42 = .ok (.ifCond .ne 5, 3) := by decide +kernel
theorem dX12_readsA_45 : decode cX12_readsA 45 = .ok (.iconst 0, 1) := by decide +kernel
theorem dX12_readsA_46 : decode cX12_readsA 46 = .ok (.ireturn, 1) := by decide +kernel
theorem dX12_readsA_47 : decode cX12_readsA 47 = .ok (.aload_n 0, 1) := by decide +kernel
theorem dX12_readsA_48 : decode cX12_readsA 48 = .ok (.bipush 45, 2) := by decide +kernel
theorem dX12_readsA_50 : decode cX12_readsA 50 = .ok (.invokevirtual 297, 3) := by decide +kernel
theorem dX12_readsA_53 : decode cX12_readsA 53 = .ok (.istore_n 1, 1) := by decide +kernel
theorem dX12_readsA_54 : decode cX12_readsA 54 = .ok (.aload_n 0, 1) := by decide +kernel
theorem dX12_readsA_55 : decode cX12_readsA 55 = .ok (.iconst 0, 1) := by decide +kernel
theorem dX12_readsA_56 : decode cX12_readsA 56 = .ok (.invokevirtual 300, 3) := by decide +kernel
theorem dX12_readsA_59 : decode cX12_readsA 59 = .ok (.ifCond .ne 5, 3) := by decide +kernel
theorem dX12_readsA_62 : decode cX12_readsA 62 = .ok (.iconst 0, 1) := by decide +kernel
theorem dX12_readsA_63 : decode cX12_readsA 63 = .ok (.ireturn, 1) := by decide +kernel
theorem dX12_readsA_64 : decode cX12_readsA 64 = .ok (.aload_n 0, 1) := by decide +kernel
theorem dX12_readsA_65 : decode cX12_readsA 65 = .ok (.getfield 45, 3) := by decide +kernel
theorem dX12_readsA_68 : decode cX12_readsA 68 = .ok (.iconst 0, 1) := by decide +kernel
theorem dX12_readsA_69 : decode cX12_readsA 69 = .ok (.iload_n 1, 1) := by decide +kernel
theorem dX12_readsA_70 : decode cX12_readsA 70 = .ok (.ifCond .eq 13, 3) := by decide +kernel
theorem dX12_readsA_73 : decode cX12_readsA 73 = .ok (.aload_n 0, 1) := by decide +kernel
theorem dX12_readsA_74 : decode cX12_readsA 74 = .ok (.getfield 45, 3) := by decide +kernel
theorem dX12_readsA_77 : decode cX12_readsA 77 = .ok (.iconst 0, 1) := by decide +kernel
theorem dX12_readsA_78 : decode cX12_readsA 78 = .ok (.iaload, 1) := by decide +kernel
theorem dX12_readsA_79 : decode cX12_readsA 79 = .ok (.ineg, 1) := by decide +kernel
theorem dX12_readsA_80 : decode cX12_readsA 80 = .ok (.goto 9, 3) := by decide +kernel
theorem dX12_readsA_83 : decode cX12_readsA 83 = .ok (.aload_n 0, 1) := by decide +kernel
theorem dX12_readsA_84 : decode cX12_readsA 84 = .ok (.getfield 45, 3) := by decide +kernel
theorem dX12_readsA_87 : decode cX12_readsA 87 = .ok (.iconst 0, 1) := by decide +kernel
theorem dX12_readsA_88 : decode cX12_readsA 88 = .ok (.iaload, 1) := by decide +kernel
theorem dX12_readsA_89 : decode cX12_readsA 89 = .ok (.iastore, 1) := by decide +kernel
theorem dX12_readsA_90 : decode cX12_readsA 90 = .ok (.iconst 1, 1) := by decide +kernel
theorem dX12_readsA_91 : decode cX12_readsA 91 = .ok (.ireturn, 1) := by decide +kernel
theorem dX12_readsA_92 : decode cX12_readsA 92 = .ok (.aload_n 0, 1) := by decide +kernel
theorem dX12_readsA_93 : decode cX12_readsA 93 = .ok (.bipush 106, 2) := by decide +kernel
theorem dX12_readsA_95 : decode cX12_readsA 95 = .ok (.putfield 303, 3) := by decide +kernel
theorem dX12_readsA_98 : decode cX12_readsA 98 = .ok (.aload_n 0, 1) := by decide +kernel
theorem dX12_readsA_99 : decode cX12_readsA 99 = .ok (.bipush 100, 2) := by decide +kernel
theorem dX12_readsA_101 : decode cX12_readsA 101 = .ok (.invokevirtual 297, 3) := by decide +kernel
theorem dX12_readsA_104 : decode cX12_readsA 104 = .ok (.ifCond .eq 52, 3) := by decide +kernel
theorem dX12_readsA_107 : decode cX12_readsA 107 = .ok (.aload_n 0, 1) := by decide +kernel
theorem dX12_readsA_108 : decode cX12_readsA 108 = .ok (.bipush 106, 2) := by decide +kernel
theorem dX12_readsA_110 : decode cX12_readsA 110 = .ok (.invokevirtual 297, 3) := by decide +kernel
theorem dX12_readsA_113 : decode cX12_readsA 113 = .ok (.ifCond .eq 43, 3) := by decide +kernel
theorem dX12_readsA_116 : decode cX12_readsA 116 = .ok (.aload_n 0, 1) := by decide +kernel
theorem dX12_readsA_117 : decode cX12_readsA 117 = .ok (.bipush 111, 2) := by decide +kernel
theorem dX12_readsA_119 : decode cX12_readsA 119 = .ok (.invokevirtual 297, 3) := by decide +kernel
theorem dX12_readsA_122 : decode cX12_readsA 122 = .ok (.ifCond .eq 34, 3) := by decide +kernel
theorem dX12_readsA_125 : decode cX12_readsA 125 = .ok (.aload_n 0, 1) := by decide +kernel
theorem dX12_readsA_126 : decode cX12_readsA 126 = .ok (.bipush 117, 2) := by decide +kernel
theorem dX12_readsA_128 : decode cX12_readsA 128 = .ok (.invokevirtual 297, 3) := by decide +kernel
theorem dX12_readsA_131 : decode cX12_readsA 131 = .ok (.ifCond .eq 25, 3) := by decide +kernel
theorem dX12_readsA_134 : decode cX12_readsA 134 = .ok (.aload_n 0, 1) := by decide +kernel
theorem dX12_readsA_135 : decode cX12_readsA 135 = .ok (.bipush 114, 2) := by decide +kernel
theorem dX12_readsA_137 : decode cX12_readsA 137 = .ok (.invokevirtual 297, 3) := by decide +kernel
theorem dX12_readsA_140 : decode cX12_readsA 140 = .ok (.ifCond .eq 16, 3) := by decide +kernel
theorem dX12_readsA_143 : decode cX12_readsA 143 = .ok (.aload_n 0, 1) := by decide +kernel
theorem dX12_readsA_144 : decode cX12_readsA 144 = .ok (.bipush 110, 2) := by decide +kernel
theorem dX12_readsA_146 : decode cX12_readsA 146 = .ok (.invokevirtual 297, 3) := by decide +kernel
theorem dX12_readsA_149 : decode cX12_readsA 149 = .ok (.ifCond .eq 7, 3) := by decide +kernel
theorem dX12_readsA_152 : decode cX12_readsA 152 = .ok (.iconst 1, 1) := by decide +kernel
theorem dX12_readsA_153 : decode cX12_readsA 153 = .ok (.goto 4, 3) := by decide +kernel
theorem dX12_readsA_156 : decode cX12_readsA 156 = .ok (.iconst 0, 1) := by decide +kernel
theorem dX12_readsA_157 : decode cX12_readsA 157 = .ok (.ireturn, 1) := by decide +kernel
theorem dX12_readsCommand_0 : decode cX12_readsCommand 0 = .ok (.aload_n 0, 1) := by decide +kernel
theorem dX12_readsCommand_1 : decode cX12_readsCommand 1 = .ok (.aload_n 0, 1) := by decide +kernel
theorem dX12_readsCommand_2 : decode cX12_readsCommand 2 = .ok (.invokevirtual 291, 3) := by decide +kernel
theorem dX12_readsCommand_5 : decode cX12_readsCommand 5 = .ok (.putfield 303, 3) := by decide +kernel
theorem dX12_readsCommand_8 : decode cX12_readsCommand 8 = .ok (.aload_n 0, 1) := by decide +kernel
theorem dX12_readsCommand_9 : decode cX12_readsCommand 9 = .ok (.bipush 115, 2) := by decide +kernel
theorem dX12_readsCommand_11 : decode cX12_readsCommand 11 = .ok (.invokevirtual 297, 3) := by decide +kernel
theorem dX12_readsCommand_14 : decode cX12_readsCommand 14 = .ok (.ifCond .eq 8, 3) := by decide +kernel
theorem dX12_readsCommand_17 : decode cX12_readsCommand 17 = .ok (.aload_n 0, 1) := by decide +kernel
theorem dX12_readsCommand_18 : decode cX12_readsCommand 18 = .ok (.invokevirtual 309, 3) := by decide +kernel
theorem dX12_readsCommand_21 : decode cX12_readsCommand 21 = .ok (.ireturn, 1) := by decide +kernel
theorem dX12_readsCommand_22 : decode cX12_readsCommand 22 = .ok (.aload_n 0, 1) := by decide +kernel
theorem dX12_readsCommand_23 : decode cX12_readsCommand 23 = .ok (.bipush 112, 2) := by decide +kernel
theorem dX12_readsCommand_25 : decode cX12_readsCommand 25 = .ok (.invokevirtual 297, 3) := by decide +kernel
theorem dX12_readsCommand_28 : decode cX12_readsCommand 28 = .ok (.ifCond .eq 8, 3) := by decide +kernel
theorem dX12_readsCommand_31 : decode cX12_readsCommand 31 = .ok (.aload_n 0, 1) := by decide +kernel
theorem dX12_readsCommand_32 : decode cX12_readsCommand 32 = .ok (.invokevirtual 312, 3) := by decide +kernel
theorem dX12_readsCommand_35 : decode cX12_readsCommand 35 = .ok (.ireturn, 1) := by decide +kernel
theorem dX12_readsCommand_36 : decode cX12_readsCommand 36 = .ok (.aload_n 0, 1) := by decide +kernel
theorem dX12_readsCommand_37 : decode cX12_readsCommand 37 = .ok (.bipush 109, 2) := by decide +kernel
theorem dX12_readsCommand_39 : decode cX12_readsCommand 39 = .ok (.invokevirtual 297, 3) := by decide +kernel
theorem dX12_readsCommand_42 : decode cX12_readsCommand 42 = .ok (.ifCond .eq 8, 3) := by decide +kernel
theorem dX12_readsCommand_45 : decode cX12_readsCommand 45 = .ok (.aload_n 0, 1) := by decide +kernel
theorem dX12_readsCommand_46 : decode cX12_readsCommand 46 = .ok (.invokevirtual 315, 3) := by decide +kernel
theorem dX12_readsCommand_49 : decode cX12_readsCommand 49 = .ok (.ireturn, 1) := by decide +kernel
theorem dX12_readsCommand_50 : decode cX12_readsCommand 50 = .ok (.aload_n 0, 1) := by decide +kernel
theorem dX12_readsCommand_51 : decode cX12_readsCommand 51 = .ok (.bipush 97, 2) := by decide +kernel
theorem dX12_readsCommand_53 : decode cX12_readsCommand 53 = .ok (.invokevirtual 297, 3) := by decide +kernel
theorem dX12_readsCommand_56 : decode cX12_readsCommand 56 = .ok (.ifCond .eq 8, 3) := by decide +kernel
theorem dX12_readsCommand_59 : decode cX12_readsCommand 59 = .ok (.aload_n 0, 1) := by decide +kernel
theorem dX12_readsCommand_60 : decode cX12_readsCommand 60 = .ok (.invokevirtual 318, 3) := by decide +kernel
theorem dX12_readsCommand_63 : decode cX12_readsCommand 63 = .ok (.ireturn, 1) := by decide +kernel
theorem dX12_readsCommand_64 : decode cX12_readsCommand 64 = .ok (.aload_n 0, 1) := by decide +kernel
theorem dX12_readsCommand_65 : decode cX12_readsCommand 65 = .ok (.bipush 99, 2) := by decide +kernel
theorem dX12_readsCommand_67 : decode cX12_readsCommand 67 = .ok (.invokevirtual 297, 3) := by decide +kernel
theorem dX12_readsCommand_70 : decode cX12_readsCommand 70 = .ok (.ifCond .eq 45, 3) := by decide +kernel
theorem dX12_readsCommand_73 : decode cX12_readsCommand 73 = .ok (.aload_n 0, 1) := by decide +kernel
theorem dX12_readsCommand_74 : decode cX12_readsCommand 74 = .ok (.bipush 108, 2) := by decide +kernel
theorem dX12_readsCommand_76 : decode cX12_readsCommand 76 = .ok (.invokevirtual 297, 3) := by decide +kernel
theorem dX12_readsCommand_79 : decode cX12_readsCommand 79 = .ok (.ifCond .eq 34, 3) := by decide +kernel
theorem dX12_readsCommand_82 : decode cX12_readsCommand 82 = .ok (.aload_n 0, 1) := by decide +kernel
theorem dX12_readsCommand_83 : decode cX12_readsCommand 83 = .ok (.bipush 111, 2) := by decide +kernel
theorem dX12_readsCommand_85 : decode cX12_readsCommand 85 = .ok (.invokevirtual 297, 3) := by decide +kernel
theorem dX12_readsCommand_88 : decode cX12_readsCommand 88 = .ok (.ifCond .eq 25, 3) := by decide +kernel
theorem dX12_readsCommand_91 : decode cX12_readsCommand 91 = .ok (.aload_n 0, 1) := by decide +kernel
theorem dX12_readsCommand_92 : decode cX12_readsCommand 92 = .ok (.bipush 115, 2) := by decide +kernel
theorem dX12_readsCommand_94 : decode cX12_readsCommand 94 = .ok (.invokevirtual 297, 3) := by decide +kernel
theorem dX12_readsCommand_97 : decode cX12_readsCommand 97 = .ok (.ifCond .eq 16, 3) := by decide +kernel
theorem dX12_readsCommand_100 : decode cX12_readsCommand 100 = .ok (.aload_n 0, 1) := by decide +kernel
theorem dX12_readsCommand_101 : decode cX12_readsCommand 101 = .ok (.bipush 101, 2) := by decide +kernel
theorem dX12_readsCommand_103 : decode cX12_readsCommand 103 = .ok (.invokevirtual 297, 3) := by decide +kernel
theorem dX12_readsCommand_106 : decode cX12_readsCommand 106 = .ok (.ifCond .eq 7, 3) := by decide +kernel
theorem dX12_readsCommand_109 : decode cX12_readsCommand 109 = .ok (.iconst 1, 1) := by decide +kernel
theorem dX12_readsCommand_110 : decode cX12_readsCommand 110 = .ok (.goto 4, 3) := by decide +kernel
theorem dX12_readsCommand_113 : decode cX12_readsCommand 113 = .ok (.iconst 0, 1) := by decide +kernel
theorem dX12_readsCommand_114 : decode cX12_readsCommand 114 = .ok (.ireturn, 1) := by decide +kernel
theorem dX12_readsCommand_115 : decode cX12_readsCommand 115 = .ok (.aload_n 0, 1) := by decide +kernel
theorem dX12_readsCommand_116 : decode cX12_readsCommand 116 = .ok (.bipush 118, 2) := by decide +kernel
theorem dX12_readsCommand_118 : decode cX12_readsCommand 118 = .ok (.invokevirtual 297, 3) := by decide +kernel
theorem dX12_readsCommand_121 : decode cX12_readsCommand 121 = .ok (.ifCond .eq 34, 3) := by decide +kernel
theorem dX12_readsCommand_124 : decode cX12_readsCommand 124 = .ok (.aload_n 0, 1) := by decide +kernel
theorem dX12_readsCommand_125 : decode cX12_readsCommand 125 = .ok (.bipush 111, 2) := by decide +kernel
theorem dX12_readsCommand_127 : decode cX12_readsCommand 127 = .ok (.invokevirtual 297, 3) := by decide +kernel
theorem dX12_readsCommand_130 : decode cX12_readsCommand 130 = .ok (.ifCond .eq 25, 3) := by decide +kernel
theorem dX12_readsCommand_133 : decode cX12_readsCommand 133 = .ok (.aload_n 0, 1) := by decide +kernel
theorem dX12_readsCommand_134 : decode cX12_readsCommand 134 = .ok (.bipush 116, 2) := by decide +kernel
theorem dX12_readsCommand_136 : decode cX12_readsCommand 136 = .ok (.invokevirtual 297, 3) := by decide +kernel
theorem dX12_readsCommand_139 : decode cX12_readsCommand 139 = .ok (.ifCond .eq 16, 3) := by decide +kernel
theorem dX12_readsCommand_142 : decode cX12_readsCommand 142 = .ok (.aload_n 0, 1) := by decide +kernel
theorem dX12_readsCommand_143 : decode cX12_readsCommand 143 = .ok (.bipush 101, 2) := by decide +kernel
theorem dX12_readsCommand_145 : decode cX12_readsCommand 145 = .ok (.invokevirtual 297, 3) := by decide +kernel
theorem dX12_readsCommand_148 : decode cX12_readsCommand 148 = .ok (.ifCond .eq 7, 3) := by decide +kernel
theorem dX12_readsCommand_151 : decode cX12_readsCommand 151 = .ok (.iconst 1, 1) := by decide +kernel
theorem dX12_readsCommand_152 : decode cX12_readsCommand 152 = .ok (.goto 4, 3) := by decide +kernel
theorem dX12_readsCommand_155 : decode cX12_readsCommand 155 = .ok (.iconst 0, 1) := by decide +kernel
theorem dX12_readsCommand_156 : decode cX12_readsCommand 156 = .ok (.ireturn, 1) := by decide +kernel
theorem dX12_readsAll_0 : decode cX12_readsAll 0 = .ok (.aload_n 0, 1) := by decide +kernel
theorem dX12_readsAll_1 : decode cX12_readsAll 1 = .ok (.iconst 0, 1) := by decide +kernel
theorem dX12_readsAll_2 : decode cX12_readsAll 2 = .ok (.putfield 288, 3) := by decide +kernel
theorem dX12_readsAll_5 : decode cX12_readsAll 5 = .ok (.iconst 1, 1) := by decide +kernel
theorem dX12_readsAll_6 : decode cX12_readsAll 6 = .ok (.istore_n 1, 1) := by decide +kernel
theorem dX12_readsAll_7 : decode cX12_readsAll 7 = .ok (.iload_n 1, 1) := by decide +kernel
theorem dX12_readsAll_8 : decode cX12_readsAll 8 = .ok (.ifCond .eq 22, 3) := by decide +kernel
theorem dX12_readsAll_11 : decode cX12_readsAll 11 = .ok (.aload_n 0, 1) := by decide +kernel
theorem dX12_readsAll_12 : decode cX12_readsAll 12 = .ok (.invokevirtual 321, 3) := by decide +kernel
theorem dX12_readsAll_15 : decode cX12_readsAll 15 = .ok (.ifCond .ne 5, 3) := by decide +kernel
theorem dX12_readsAll_18 : decode cX12_readsAll 18 = .ok (.iconst 0, 1) := by decide +kernel
theorem dX12_readsAll_19 : decode cX12_readsAll 19 = .ok (.ireturn, 1) := by decide +kernel
theorem dX12_readsAll_20 : decode cX12_readsAll 20 = .ok (.aload_n 0, 1) := by decide +kernel
theorem dX12_readsAll_21 : decode cX12_readsAll 21 = .ok (.bipush 59, 2) := by decide +kernel
theorem dX12_readsAll_23 : decode cX12_readsAll 23 = .ok (.invokevirtual 297, 3) := by decide +kernel
theorem dX12_readsAll_26 : decode cX12_readsAll 26 = .ok (.istore_n 1, 1) := by decide +kernel
theorem dX12_readsAll_27 : decode cX12_readsAll 27 = .ok (.goto (-20), 3) := by decide +kernel
theorem dX12_readsAll_30 : decode cX12_readsAll 30 = .ok (.aload_n 0, 1) := by decide +kernel
theorem dX12_readsAll_31 : decode cX12_readsAll 31 = .ok (.getfield 288, 3) := by decide +kernel
theorem dX12_readsAll_34 : decode cX12_readsAll 34 = .ok (.aload_n 0, 1) := by decide +kernel
theorem dX12_readsAll_35 : decode cX12_readsAll 35 = .ok (.getfield 285, 3) := by decide +kernel
theorem dX12_readsAll_38 : decode cX12_readsAll 38 = .ok (.if_icmp .ne 7, 3) := by decide +kernel
theorem dX12_readsAll_41 : decode cX12_readsAll 41 = .ok (.iconst 1, 1) := by decide +kernel
theorem dX12_readsAll_42 : decode cX12_readsAll 42 = .ok (.goto 4, 3) := by decide +kernel
theorem dX12_readsAll_45 : decode cX12_readsAll 45 = .ok (.iconst 0, 1) := by decide +kernel
theorem dX12_readsAll_46 : decode cX12_readsAll 46 = .ok (.ireturn, 1) := by decide +kernel
theorem dX12_notMade_0 : decode cX12_notMade 0 = .ok (.aload_n 0, 1) := by decide +kernel
theorem dX12_notMade_1 : decode cX12_notMade 1 = .ok (.iload_n 1, 1) := by decide +kernel
theorem dX12_notMade_2 : decode cX12_notMade 2 = .ok (.invokevirtual 107, 3) := by decide +kernel
theorem dX12_notMade_5 : decode cX12_notMade 5 = .ok (.ifCond .eq 7, 3) := by decide +kernel
theorem dX12_notMade_8 : decode cX12_notMade 8 = .ok (.iconst 0, 1) := by decide +kernel
theorem dX12_notMade_9 : decode cX12_notMade 9 = .ok (.goto 4, 3) := by decide +kernel
theorem dX12_notMade_12 : decode cX12_notMade 12 = .ok (.iconst 1, 1) := by decide +kernel
theorem dX12_notMade_13 : decode cX12_notMade 13 = .ok (.ireturn, 1) := by decide +kernel
theorem dX12_notNow_0 : decode cX12_notNow 0 = .ok (.aload_n 0, 1) := by decide +kernel
theorem dX12_notNow_1 : decode cX12_notNow 1 = .ok (.getfield 45, 3) := by decide +kernel
theorem dX12_notNow_4 : decode cX12_notNow 4 = .ok (.iconst 0, 1) := by decide +kernel
theorem dX12_notNow_5 : decode cX12_notNow 5 = .ok (.iaload, 1) := by decide +kernel
theorem dX12_notNow_6 : decode cX12_notNow 6 = .ok (.istore_n 1, 1) := by decide +kernel
theorem dX12_notNow_7 : decode cX12_notNow 7 = .ok (.aload_n 0, 1) := by decide +kernel
theorem dX12_notNow_8 : decode cX12_notNow 8 = .ok (.getfield 45, 3) := by decide +kernel
theorem dX12_notNow_11 : decode cX12_notNow 11 = .ok (.iconst 1, 1) := by decide +kernel
theorem dX12_notNow_12 : decode cX12_notNow 12 = .ok (.iaload, 1) := by decide +kernel
theorem dX12_notNow_13 : decode cX12_notNow 13 = .ok (.istore_n 2, 1) := by decide +kernel
theorem dX12_notNow_14 : decode cX12_notNow 14 = .ok (.aload_n 0, 1) := by decide +kernel
theorem dX12_notNow_15 : decode cX12_notNow 15 = .ok (.getfield 303, 3) := by decide +kernel
theorem dX12_notNow_18 : decode cX12_notNow 18 = .ok (.tableswitch 173 97 117 #[155, 173, 167, 148, 173, 173, 173, 173, 111, 161, 105, 173, 142, 173, 173, 130, 136, 173, 98, 173, 123], 98) := by decide +kernel
theorem dX12_notNow_116 : decode cX12_notNow 116 = .ok (.aload_n 0, 1) := by decide +kernel
theorem dX12_notNow_117 : decode cX12_notNow 117 = .ok (.iload_n 1, 1) := by decide +kernel
theorem dX12_notNow_118 : decode cX12_notNow 118 = .ok (.iload_n 2, 1) := by decide +kernel
theorem dX12_notNow_119 : decode cX12_notNow 119 = .ok (.invokevirtual 79, 3) := by decide +kernel
theorem dX12_notNow_122 : decode cX12_notNow 122 = .ok (.ireturn, 1) := by decide +kernel
theorem dX12_notNow_123 : decode cX12_notNow 123 = .ok (.aload_n 0, 1) := by decide +kernel
theorem dX12_notNow_124 : decode cX12_notNow 124 = .ok (.iload_n 1, 1) := by decide +kernel
theorem dX12_notNow_125 : decode cX12_notNow 125 = .ok (.invokevirtual 135, 3) := by decide +kernel
theorem dX12_notNow_128 : decode cX12_notNow 128 = .ok (.ireturn, 1) := by decide +kernel
theorem dX12_notNow_129 : decode cX12_notNow 129 = .ok (.iload_n 1, 1) := by decide +kernel
theorem dX12_notNow_130 : decode cX12_notNow 130 = .ok (.iload_n 2, 1) := by decide +kernel
theorem dX12_notNow_131 : decode cX12_notNow 131 = .ok (.aload_n 0, 1) := by decide +kernel
theorem dX12_notNow_132 : decode cX12_notNow 132 = .ok (.getfield 45, 3) := by decide +kernel
theorem dX12_notNow_135 : decode cX12_notNow 135 = .ok (.iconst 2, 1) := by decide +kernel
theorem dX12_notNow_136 : decode cX12_notNow 136 = .ok (.iaload, 1) := by decide +kernel
theorem dX12_notNow_137 : decode cX12_notNow 137 = .ok (.invokestatic 212, 3) := by decide +kernel
theorem dX12_notNow_140 : decode cX12_notNow 140 = .ok (.ireturn, 1) := by decide +kernel
theorem dX12_notNow_141 : decode cX12_notNow 141 = .ok (.aload_n 0, 1) := by decide +kernel
theorem dX12_notNow_142 : decode cX12_notNow 142 = .ok (.iload_n 1, 1) := by decide +kernel
theorem dX12_notNow_143 : decode cX12_notNow 143 = .ok (.iload_n 2, 1) := by decide +kernel
theorem dX12_notNow_144 : decode cX12_notNow 144 = .ok (.invokevirtual 225, 3) := by decide +kernel
theorem dX12_notNow_147 : decode cX12_notNow 147 = .ok (.ireturn, 1) := by decide +kernel
theorem dX12_notNow_148 : decode cX12_notNow 148 = .ok (.aload_n 0, 1) := by decide +kernel
theorem dX12_notNow_149 : decode cX12_notNow 149 = .ok (.iload_n 1, 1) := by decide +kernel
theorem dX12_notNow_150 : decode cX12_notNow 150 = .ok (.invokevirtual 94, 3) := by decide +kernel
theorem dX12_notNow_153 : decode cX12_notNow 153 = .ok (.ireturn, 1) := by decide +kernel
theorem dX12_notNow_154 : decode cX12_notNow 154 = .ok (.aload_n 0, 1) := by decide +kernel
theorem dX12_notNow_155 : decode cX12_notNow 155 = .ok (.iconst 2, 1) := by decide +kernel
theorem dX12_notNow_156 : decode cX12_notNow 156 = .ok (.invokevirtual 324, 3) := by decide +kernel
theorem dX12_notNow_159 : decode cX12_notNow 159 = .ok (.ireturn, 1) := by decide +kernel
theorem dX12_notNow_160 : decode cX12_notNow 160 = .ok (.aload_n 0, 1) := by decide +kernel
theorem dX12_notNow_161 : decode cX12_notNow 161 = .ok (.iload_n 1, 1) := by decide +kernel
theorem dX12_notNow_162 : decode cX12_notNow 162 = .ok (.invokevirtual 114, 3) := by decide +kernel
theorem dX12_notNow_165 : decode cX12_notNow 165 = .ok (.ireturn, 1) := by decide +kernel
theorem dX12_notNow_166 : decode cX12_notNow 166 = .ok (.aload_n 0, 1) := by decide +kernel
theorem dX12_notNow_167 : decode cX12_notNow 167 = .ok (.iload_n 1, 1) := by decide +kernel
theorem dX12_notNow_168 : decode cX12_notNow 168 = .ok (.iload_n 2, 1) := by decide +kernel
theorem dX12_notNow_169 : decode cX12_notNow 169 = .ok (.invokevirtual 219, 3) := by decide +kernel
theorem dX12_notNow_172 : decode cX12_notNow 172 = .ok (.ireturn, 1) := by decide +kernel
theorem dX12_notNow_173 : decode cX12_notNow 173 = .ok (.aload_n 0, 1) := by decide +kernel
theorem dX12_notNow_174 : decode cX12_notNow 174 = .ok (.iload_n 1, 1) := by decide +kernel
theorem dX12_notNow_175 : decode cX12_notNow 175 = .ok (.invokevirtual 120, 3) := by decide +kernel
theorem dX12_notNow_178 : decode cX12_notNow 178 = .ok (.ireturn, 1) := by decide +kernel
theorem dX12_notNow_179 : decode cX12_notNow 179 = .ok (.aload_n 0, 1) := by decide +kernel
theorem dX12_notNow_180 : decode cX12_notNow 180 = .ok (.iconst 4, 1) := by decide +kernel
theorem dX12_notNow_181 : decode cX12_notNow 181 = .ok (.invokevirtual 324, 3) := by decide +kernel
theorem dX12_notNow_184 : decode cX12_notNow 184 = .ok (.ireturn, 1) := by decide +kernel
theorem dX12_notNow_185 : decode cX12_notNow 185 = .ok (.aload_n 0, 1) := by decide +kernel
theorem dX12_notNow_186 : decode cX12_notNow 186 = .ok (.iconst 3, 1) := by decide +kernel
theorem dX12_notNow_187 : decode cX12_notNow 187 = .ok (.invokevirtual 324, 3) := by decide +kernel
theorem dX12_notNow_190 : decode cX12_notNow 190 = .ok (.ireturn, 1) := by decide +kernel
theorem dX12_notNow_191 : decode cX12_notNow 191 = .ok (.aload_n 0, 1) := by decide +kernel
theorem dX12_notNow_192 : decode cX12_notNow 192 = .ok (.invokevirtual 186, 3) := by decide +kernel
theorem dX12_notNow_195 : decode cX12_notNow 195 = .ok (.ireturn, 1) := by decide +kernel
theorem dX12_doesNow_0 : decode cX12_doesNow 0 = .ok (.aload_n 0, 1) := by decide +kernel
theorem dX12_doesNow_1 : decode cX12_doesNow 1 = .ok (.getfield 45, 3) := by decide +kernel
theorem dX12_doesNow_4 : decode cX12_doesNow 4 = .ok (.iconst 0, 1) := by decide +kernel
theorem dX12_doesNow_5 : decode cX12_doesNow 5 = .ok (.iaload, 1) := by decide +kernel
theorem dX12_doesNow_6 : decode cX12_doesNow 6 = .ok (.istore_n 1, 1) := by decide +kernel
theorem dX12_doesNow_7 : decode cX12_doesNow 7 = .ok (.aload_n 0, 1) := by decide +kernel
theorem dX12_doesNow_8 : decode cX12_doesNow 8 = .ok (.getfield 45, 3) := by decide +kernel
theorem dX12_doesNow_11 : decode cX12_doesNow 11 = .ok (.iconst 1, 1) := by decide +kernel
theorem dX12_doesNow_12 : decode cX12_doesNow 12 = .ok (.iaload, 1) := by decide +kernel
theorem dX12_doesNow_13 : decode cX12_doesNow 13 = .ok (.istore_n 2, 1) := by decide +kernel
theorem dX12_doesNow_14 : decode cX12_doesNow 14 = .ok (.aload_n 0, 1) := by decide +kernel
theorem dX12_doesNow_15 : decode cX12_doesNow 15 = .ok (.getfield 303, 3) := by decide +kernel
theorem dX12_doesNow_18 : decode cX12_doesNow 18 = .ok (.tableswitch 174 97 117 #[156, 174, 168, 149, 174, 174, 174, 174, 111, 162, 105, 174, 143, 174, 174, 131, 137, 174, 98, 174, 124], 98) := by decide +kernel
theorem dX12_doesNow_116 : decode cX12_doesNow 116 = .ok (.aload_n 0, 1) := by decide +kernel
theorem dX12_doesNow_117 : decode cX12_doesNow 117 = .ok (.iload_n 1, 1) := by decide +kernel
theorem dX12_doesNow_118 : decode cX12_doesNow 118 = .ok (.iload_n 2, 1) := by decide +kernel
theorem dX12_doesNow_119 : decode cX12_doesNow 119 = .ok (.invokevirtual 88, 3) := by decide +kernel
theorem dX12_doesNow_122 : decode cX12_doesNow 122 = .ok (.ireturn, 1) := by decide +kernel
theorem dX12_doesNow_123 : decode cX12_doesNow 123 = .ok (.aload_n 0, 1) := by decide +kernel
theorem dX12_doesNow_124 : decode cX12_doesNow 124 = .ok (.iload_n 1, 1) := by decide +kernel
theorem dX12_doesNow_125 : decode cX12_doesNow 125 = .ok (.invokevirtual 138, 3) := by decide +kernel
theorem dX12_doesNow_128 : decode cX12_doesNow 128 = .ok (.ireturn, 1) := by decide +kernel
theorem dX12_doesNow_129 : decode cX12_doesNow 129 = .ok (.aload_n 0, 1) := by decide +kernel
theorem dX12_doesNow_130 : decode cX12_doesNow 130 = .ok (.iload_n 1, 1) := by decide +kernel
theorem dX12_doesNow_131 : decode cX12_doesNow 131 = .ok (.iload_n 2, 1) := by decide +kernel
theorem dX12_doesNow_132 : decode cX12_doesNow 132 = .ok (.aload_n 0, 1) := by decide +kernel
theorem dX12_doesNow_133 : decode cX12_doesNow 133 = .ok (.getfield 45, 3) := by decide +kernel
theorem dX12_doesNow_136 : decode cX12_doesNow 136 = .ok (.iconst 2, 1) := by decide +kernel
theorem dX12_doesNow_137 : decode cX12_doesNow 137 = .ok (.iaload, 1) := by decide +kernel
theorem dX12_doesNow_138 : decode cX12_doesNow 138 = .ok (.invokevirtual 216, 3) := by decide +kernel
theorem dX12_doesNow_141 : decode cX12_doesNow 141 = .ok (.ireturn, 1) := by decide +kernel
theorem dX12_doesNow_142 : decode cX12_doesNow 142 = .ok (.aload_n 0, 1) := by decide +kernel
theorem dX12_doesNow_143 : decode cX12_doesNow 143 = .ok (.iload_n 1, 1) := by decide +kernel
theorem dX12_doesNow_144 : decode cX12_doesNow 144 = .ok (.iload_n 2, 1) := by decide +kernel
theorem dX12_doesNow_145 : decode cX12_doesNow 145 = .ok (.invokevirtual 228, 3) := by decide +kernel
theorem dX12_doesNow_148 : decode cX12_doesNow 148 = .ok (.ireturn, 1) := by decide +kernel
theorem dX12_doesNow_149 : decode cX12_doesNow 149 = .ok (.aload_n 0, 1) := by decide +kernel
theorem dX12_doesNow_150 : decode cX12_doesNow 150 = .ok (.iload_n 1, 1) := by decide +kernel
theorem dX12_doesNow_151 : decode cX12_doesNow 151 = .ok (.invokevirtual 97, 3) := by decide +kernel
theorem dX12_doesNow_154 : decode cX12_doesNow 154 = .ok (.ireturn, 1) := by decide +kernel
theorem dX12_doesNow_155 : decode cX12_doesNow 155 = .ok (.aload_n 0, 1) := by decide +kernel
theorem dX12_doesNow_156 : decode cX12_doesNow 156 = .ok (.iconst 2, 1) := by decide +kernel
theorem dX12_doesNow_157 : decode cX12_doesNow 157 = .ok (.invokevirtual 111, 3) := by decide +kernel
theorem dX12_doesNow_160 : decode cX12_doesNow 160 = .ok (.ireturn, 1) := by decide +kernel
theorem dX12_doesNow_161 : decode cX12_doesNow 161 = .ok (.aload_n 0, 1) := by decide +kernel
theorem dX12_doesNow_162 : decode cX12_doesNow 162 = .ok (.iload_n 1, 1) := by decide +kernel
theorem dX12_doesNow_163 : decode cX12_doesNow 163 = .ok (.invokevirtual 117, 3) := by decide +kernel
theorem dX12_doesNow_166 : decode cX12_doesNow 166 = .ok (.ireturn, 1) := by decide +kernel
theorem dX12_doesNow_167 : decode cX12_doesNow 167 = .ok (.aload_n 0, 1) := by decide +kernel
theorem dX12_doesNow_168 : decode cX12_doesNow 168 = .ok (.iload_n 1, 1) := by decide +kernel
theorem dX12_doesNow_169 : decode cX12_doesNow 169 = .ok (.iload_n 2, 1) := by decide +kernel
theorem dX12_doesNow_170 : decode cX12_doesNow 170 = .ok (.invokevirtual 222, 3) := by decide +kernel
theorem dX12_doesNow_173 : decode cX12_doesNow 173 = .ok (.ireturn, 1) := by decide +kernel
theorem dX12_doesNow_174 : decode cX12_doesNow 174 = .ok (.aload_n 0, 1) := by decide +kernel
theorem dX12_doesNow_175 : decode cX12_doesNow 175 = .ok (.iload_n 1, 1) := by decide +kernel
theorem dX12_doesNow_176 : decode cX12_doesNow 176 = .ok (.invokevirtual 123, 3) := by decide +kernel
theorem dX12_doesNow_179 : decode cX12_doesNow 179 = .ok (.ireturn, 1) := by decide +kernel
theorem dX12_doesNow_180 : decode cX12_doesNow 180 = .ok (.aload_n 0, 1) := by decide +kernel
theorem dX12_doesNow_181 : decode cX12_doesNow 181 = .ok (.iconst 4, 1) := by decide +kernel
theorem dX12_doesNow_182 : decode cX12_doesNow 182 = .ok (.invokevirtual 111, 3) := by decide +kernel
theorem dX12_doesNow_185 : decode cX12_doesNow 185 = .ok (.ireturn, 1) := by decide +kernel
theorem dX12_doesNow_186 : decode cX12_doesNow 186 = .ok (.aload_n 0, 1) := by decide +kernel
theorem dX12_doesNow_187 : decode cX12_doesNow 187 = .ok (.iconst 3, 1) := by decide +kernel
theorem dX12_doesNow_188 : decode cX12_doesNow 188 = .ok (.invokevirtual 111, 3) := by decide +kernel
theorem dX12_doesNow_191 : decode cX12_doesNow 191 = .ok (.ireturn, 1) := by decide +kernel
theorem dX12_doesNow_192 : decode cX12_doesNow 192 = .ok (.aload_n 0, 1) := by decide +kernel
theorem dX12_doesNow_193 : decode cX12_doesNow 193 = .ok (.invokevirtual 189, 3) := by decide +kernel
theorem dX12_doesNow_196 : decode cX12_doesNow 196 = .ok (.ireturn, 1) := by decide +kernel
theorem dX12_doesAll_0 : decode cX12_doesAll 0 = .ok (.aload_n 0, 1) := by decide +kernel
theorem dX12_doesAll_1 : decode cX12_doesAll 1 = .ok (.iconst 0, 1) := by decide +kernel
theorem dX12_doesAll_2 : decode cX12_doesAll 2 = .ok (.putfield 327, 3) := by decide +kernel
theorem dX12_doesAll_5 : decode cX12_doesAll 5 = .ok (.aload_n 0, 1) := by decide +kernel
theorem dX12_doesAll_6 : decode cX12_doesAll 6 = .ok (.iconst 0, 1) := by decide +kernel
theorem dX12_doesAll_7 : decode cX12_doesAll 7 = .ok (.putfield 288, 3) := by decide +kernel
theorem dX12_doesAll_10 : decode cX12_doesAll 10 = .ok (.iconst 1, 1) := by decide +kernel
theorem dX12_doesAll_11 : decode cX12_doesAll 11 = .ok (.istore_n 1, 1) := by decide +kernel
theorem dX12_doesAll_12 : decode cX12_doesAll 12 = .ok (.iload_n 1, 1) := by decide +kernel
theorem dX12_doesAll_13 : decode cX12_doesAll 13 = .ok (.ifCond .eq 42, 3) := by decide +kernel
theorem dX12_doesAll_16 : decode cX12_doesAll 16 = .ok (.aload_n 0, 1) := by decide +kernel
theorem dX12_doesAll_17 : decode cX12_doesAll 17 = .ok (.invokevirtual 321, 3) := by decide +kernel
theorem dX12_doesAll_20 : decode cX12_doesAll 20 = .ok (.pop, 1) := by decide +kernel
theorem dX12_doesAll_21 : decode cX12_doesAll 21 = .ok (.aload_n 0, 1) := by decide +kernel
theorem dX12_doesAll_22 : decode cX12_doesAll 22 = .ok (.invokevirtual 330, 3) := by decide +kernel
theorem dX12_doesAll_25 : decode cX12_doesAll 25 = .ok (.ifCond .eq 5, 3) := by decide +kernel
theorem dX12_doesAll_28 : decode cX12_doesAll 28 = .ok (.iconst 0, 1) := by decide +kernel
theorem dX12_doesAll_29 : decode cX12_doesAll 29 = .ok (.ireturn, 1) := by decide +kernel
theorem dX12_doesAll_30 : decode cX12_doesAll 30 = .ok (.aload_n 0, 1) := by decide +kernel
theorem dX12_doesAll_31 : decode cX12_doesAll 31 = .ok (.invokevirtual 333, 3) := by decide +kernel
theorem dX12_doesAll_34 : decode cX12_doesAll 34 = .ok (.pop, 1) := by decide +kernel
theorem dX12_doesAll_35 : decode cX12_doesAll 35 = .ok (.aload_n 0, 1) := by decide +kernel
theorem dX12_doesAll_36 : decode cX12_doesAll 36 = .ok (.dup, 1) := by decide +kernel
theorem dX12_doesAll_37 : decode cX12_doesAll 37 = .ok (.getfield 327, 3) := by decide +kernel
theorem dX12_doesAll_40 : decode cX12_doesAll 40 = .ok (.iconst 1, 1) := by decide +kernel
theorem dX12_doesAll_41 : decode cX12_doesAll 41 = .ok (.iadd, 1) := by decide +kernel
theorem dX12_doesAll_42 : decode cX12_doesAll 42 = .ok (.putfield 327, 3) := by decide +kernel
theorem dX12_doesAll_45 : decode cX12_doesAll 45 = .ok (.aload_n 0, 1) := by decide +kernel
theorem dX12_doesAll_46 : decode cX12_doesAll 46 = .ok (.bipush 59, 2) := by decide +kernel
theorem dX12_doesAll_48 : decode cX12_doesAll 48 = .ok (.invokevirtual 297, 3) := by decide +kernel
theorem dX12_doesAll_51 : decode cX12_doesAll 51 = .ok (.istore_n 1, 1) := by decide +kernel
theorem dX12_doesAll_52 : decode cX12_doesAll 52 = .ok (.goto (-40), 3) := by decide +kernel
theorem dX12_doesAll_55 : decode cX12_doesAll 55 = .ok (.iconst 1, 1) := by decide +kernel
theorem dX12_doesAll_56 : decode cX12_doesAll 56 = .ok (.ireturn, 1) := by decide +kernel
theorem dX12_runScript_0 : decode cX12_runScript 0 = .ok (.aload_n 0, 1) := by decide +kernel
theorem dX12_runScript_1 : decode cX12_runScript 1 = .ok (.iconst 0, 1) := by decide +kernel
theorem dX12_runScript_2 : decode cX12_runScript 2 = .ok (.putfield 48, 3) := by decide +kernel
theorem dX12_runScript_5 : decode cX12_runScript 5 = .ok (.aload_n 0, 1) := by decide +kernel
theorem dX12_runScript_6 : decode cX12_runScript 6 = .ok (.invokevirtual 336, 3) := by decide +kernel
theorem dX12_runScript_9 : decode cX12_runScript 9 = .ok (.ifCond .ne 22, 3) := by decide +kernel
theorem dX12_runScript_12 : decode cX12_runScript 12 = .ok (.aload_n 0, 1) := by decide +kernel
theorem dX12_runScript_13 : decode cX12_runScript 13 = .ok (.aload_n 0, 1) := by decide +kernel
theorem dX12_runScript_14 : decode cX12_runScript 14 = .ok (.getfield 288, 3) := by decide +kernel
theorem dX12_runScript_17 : decode cX12_runScript 17 = .ok (.putfield 38, 3) := by decide +kernel
theorem dX12_runScript_20 : decode cX12_runScript 20 = .ok (.aload_n 0, 1) := by decide +kernel
theorem dX12_runScript_21 : decode cX12_runScript 21 = .ok (.iconst 0, 1) := by decide +kernel
theorem dX12_runScript_22 : decode cX12_runScript 22 = .ok (.putfield 285, 3) := by decide +kernel
theorem dX12_runScript_25 : decode cX12_runScript 25 = .ok (.aload_n 0, 1) := by decide +kernel
theorem dX12_runScript_26 : decode cX12_runScript 26 = .ok (.iconst 1, 1) := by decide +kernel
theorem dX12_runScript_27 : decode cX12_runScript 27 = .ok (.invokevirtual 82, 3) := by decide +kernel
theorem dX12_runScript_30 : decode cX12_runScript 30 = .ok (.ireturn, 1) := by decide +kernel
theorem dX12_runScript_31 : decode cX12_runScript 31 = .ok (.aload_n 0, 1) := by decide +kernel
theorem dX12_runScript_32 : decode cX12_runScript 32 = .ok (.invokevirtual 57, 3) := by decide +kernel
theorem dX12_runScript_35 : decode cX12_runScript 35 = .ok (.aload_n 0, 1) := by decide +kernel
theorem dX12_runScript_36 : decode cX12_runScript 36 = .ok (.invokevirtual 339, 3) := by decide +kernel
theorem dX12_runScript_39 : decode cX12_runScript 39 = .ok (.istore_n 1, 1) := by decide +kernel
theorem dX12_runScript_40 : decode cX12_runScript 40 = .ok (.aload_n 0, 1) := by decide +kernel
theorem dX12_runScript_41 : decode cX12_runScript 41 = .ok (.iconst 0, 1) := by decide +kernel
theorem dX12_runScript_42 : decode cX12_runScript 42 = .ok (.putfield 285, 3) := by decide +kernel
theorem dX12_runScript_45 : decode cX12_runScript 45 = .ok (.iload_n 1, 1) := by decide +kernel
theorem dX12_runScript_46 : decode cX12_runScript 46 = .ok (.ifCond .eq 12, 3) := by decide +kernel
theorem dX12_runScript_49 : decode cX12_runScript 49 = .ok (.aload_n 0, 1) := by decide +kernel
theorem dX12_runScript_50 : decode cX12_runScript 50 = .ok (.invokevirtual 60, 3) := by decide +kernel
theorem dX12_runScript_53 : decode cX12_runScript 53 = .ok (.aload_n 0, 1) := by decide +kernel
theorem dX12_runScript_54 : decode cX12_runScript 54 = .ok (.getfield 327, 3) := by decide +kernel
theorem dX12_runScript_57 : decode cX12_runScript 57 = .ok (.ireturn, 1) := by decide +kernel
theorem dX12_runScript_58 : decode cX12_runScript 58 = .ok (.aload_n 0, 1) := by decide +kernel
theorem dX12_runScript_59 : decode cX12_runScript 59 = .ok (.invokevirtual 342, 3) := by decide +kernel
theorem dX12_runScript_62 : decode cX12_runScript 62 = .ok (.aload_n 0, 1) := by decide +kernel
theorem dX12_runScript_63 : decode cX12_runScript 63 = .ok (.aload_n 0, 1) := by decide +kernel
theorem dX12_runScript_64 : decode cX12_runScript 64 = .ok (.getfield 327, 3) := by decide +kernel
theorem dX12_runScript_67 : decode cX12_runScript 67 = .ok (.putfield 42, 3) := by decide +kernel
theorem dX12_runScript_70 : decode cX12_runScript 70 = .ok (.aload_n 0, 1) := by decide +kernel
theorem dX12_runScript_71 : decode cX12_runScript 71 = .ok (.iconst 2, 1) := by decide +kernel
theorem dX12_runScript_72 : decode cX12_runScript 72 = .ok (.invokevirtual 82, 3) := by decide +kernel
theorem dX12_runScript_75 : decode cX12_runScript 75 = .ok (.ireturn, 1) := by decide +kernel
theorem dX12_errorPosition_0 : decode cX12_errorPosition 0 = .ok (.aload_n 0, 1) := by decide +kernel
theorem dX12_errorPosition_1 : decode cX12_errorPosition 1 = .ok (.iconst 0, 1) := by decide +kernel
theorem dX12_errorPosition_2 : decode cX12_errorPosition 2 = .ok (.putfield 48, 3) := by decide +kernel
theorem dX12_errorPosition_5 : decode cX12_errorPosition 5 = .ok (.aload_n 0, 1) := by decide +kernel
theorem dX12_errorPosition_6 : decode cX12_errorPosition 6 = .ok (.getfield 38, 3) := by decide +kernel
theorem dX12_errorPosition_9 : decode cX12_errorPosition 9 = .ok (.ifCond .ge 11, 3) := by decide +kernel
theorem dX12_errorPosition_12 : decode cX12_errorPosition 12 = .ok (.aload_n 0, 1) := by decide +kernel
theorem dX12_errorPosition_13 : decode cX12_errorPosition 13 = .ok (.iconst 1, 1) := by decide +kernel
theorem dX12_errorPosition_14 : decode cX12_errorPosition 14 = .ok (.invokevirtual 82, 3) := by decide +kernel
theorem dX12_errorPosition_17 : decode cX12_errorPosition 17 = .ok (.goto 7, 3) := by decide +kernel
theorem dX12_errorPosition_20 : decode cX12_errorPosition 20 = .ok (.aload_n 0, 1) := by decide +kernel
theorem dX12_errorPosition_21 : decode cX12_errorPosition 21 = .ok (.getfield 38, 3) := by decide +kernel
theorem dX12_errorPosition_24 : decode cX12_errorPosition 24 = .ok (.ireturn, 1) := by decide +kernel
theorem dX12_failedCommand_0 : decode cX12_failedCommand 0 = .ok (.aload_n 0, 1) := by decide +kernel
theorem dX12_failedCommand_1 : decode cX12_failedCommand 1 = .ok (.iconst 0, 1) := by decide +kernel
theorem dX12_failedCommand_2 : decode cX12_failedCommand 2 = .ok (.putfield 48, 3) := by decide +kernel
theorem dX12_failedCommand_5 : decode cX12_failedCommand 5 = .ok (.aload_n 0, 1) := by decide +kernel
theorem dX12_failedCommand_6 : decode cX12_failedCommand 6 = .ok (.getfield 42, 3) := by decide +kernel
theorem dX12_failedCommand_9 : decode cX12_failedCommand 9 = .ok (.ifCond .ge 11, 3) := by decide +kernel
theorem dX12_failedCommand_12 : decode cX12_failedCommand 12 = .ok (.aload_n 0, 1) := by decide +kernel
theorem dX12_failedCommand_13 : decode cX12_failedCommand 13 = .ok (.iconst 1, 1) := by decide +kernel
theorem dX12_failedCommand_14 : decode cX12_failedCommand 14 = .ok (.invokevirtual 82, 3) := by decide +kernel
theorem dX12_failedCommand_17 : decode cX12_failedCommand 17 = .ok (.goto 7, 3) := by decide +kernel
theorem dX12_failedCommand_20 : decode cX12_failedCommand 20 = .ok (.aload_n 0, 1) := by decide +kernel
theorem dX12_failedCommand_21 : decode cX12_failedCommand 21 = .ok (.getfield 42, 3) := by decide +kernel
theorem dX12_failedCommand_24 : decode cX12_failedCommand 24 = .ok (.ireturn, 1) := by decide +kernel
theorem dX12_undo_0 : decode cX12_undo 0 = .ok (.aload_n 0, 1) := by decide +kernel
theorem dX12_undo_1 : decode cX12_undo 1 = .ok (.iconst 0, 1) := by decide +kernel
theorem dX12_undo_2 : decode cX12_undo 2 = .ok (.putfield 48, 3) := by decide +kernel
theorem dX12_undo_5 : decode cX12_undo 5 = .ok (.aload_n 0, 1) := by decide +kernel
theorem dX12_undo_6 : decode cX12_undo 6 = .ok (.getfield 51, 3) := by decide +kernel
theorem dX12_undo_9 : decode cX12_undo 9 = .ok (.ifCond .ne 9, 3) := by decide +kernel
theorem dX12_undo_12 : decode cX12_undo 12 = .ok (.aload_n 0, 1) := by decide +kernel
theorem dX12_undo_13 : decode cX12_undo 13 = .ok (.iconst 1, 1) := by decide +kernel
theorem dX12_undo_14 : decode cX12_undo 14 = .ok (.invokevirtual 82, 3) := by decide +kernel
theorem dX12_undo_17 : decode cX12_undo 17 = .ok (.ireturn, 1) := by decide +kernel
theorem dX12_undo_18 : decode cX12_undo 18 = .ok (.aload_n 0, 1) := by decide +kernel
theorem dX12_undo_19 : decode cX12_undo 19 = .ok (.dup, 1) := by decide +kernel
theorem dX12_undo_20 : decode cX12_undo 20 = .ok (.getfield 51, 3) := by decide +kernel
theorem dX12_undo_23 : decode cX12_undo 23 = .ok (.iconst 1, 1) := by decide +kernel
theorem dX12_undo_24 : decode cX12_undo 24 = .ok (.isub, 1) := by decide +kernel
theorem dX12_undo_25 : decode cX12_undo 25 = .ok (.putfield 51, 3) := by decide +kernel
theorem dX12_undo_28 : decode cX12_undo 28 = .ok (.aload_n 0, 1) := by decide +kernel
theorem dX12_undo_29 : decode cX12_undo 29 = .ok (.getfield 54, 3) := by decide +kernel
theorem dX12_undo_32 : decode cX12_undo 32 = .ok (.aload_n 0, 1) := by decide +kernel
theorem dX12_undo_33 : decode cX12_undo 33 = .ok (.getfield 51, 3) := by decide +kernel
theorem dX12_undo_36 : decode cX12_undo 36 = .ok (.iadd, 1) := by decide +kernel
theorem dX12_undo_37 : decode cX12_undo 37 = .ok (.bipush 8, 2) := by decide +kernel
theorem dX12_undo_39 : decode cX12_undo 39 = .ok (.irem, 1) := by decide +kernel
theorem dX12_undo_40 : decode cX12_undo 40 = .ok (.istore_n 1, 1) := by decide +kernel
theorem dX12_undo_41 : decode cX12_undo 41 = .ok (.iconst 0, 1) := by decide +kernel
theorem dX12_undo_42 : decode cX12_undo 42 = .ok (.istore_n 2, 1) := by decide +kernel
theorem dX12_undo_43 : decode cX12_undo 43 = .ok (.iload_n 2, 1) := by decide +kernel
theorem dX12_undo_44 : decode cX12_undo 44 = .ok (.sipush 146, 3) := by decide +kernel
theorem dX12_undo_47 : decode cX12_undo 47 = .ok (.if_icmp .ge 27, 3) := by decide +kernel
theorem dX12_undo_50 : decode cX12_undo 50 = .ok (.aload_n 0, 1) := by decide +kernel
theorem dX12_undo_51 : decode cX12_undo 51 = .ok (.getfield 7, 3) := by decide +kernel
theorem dX12_undo_54 : decode cX12_undo 54 = .ok (.iload_n 2, 1) := by decide +kernel
theorem dX12_undo_55 : decode cX12_undo 55 = .ok (.aload_n 0, 1) := by decide +kernel
theorem dX12_undo_56 : decode cX12_undo 56 = .ok (.getfield 13, 3) := by decide +kernel
theorem dX12_undo_59 : decode cX12_undo 59 = .ok (.sipush 146, 3) := by decide +kernel
theorem dX12_undo_62 : decode cX12_undo 62 = .ok (.iload_n 1, 1) := by decide +kernel
theorem dX12_undo_63 : decode cX12_undo 63 = .ok (.imul, 1) := by decide +kernel
theorem dX12_undo_64 : decode cX12_undo 64 = .ok (.iload_n 2, 1) := by decide +kernel
theorem dX12_undo_65 : decode cX12_undo 65 = .ok (.iadd, 1) := by decide +kernel
theorem dX12_undo_66 : decode cX12_undo 66 = .ok (.iaload, 1) := by decide +kernel
theorem dX12_undo_67 : decode cX12_undo 67 = .ok (.iastore, 1) := by decide +kernel
theorem dX12_undo_68 : decode cX12_undo 68 = .ok (.iinc 2 1, 3) := by decide +kernel
theorem dX12_undo_71 : decode cX12_undo 71 = .ok (.goto (-28), 3) := by decide +kernel
theorem dX12_undo_74 : decode cX12_undo 74 = .ok (.aload_n 0, 1) := by decide +kernel
theorem dX12_undo_75 : decode cX12_undo 75 = .ok (.getfield 51, 3) := by decide +kernel
theorem dX12_undo_78 : decode cX12_undo 78 = .ok (.ireturn, 1) := by decide +kernel
theorem dX12_save_0 : decode cX12_save 0 = .ok (.aload_n 0, 1) := by decide +kernel
theorem dX12_save_1 : decode cX12_save 1 = .ok (.iconst 0, 1) := by decide +kernel
theorem dX12_save_2 : decode cX12_save 2 = .ok (.putfield 48, 3) := by decide +kernel
theorem dX12_save_5 : decode cX12_save 5 = .ok (.iconst 0, 1) := by decide +kernel
theorem dX12_save_6 : decode cX12_save 6 = .ok (.istore_n 1, 1) := by decide +kernel
theorem dX12_save_7 : decode cX12_save 7 = .ok (.iload_n 1, 1) := by decide +kernel
theorem dX12_save_8 : decode cX12_save 8 = .ok (.sipush 146, 3) := by decide +kernel
theorem dX12_save_11 : decode cX12_save 11 = .ok (.if_icmp .ge 21, 3) := by decide +kernel
theorem dX12_save_14 : decode cX12_save 14 = .ok (.aload_n 0, 1) := by decide +kernel
theorem dX12_save_15 : decode cX12_save 15 = .ok (.getfield 16, 3) := by decide +kernel
theorem dX12_save_18 : decode cX12_save 18 = .ok (.iload_n 1, 1) := by decide +kernel
theorem dX12_save_19 : decode cX12_save 19 = .ok (.aload_n 0, 1) := by decide +kernel
theorem dX12_save_20 : decode cX12_save 20 = .ok (.getfield 7, 3) := by decide +kernel
theorem dX12_save_23 : decode cX12_save 23 = .ok (.iload_n 1, 1) := by decide +kernel
theorem dX12_save_24 : decode cX12_save 24 = .ok (.iaload, 1) := by decide +kernel
theorem dX12_save_25 : decode cX12_save 25 = .ok (.iastore, 1) := by decide +kernel
theorem dX12_save_26 : decode cX12_save 26 = .ok (.iinc 1 1, 3) := by decide +kernel
theorem dX12_save_29 : decode cX12_save 29 = .ok (.goto (-22), 3) := by decide +kernel
theorem dX12_save_32 : decode cX12_save 32 = .ok (.aload_n 0, 1) := by decide +kernel
theorem dX12_save_33 : decode cX12_save 33 = .ok (.iconst 1, 1) := by decide +kernel
theorem dX12_save_34 : decode cX12_save 34 = .ok (.putfield 345, 3) := by decide +kernel
theorem dX12_save_37 : decode cX12_save 37 = .ok (.aload_n 0, 1) := by decide +kernel
theorem dX12_save_38 : decode cX12_save 38 = .ok (.getfield 7, 3) := by decide +kernel
theorem dX12_save_41 : decode cX12_save 41 = .ok (.iconst 0, 1) := by decide +kernel
theorem dX12_save_42 : decode cX12_save 42 = .ok (.iaload, 1) := by decide +kernel
theorem dX12_save_43 : decode cX12_save 43 = .ok (.ireturn, 1) := by decide +kernel
theorem dX12_restore_0 : decode cX12_restore 0 = .ok (.aload_n 0, 1) := by decide +kernel
theorem dX12_restore_1 : decode cX12_restore 1 = .ok (.iconst 0, 1) := by decide +kernel
theorem dX12_restore_2 : decode cX12_restore 2 = .ok (.putfield 48, 3) := by decide +kernel
theorem dX12_restore_5 : decode cX12_restore 5 = .ok (.aload_n 0, 1) := by decide +kernel
theorem dX12_restore_6 : decode cX12_restore 6 = .ok (.getfield 345, 3) := by decide +kernel
theorem dX12_restore_9 : decode cX12_restore 9 = .ok (.ifCond .ne 9, 3) := by decide +kernel
theorem dX12_restore_12 : decode cX12_restore 12 = .ok (.aload_n 0, 1) := by decide +kernel
theorem dX12_restore_13 : decode cX12_restore 13 = .ok (.iconst 1, 1) := by decide +kernel
theorem dX12_restore_14 : decode cX12_restore 14 = .ok (.invokevirtual 82, 3) := by decide +kernel
theorem dX12_restore_17 : decode cX12_restore 17 = .ok (.ireturn, 1) := by decide +kernel
theorem dX12_restore_18 : decode cX12_restore 18 = .ok (.iconst 0, 1) := by decide +kernel
theorem dX12_restore_19 : decode cX12_restore 19 = .ok (.istore_n 1, 1) := by decide +kernel
theorem dX12_restore_20 : decode cX12_restore 20 = .ok (.iload_n 1, 1) := by decide +kernel
theorem dX12_restore_21 : decode cX12_restore 21 = .ok (.sipush 146, 3) := by decide +kernel
theorem dX12_restore_24 : decode cX12_restore 24 = .ok (.if_icmp .ge 21, 3) := by decide +kernel
theorem dX12_restore_27 : decode cX12_restore 27 = .ok (.aload_n 0, 1) := by decide +kernel
theorem dX12_restore_28 : decode cX12_restore 28 = .ok (.getfield 7, 3) := by decide +kernel
theorem dX12_restore_31 : decode cX12_restore 31 = .ok (.iload_n 1, 1) := by decide +kernel
theorem dX12_restore_32 : decode cX12_restore 32 = .ok (.aload_n 0, 1) := by decide +kernel
theorem dX12_restore_33 : decode cX12_restore 33 = .ok (.getfield 16, 3) := by decide +kernel
theorem dX12_restore_36 : decode cX12_restore 36 = .ok (.iload_n 1, 1) := by decide +kernel
theorem dX12_restore_37 : decode cX12_restore 37 = .ok (.iaload, 1) := by decide +kernel
theorem dX12_restore_38 : decode cX12_restore 38 = .ok (.iastore, 1) := by decide +kernel
theorem dX12_restore_39 : decode cX12_restore 39 = .ok (.iinc 1 1, 3) := by decide +kernel
theorem dX12_restore_42 : decode cX12_restore 42 = .ok (.goto (-22), 3) := by decide +kernel
theorem dX12_restore_45 : decode cX12_restore 45 = .ok (.aload_n 0, 1) := by decide +kernel
theorem dX12_restore_46 : decode cX12_restore 46 = .ok (.iconst 0, 1) := by decide +kernel
theorem dX12_restore_47 : decode cX12_restore 47 = .ok (.putfield 51, 3) := by decide +kernel
theorem dX12_restore_50 : decode cX12_restore 50 = .ok (.aload_n 0, 1) := by decide +kernel
theorem dX12_restore_51 : decode cX12_restore 51 = .ok (.iconst 0, 1) := by decide +kernel
theorem dX12_restore_52 : decode cX12_restore 52 = .ok (.putfield 54, 3) := by decide +kernel
theorem dX12_restore_55 : decode cX12_restore 55 = .ok (.aload_n 0, 1) := by decide +kernel
theorem dX12_restore_56 : decode cX12_restore 56 = .ok (.getfield 7, 3) := by decide +kernel
theorem dX12_restore_59 : decode cX12_restore 59 = .ok (.iconst 0, 1) := by decide +kernel
theorem dX12_restore_60 : decode cX12_restore 60 = .ok (.iaload, 1) := by decide +kernel
theorem dX12_restore_61 : decode cX12_restore 61 = .ok (.ireturn, 1) := by decide +kernel

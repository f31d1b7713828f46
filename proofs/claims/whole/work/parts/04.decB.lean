theorem dX13_init_0 : decode cX13_init 0 = .ok (.aload_n 0, 1) := by decide +kernel
theorem dX13_init_1 : decode cX13_init 1 = .ok (.invokespecial 1, 3) := by decide +kernel
theorem dX13_init_4 : decode cX13_init 4 = .ok (.aload_n 0, 1) := by decide +kernel
theorem dX13_init_5 : decode cX13_init 5 = .ok (.bipush 50, 2) := by decide +kernel
theorem dX13_init_7 : decode cX13_init 7 = .ok (.newarray .int, 2) := by decide +kernel
theorem dX13_init_9 : decode cX13_init 9 = .ok (.putfield 7, 3) := by decide +kernel
theorem dX13_init_12 : decode cX13_init 12 = .ok (.aload_n 0, 1) := by decide +kernel
theorem dX13_init_13 : decode cX13_init 13 = .ok (.sipush 400, 3) := by decide +kernel
theorem dX13_init_16 : decode cX13_init 16 = .ok (.newarray .int, 2) := by decide +kernel
theorem dX13_init_18 : decode cX13_init 18 = .ok (.putfield 13, 3) := by decide +kernel
theorem dX13_init_21 : decode cX13_init 21 = .ok (.aload_n 0, 1) := by decide +kernel
theorem dX13_init_22 : decode cX13_init 22 = .ok (.bipush 50, 2) := by decide +kernel
theorem dX13_init_24 : decode cX13_init 24 = .ok (.newarray .int, 2) := by decide +kernel
theorem dX13_init_26 : decode cX13_init 26 = .ok (.putfield 16, 3) := by decide +kernel
theorem dX13_init_29 : decode cX13_init 29 = .ok (.aload_n 0, 1) := by decide +kernel
theorem dX13_init_30 : decode cX13_init 30 = .ok (.bipush 50, 2) := by decide +kernel
theorem dX13_init_32 : decode cX13_init 32 = .ok (.newarray .int, 2) := by decide +kernel
theorem dX13_init_34 : decode cX13_init 34 = .ok (.putfield 19, 3) := by decide +kernel
theorem dX13_init_37 : decode cX13_init 37 = .ok (.aload_n 0, 1) := by decide +kernel
theorem dX13_init_38 : decode cX13_init 38 = .ok (.bipush 14, 2) := by decide +kernel
theorem dX13_init_40 : decode cX13_init 40 = .ok (.newarray .int, 2) := by decide +kernel
theorem dX13_init_42 : decode cX13_init 42 = .ok (.putfield 22, 3) := by decide +kernel
theorem dX13_init_45 : decode cX13_init 45 = .ok (.aload_n 0, 1) := by decide +kernel
theorem dX13_init_46 : decode cX13_init 46 = .ok (.bipush 14, 2) := by decide +kernel
theorem dX13_init_48 : decode cX13_init 48 = .ok (.newarray .int, 2) := by decide +kernel
theorem dX13_init_50 : decode cX13_init 50 = .ok (.putfield 25, 3) := by decide +kernel
theorem dX13_init_53 : decode cX13_init 53 = .ok (.aload_n 0, 1) := by decide +kernel
theorem dX13_init_54 : decode cX13_init 54 = .ok (.bipush 7, 2) := by decide +kernel
theorem dX13_init_56 : decode cX13_init 56 = .ok (.newarray .int, 2) := by decide +kernel
theorem dX13_init_58 : decode cX13_init 58 = .ok (.putfield 28, 3) := by decide +kernel
theorem dX13_init_61 : decode cX13_init 61 = .ok (.aload_n 0, 1) := by decide +kernel
theorem dX13_init_62 : decode cX13_init 62 = .ok (.bipush 49, 2) := by decide +kernel
theorem dX13_init_64 : decode cX13_init 64 = .ok (.newarray .int, 2) := by decide +kernel
theorem dX13_init_66 : decode cX13_init 66 = .ok (.putfield 31, 3) := by decide +kernel
theorem dX13_init_69 : decode cX13_init 69 = .ok (.aload_n 0, 1) := by decide +kernel
theorem dX13_init_70 : decode cX13_init 70 = .ok (.bipush 14, 2) := by decide +kernel
theorem dX13_init_72 : decode cX13_init 72 = .ok (.newarray .int, 2) := by decide +kernel
theorem dX13_init_74 : decode cX13_init 74 = .ok (.putfield 34, 3) := by decide +kernel
theorem dX13_init_77 : decode cX13_init 77 = .ok (.aload_n 0, 1) := by decide +kernel
theorem dX13_init_78 : decode cX13_init 78 = .ok (.bipush 101, 2) := by decide +kernel
theorem dX13_init_80 : decode cX13_init 80 = .ok (.newarray .int, 2) := by decide +kernel
theorem dX13_init_82 : decode cX13_init 82 = .ok (.putfield 37, 3) := by decide +kernel
theorem dX13_init_85 : decode cX13_init 85 = .ok (.aload_n 0, 1) := by decide +kernel
theorem dX13_init_86 : decode cX13_init 86 = .ok (.bipush 101, 2) := by decide +kernel
theorem dX13_init_88 : decode cX13_init 88 = .ok (.newarray .int, 2) := by decide +kernel
theorem dX13_init_90 : decode cX13_init 90 = .ok (.putfield 40, 3) := by decide +kernel
theorem dX13_init_93 : decode cX13_init 93 = .ok (.aload_n 0, 1) := by decide +kernel
theorem dX13_init_94 : decode cX13_init 94 = .ok (.bipush 101, 2) := by decide +kernel
theorem dX13_init_96 : decode cX13_init 96 = .ok (.newarray .int, 2) := by decide +kernel
theorem dX13_init_98 : decode cX13_init 98 = .ok (.putfield 43, 3) := by decide +kernel
theorem dX13_init_101 : decode cX13_init 101 = .ok (.aload_n 0, 1) := by decide +kernel
theorem dX13_init_102 : decode cX13_init 102 = .ok (.bipush 101, 2) := by decide +kernel
theorem dX13_init_104 : decode cX13_init 104 = .ok (.newarray .int, 2) := by decide +kernel
theorem dX13_init_106 : decode cX13_init 106 = .ok (.putfield 46, 3) := by decide +kernel
theorem dX13_init_109 : decode cX13_init 109 = .ok (.aload_n 0, 1) := by decide +kernel
theorem dX13_init_110 : decode cX13_init 110 = .ok (.sipush 300, 3) := by decide +kernel
theorem dX13_init_113 : decode cX13_init 113 = .ok (.newarray .char, 2) := by decide +kernel
theorem dX13_init_115 : decode cX13_init 115 = .ok (.putfield 49, 3) := by decide +kernel
theorem dX13_init_118 : decode cX13_init 118 = .ok (.aload_n 0, 1) := by decide +kernel
theorem dX13_init_119 : decode cX13_init 119 = .ok (.bipush 60, 2) := by decide +kernel
theorem dX13_init_121 : decode cX13_init 121 = .ok (.newarray .char, 2) := by decide +kernel
theorem dX13_init_123 : decode cX13_init 123 = .ok (.putfield 53, 3) := by decide +kernel
theorem dX13_init_126 : decode cX13_init 126 = .ok (.aload_n 0, 1) := by decide +kernel
theorem dX13_init_127 : decode cX13_init 127 = .ok (.iconst (-1), 1) := by decide +kernel
theorem dX13_init_128 : decode cX13_init 128 = .ok (.putfield 56, 3) := by decide +kernel
theorem dX13_init_131 : decode cX13_init 131 = .ok (.aload_n 0, 1) := by decide +kernel
theorem dX13_init_132 : decode cX13_init 132 = .ok (.iconst (-1), 1) := by decide +kernel
theorem dX13_init_133 : decode cX13_init 133 = .ok (.putfield 60, 3) := by decide +kernel
theorem dX13_init_136 : decode cX13_init 136 = .ok (.aload_n 0, 1) := by decide +kernel
theorem dX13_init_137 : decode cX13_init 137 = .ok (.iconst 4, 1) := by decide +kernel
theorem dX13_init_138 : decode cX13_init 138 = .ok (.newarray .int, 2) := by decide +kernel
theorem dX13_init_140 : decode cX13_init 140 = .ok (.putfield 63, 3) := by decide +kernel
theorem dX13_init_143 : decode cX13_init 143 = .ok (.return_, 1) := by decide +kernel
theorem dX13_thrown_0 : decode cX13_thrown 0 = .ok (.aload_n 0, 1) := by decide +kernel
theorem dX13_thrown_1 : decode cX13_thrown 1 = .ok (.getfield 66, 3) := by decide +kernel
theorem dX13_thrown_4 : decode cX13_thrown 4 = .ok (.ireturn, 1) := by decide +kernel
theorem dX13_fails_0 : decode cX13_fails 0 = .ok (.aload_n 0, 1) := by decide +kernel
theorem dX13_fails_1 : decode cX13_fails 1 = .ok (.iload_n 1, 1) := by decide +kernel
theorem dX13_fails_2 : decode cX13_fails 2 = .ok (.putfield 66, 3) := by decide +kernel
theorem dX13_fails_5 : decode cX13_fails 5 = .ok (.iconst 0, 1) := by decide +kernel
theorem dX13_fails_6 : decode cX13_fails 6 = .ok (.ireturn, 1) := by decide +kernel
theorem dX13_isBetween_0 : decode cX13_isBetween 0 = .ok (.iload_n 1, 1) := by decide +kernel
theorem dX13_isBetween_1 : decode cX13_isBetween 1 = .ok (.iload_n 0, 1) := by decide +kernel
theorem dX13_isBetween_2 : decode cX13_isBetween 2 = .ok (.if_icmp .gt 12, 3) := by decide +kernel
theorem dX13_isBetween_5 : decode cX13_isBetween 5 = .ok (.iload_n 0, 1) := by decide +kernel
theorem dX13_isBetween_6 : decode cX13_isBetween 6 = .ok (.iload_n 2, 1) := by decide +kernel
theorem dX13_isBetween_7 : decode cX13_isBetween 7 = .ok (.if_icmp .gt 7, 3) := by decide +kernel
theorem dX13_isBetween_10 : decode cX13_isBetween 10 = .ok (.iconst 1, 1) := by decide +kernel
theorem dX13_isBetween_11 : decode cX13_isBetween 11 = .ok (.goto 4, 3) := by decide +kernel
theorem dX13_isBetween_14 : decode cX13_isBetween 14 = .ok (.iconst 0, 1) := by decide +kernel
theorem dX13_isBetween_15 : decode cX13_isBetween 15 = .ok (.ireturn, 1) := by decide +kernel
theorem dX13_copies_0 : decode cX13_copies 0 = .ok (.iconst 0, 1) := by decide +kernel
theorem dX13_copies_1 : decode cX13_copies 1 = .ok (.istore_n 1, 1) := by decide +kernel
theorem dX13_copies_2 : decode cX13_copies 2 = .ok (.iload_n 1, 1) := by decide +kernel
theorem dX13_copies_3 : decode cX13_copies 3 = .ok (.bipush 50, 2) := by decide +kernel
theorem dX13_copies_5 : decode cX13_copies 5 = .ok (.if_icmp .ge 21, 3) := by decide +kernel
theorem dX13_copies_8 : decode cX13_copies 8 = .ok (.aload_n 0, 1) := by decide +kernel
theorem dX13_copies_9 : decode cX13_copies 9 = .ok (.getfield 19, 3) := by decide +kernel
theorem dX13_copies_12 : decode cX13_copies 12 = .ok (.iload_n 1, 1) := by decide +kernel
theorem dX13_copies_13 : decode cX13_copies 13 = .ok (.aload_n 0, 1) := by decide +kernel
theorem dX13_copies_14 : decode cX13_copies 14 = .ok (.getfield 7, 3) := by decide +kernel
theorem dX13_copies_17 : decode cX13_copies 17 = .ok (.iload_n 1, 1) := by decide +kernel
theorem dX13_copies_18 : decode cX13_copies 18 = .ok (.iaload, 1) := by decide +kernel
theorem dX13_copies_19 : decode cX13_copies 19 = .ok (.iastore, 1) := by decide +kernel
theorem dX13_copies_20 : decode cX13_copies 20 = .ok (.iinc 1 1, 3) := by decide +kernel
theorem dX13_copies_23 : decode cX13_copies 23 = .ok (.goto (-21), 3) := by decide +kernel
theorem dX13_copies_26 : decode cX13_copies 26 = .ok (.return_, 1) := by decide +kernel
theorem dX13_goesBack_0 : decode cX13_goesBack 0 = .ok (.iconst 0, 1) := by decide +kernel
theorem dX13_goesBack_1 : decode cX13_goesBack 1 = .ok (.istore_n 1, 1) := by decide +kernel
theorem dX13_goesBack_2 : decode cX13_goesBack 2 = .ok (.iload_n 1, 1) := by decide +kernel
theorem dX13_goesBack_3 : decode cX13_goesBack 3 = .ok (.bipush 50, 2) := by decide +kernel
theorem dX13_goesBack_5 : decode cX13_goesBack 5 = .ok (.if_icmp .ge 21, 3) := by decide +kernel
theorem dX13_goesBack_8 : decode cX13_goesBack 8 = .ok (.aload_n 0, 1) := by decide +kernel
theorem dX13_goesBack_9 : decode cX13_goesBack 9 = .ok (.getfield 7, 3) := by decide +kernel
theorem dX13_goesBack_12 : decode cX13_goesBack 12 = .ok (.iload_n 1, 1) := by decide +kernel
theorem dX13_goesBack_13 : decode cX13_goesBack 13 = .ok (.aload_n 0, 1) := by decide +kernel
theorem dX13_goesBack_14 : decode cX13_goesBack 14 = .ok (.getfield 19, 3) := by decide +kernel
theorem dX13_goesBack_17 : decode cX13_goesBack 17 = .ok (.iload_n 1, 1) := by decide +kernel
theorem dX13_goesBack_18 : decode cX13_goesBack 18 = .ok (.iaload, 1) := by decide +kernel
theorem dX13_goesBack_19 : decode cX13_goesBack 19 = .ok (.iastore, 1) := by decide +kernel
theorem dX13_goesBack_20 : decode cX13_goesBack 20 = .ok (.iinc 1 1, 3) := by decide +kernel
theorem dX13_goesBack_23 : decode cX13_goesBack 23 = .ok (.goto (-21), 3) := by decide +kernel
theorem dX13_goesBack_26 : decode cX13_goesBack 26 = .ok (.return_, 1) := by decide +kernel
theorem dX13_keeps_0 : decode cX13_keeps 0 = .ok (.aload_n 0, 1) := by decide +kernel
theorem dX13_keeps_1 : decode cX13_keeps 1 = .ok (.getfield 69, 3) := by decide +kernel
theorem dX13_keeps_4 : decode cX13_keeps 4 = .ok (.bipush 8, 2) := by decide +kernel
theorem dX13_keeps_6 : decode cX13_keeps 6 = .ok (.if_icmp .ne 26, 3) := by decide +kernel
theorem dX13_keeps_9 : decode cX13_keeps 9 = .ok (.aload_n 0, 1) := by decide +kernel
theorem dX13_keeps_10 : decode cX13_keeps 10 = .ok (.aload_n 0, 1) := by decide +kernel
theorem dX13_keeps_11 : decode cX13_keeps 11 = .ok (.getfield 72, 3) := by decide +kernel
theorem dX13_keeps_14 : decode cX13_keeps 14 = .ok (.iconst 1, 1) := by decide +kernel
theorem dX13_keeps_15 : decode cX13_keeps 15 = .ok (.iadd, 1) := by decide +kernel
theorem dX13_keeps_16 : decode cX13_keeps 16 = .ok (.bipush 8, 2) := by decide +kernel
theorem dX13_keeps_18 : decode cX13_keeps 18 = .ok (.irem, 1) := by decide +kernel
theorem dX13_keeps_19 : decode cX13_keeps 19 = .ok (.putfield 72, 3) := by decide +kernel
theorem dX13_keeps_22 : decode cX13_keeps 22 = .ok (.aload_n 0, 1) := by decide +kernel
theorem dX13_keeps_23 : decode cX13_keeps 23 = .ok (.dup, 1) := by decide +kernel
theorem dX13_keeps_24 : decode cX13_keeps 24 = .ok (.getfield 69, 3) := by decide +kernel
theorem dX13_keeps_27 : decode cX13_keeps 27 = .ok (.iconst 1, 1) := by decide +kernel
theorem dX13_keeps_28 : decode cX13_keeps 28 = .ok (.isub, 1) := by decide +kernel
theorem dX13_keeps_29 : decode cX13_keeps 29 = .ok (.putfield 69, 3) := by decide +kernel
theorem dX13_keeps_32 : decode cX13_keeps 32 = .ok (.aload_n 0, 1) := by decide +kernel
theorem dX13_keeps_33 : decode cX13_keeps 33 = .ok (.getfield 72, 3) := by decide +kernel
theorem dX13_keeps_36 : decode cX13_keeps 36 = .ok (.aload_n 0, 1) := by decide +kernel
theorem dX13_keeps_37 : decode cX13_keeps 37 = .ok (.getfield 69, 3) := by decide +kernel
theorem dX13_keeps_40 : decode cX13_keeps 40 = .ok (.iadd, 1) := by decide +kernel
theorem dX13_keeps_41 : decode cX13_keeps 41 = .ok (.bipush 8, 2) := by decide +kernel
theorem dX13_keeps_43 : decode cX13_keeps 43 = .ok (.irem, 1) := by decide +kernel
theorem dX13_keeps_44 : decode cX13_keeps 44 = .ok (.istore_n 1, 1) := by decide +kernel
theorem dX13_keeps_45 : decode cX13_keeps 45 = .ok (.iconst 0, 1) := by decide +kernel
theorem dX13_keeps_46 : decode cX13_keeps 46 = .ok (.istore_n 2, 1) := by decide +kernel
theorem dX13_keeps_47 : decode cX13_keeps 47 = .ok (.iload_n 2, 1) := by decide +kernel
theorem dX13_keeps_48 : decode cX13_keeps 48 = .ok (.bipush 50, 2) := by decide +kernel
theorem dX13_keeps_50 : decode cX13_keeps 50 = .ok (.if_icmp .ge 26, 3) := by decide +kernel
theorem dX13_keeps_53 : decode cX13_keeps 53 = .ok (.aload_n 0, 1) := by decide +kernel
theorem dX13_keeps_54 : decode cX13_keeps 54 = .ok (.getfield 13, 3) := by decide +kernel
theorem dX13_keeps_57 : decode cX13_keeps 57 = .ok (.bipush 50, 2) := by decide +kernel
theorem dX13_keeps_59 : decode cX13_keeps 59 = .ok (.iload_n 1, 1) := by decide +kernel
theorem dX13_keeps_60 : decode cX13_keeps 60 = .ok (.imul, 1) := by decide +kernel
theorem dX13_keeps_61 : decode cX13_keeps 61 = .ok (.iload_n 2, 1) := by decide +kernel
theorem dX13_keeps_62 : decode cX13_keeps 62 = .ok (.iadd, 1) := by decide +kernel
theorem dX13_keeps_63 : decode cX13_keeps 63 = .ok (.aload_n 0, 1) := by decide +kernel
theorem dX13_keeps_64 : decode cX13_keeps 64 = .ok (.getfield 19, 3) := by decide +kernel
theorem dX13_keeps_67 : decode cX13_keeps 67 = .ok (.iload_n 2, 1) := by decide +kernel
theorem dX13_keeps_68 : decode cX13_keeps 68 = .ok (.iaload, 1) := by decide +kernel
theorem dX13_keeps_69 : decode cX13_keeps 69 = .ok (.iastore, 1) := by decide +kernel
theorem dX13_keeps_70 : decode cX13_keeps 70 = .ok (.iinc 2 1, 3) := by decide +kernel
theorem dX13_keeps_73 : decode cX13_keeps 73 = .ok (.goto (-26), 3) := by decide +kernel
theorem dX13_keeps_76 : decode cX13_keeps 76 = .ok (.aload_n 0, 1) := by decide +kernel
theorem dX13_keeps_77 : decode cX13_keeps 77 = .ok (.dup, 1) := by decide +kernel
theorem dX13_keeps_78 : decode cX13_keeps 78 = .ok (.getfield 69, 3) := by decide +kernel
theorem dX13_keeps_81 : decode cX13_keeps 81 = .ok (.iconst 1, 1) := by decide +kernel
theorem dX13_keeps_82 : decode cX13_keeps 82 = .ok (.iadd, 1) := by decide +kernel
theorem dX13_keeps_83 : decode cX13_keeps 83 = .ok (.putfield 69, 3) := by decide +kernel
theorem dX13_keeps_86 : decode cX13_keeps 86 = .ok (.return_, 1) := by decide +kernel
theorem dX13_remembers_0 : decode cX13_remembers 0 = .ok (.aload_n 0, 1) := by decide +kernel
theorem dX13_remembers_1 : decode cX13_remembers 1 = .ok (.invokevirtual 75, 3) := by decide +kernel
theorem dX13_remembers_4 : decode cX13_remembers 4 = .ok (.aload_n 0, 1) := by decide +kernel
theorem dX13_remembers_5 : decode cX13_remembers 5 = .ok (.invokevirtual 78, 3) := by decide +kernel
theorem dX13_remembers_8 : decode cX13_remembers 8 = .ok (.return_, 1) := by decide +kernel
theorem dX13_loads_0 : decode cX13_loads 0 = .ok (.aload_n 0, 1) := by decide +kernel
theorem dX13_loads_1 : decode cX13_loads 1 = .ok (.aload_n 0, 1) := by decide +kernel
theorem dX13_loads_2 : decode cX13_loads 2 = .ok (.getfield 7, 3) := by decide +kernel
theorem dX13_loads_5 : decode cX13_loads 5 = .ok (.iconst 0, 1) := by decide +kernel
theorem dX13_loads_6 : decode cX13_loads 6 = .ok (.iaload, 1) := by decide +kernel
theorem dX13_loads_7 : decode cX13_loads 7 = .ok (.putfield 81, 3) := by decide +kernel
theorem dX13_loads_10 : decode cX13_loads 10 = .ok (.iconst 0, 1) := by decide +kernel
theorem dX13_loads_11 : decode cX13_loads 11 = .ok (.istore_n 1, 1) := by decide +kernel
theorem dX13_loads_12 : decode cX13_loads 12 = .ok (.iload_n 1, 1) := by decide +kernel
theorem dX13_loads_13 : decode cX13_loads 13 = .ok (.bipush 14, 2) := by decide +kernel
theorem dX13_loads_15 : decode cX13_loads 15 = .ok (.if_icmp .ge 39, 3) := by decide +kernel
theorem dX13_loads_18 : decode cX13_loads 18 = .ok (.aload_n 0, 1) := by decide +kernel
theorem dX13_loads_19 : decode cX13_loads 19 = .ok (.getfield 22, 3) := by decide +kernel
theorem dX13_loads_22 : decode cX13_loads 22 = .ok (.iload_n 1, 1) := by decide +kernel
theorem dX13_loads_23 : decode cX13_loads 23 = .ok (.aload_n 0, 1) := by decide +kernel
theorem dX13_loads_24 : decode cX13_loads 24 = .ok (.getfield 7, 3) := by decide +kernel
theorem dX13_loads_27 : decode cX13_loads 27 = .ok (.bipush 22, 2) := by decide +kernel
theorem dX13_loads_29 : decode cX13_loads 29 = .ok (.iload_n 1, 1) := by decide +kernel
theorem dX13_loads_30 : decode cX13_loads 30 = .ok (.iadd, 1) := by decide +kernel
theorem dX13_loads_31 : decode cX13_loads 31 = .ok (.iaload, 1) := by decide +kernel
theorem dX13_loads_32 : decode cX13_loads 32 = .ok (.iastore, 1) := by decide +kernel
theorem dX13_loads_33 : decode cX13_loads 33 = .ok (.aload_n 0, 1) := by decide +kernel
theorem dX13_loads_34 : decode cX13_loads 34 = .ok (.getfield 25, 3) := by decide +kernel
theorem dX13_loads_37 : decode cX13_loads 37 = .ok (.iload_n 1, 1) := by decide +kernel
theorem dX13_loads_38 : decode cX13_loads 38 = .ok (.aload_n 0, 1) := by decide +kernel
theorem dX13_loads_39 : decode cX13_loads 39 = .ok (.getfield 7, 3) := by decide +kernel
theorem dX13_loads_42 : decode cX13_loads 42 = .ok (.bipush 36, 2) := by decide +kernel
theorem dX13_loads_44 : decode cX13_loads 44 = .ok (.iload_n 1, 1) := by decide +kernel
theorem dX13_loads_45 : decode cX13_loads 45 = .ok (.iadd, 1) := by decide +kernel
theorem dX13_loads_46 : decode cX13_loads 46 = .ok (.iaload, 1) := by decide +kernel
theorem dX13_loads_47 : decode cX13_loads 47 = .ok (.iastore, 1) := by decide +kernel
theorem dX13_loads_48 : decode cX13_loads 48 = .ok (.iinc 1 1, 3) := by decide +kernel
theorem dX13_loads_51 : decode cX13_loads 51 = .ok (.goto (-39), 3) := by decide +kernel
theorem dX13_loads_54 : decode cX13_loads 54 = .ok (.iconst 0, 1) := by decide +kernel
theorem dX13_loads_55 : decode cX13_loads 55 = .ok (.istore_n 1, 1) := by decide +kernel
theorem dX13_loads_56 : decode cX13_loads 56 = .ok (.iload_n 1, 1) := by decide +kernel
theorem dX13_loads_57 : decode cX13_loads 57 = .ok (.bipush 7, 2) := by decide +kernel
theorem dX13_loads_59 : decode cX13_loads 59 = .ok (.if_icmp .ge 24, 3) := by decide +kernel
theorem dX13_loads_62 : decode cX13_loads 62 = .ok (.aload_n 0, 1) := by decide +kernel
theorem dX13_loads_63 : decode cX13_loads 63 = .ok (.getfield 28, 3) := by decide +kernel
theorem dX13_loads_66 : decode cX13_loads 66 = .ok (.iload_n 1, 1) := by decide +kernel
theorem dX13_loads_67 : decode cX13_loads 67 = .ok (.aload_n 0, 1) := by decide +kernel
theorem dX13_loads_68 : decode cX13_loads 68 = .ok (.getfield 7, 3) := by decide +kernel
theorem dX13_loads_71 : decode cX13_loads 71 = .ok (.bipush 15, 2) := by decide +kernel
theorem dX13_loads_73 : decode cX13_loads 73 = .ok (.iload_n 1, 1) := by decide +kernel
theorem dX13_loads_74 : decode cX13_loads 74 = .ok (.iadd, 1) := by decide +kernel
theorem dX13_loads_75 : decode cX13_loads 75 = .ok (.iaload, 1) := by decide +kernel
theorem dX13_loads_76 : decode cX13_loads 76 = .ok (.iastore, 1) := by decide +kernel
theorem dX13_loads_77 : decode cX13_loads 77 = .ok (.iinc 1 1, 3) := by decide +kernel
theorem dX13_loads_80 : decode cX13_loads 80 = .ok (.goto (-24), 3) := by decide +kernel
theorem dX13_loads_83 : decode cX13_loads 83 = .ok (.return_, 1) := by decide +kernel
theorem dX13_stores_0 : decode cX13_stores 0 = .ok (.aload_n 0, 1) := by decide +kernel
theorem dX13_stores_1 : decode cX13_stores 1 = .ok (.getfield 7, 3) := by decide +kernel
theorem dX13_stores_4 : decode cX13_stores 4 = .ok (.iconst 0, 1) := by decide +kernel
theorem dX13_stores_5 : decode cX13_stores 5 = .ok (.aload_n 0, 1) := by decide +kernel
theorem dX13_stores_6 : decode cX13_stores 6 = .ok (.getfield 81, 3) := by decide +kernel
theorem dX13_stores_9 : decode cX13_stores 9 = .ok (.iastore, 1) := by decide +kernel
theorem dX13_stores_10 : decode cX13_stores 10 = .ok (.iconst 0, 1) := by decide +kernel
theorem dX13_stores_11 : decode cX13_stores 11 = .ok (.istore_n 1, 1) := by decide +kernel
theorem dX13_stores_12 : decode cX13_stores 12 = .ok (.iload_n 1, 1) := by decide +kernel
theorem dX13_stores_13 : decode cX13_stores 13 = .ok (.bipush 14, 2) := by decide +kernel
theorem dX13_stores_15 : decode cX13_stores 15 = .ok (.if_icmp .ge 67, 3) := by decide +kernel
theorem dX13_stores_18 : decode cX13_stores 18 = .ok (.aload_n 0, 1) := by decide +kernel
theorem dX13_stores_19 : decode cX13_stores 19 = .ok (.getfield 7, 3) := by decide +kernel
theorem dX13_stores_22 : decode cX13_stores 22 = .ok (.bipush 22, 2) := by decide +kernel
theorem dX13_stores_24 : decode cX13_stores 24 = .ok (.iload_n 1, 1) := by decide +kernel
theorem dX13_stores_25 : decode cX13_stores 25 = .ok (.iadd, 1) := by decide +kernel
theorem dX13_stores_26 : decode cX13_stores 26 = .ok (.iload_n 1, 1) := by decide +kernel
theorem dX13_stores_27 : decode cX13_stores 27 = .ok (.iconst 2, 1) := by decide +kernel
theorem dX13_stores_28 : decode cX13_stores 28 = .ok (.aload_n 0, 1) := by decide +kernel
theorem dX13_stores_29 : decode cX13_stores 29 = .ok (.getfield 81, 3) := by decide +kernel
theorem dX13_stores_32 : decode cX13_stores 32 = .ok (.imul, 1) := by decide +kernel
theorem dX13_stores_33 : decode cX13_stores 33 = .ok (.if_icmp .ge 12, 3) := by decide +kernel
theorem dX13_stores_36 : decode cX13_stores 36 = .ok (.aload_n 0, 1) := by decide +kernel
theorem dX13_stores_37 : decode cX13_stores 37 = .ok (.getfield 22, 3) := by decide +kernel
theorem dX13_stores_40 : decode cX13_stores 40 = .ok (.iload_n 1, 1) := by decide +kernel
theorem dX13_stores_41 : decode cX13_stores 41 = .ok (.iaload, 1) := by decide +kernel
theorem dX13_stores_42 : decode cX13_stores 42 = .ok (.goto 4, 3) := by decide +kernel
theorem dX13_stores_45 : decode cX13_stores 45 = .ok (.iconst 0, 1) := by decide +kernel
theorem dX13_stores_46 : decode cX13_stores 46 = .ok (.iastore, 1) := by decide +kernel
theorem dX13_stores_47 : decode cX13_stores 47 = .ok (.aload_n 0, 1) := by decide +kernel
theorem dX13_stores_48 : decode cX13_stores 48 = .ok (.getfield 7, 3) := by decide +kernel
theorem dX13_stores_51 : decode cX13_stores 51 = .ok (.bipush 36, 2) := by decide +kernel
theorem dX13_stores_53 : decode cX13_stores 53 = .ok (.iload_n 1, 1) := by decide +kernel
theorem dX13_stores_54 : decode cX13_stores 54 = .ok (.iadd, 1) := by decide +kernel
theorem dX13_stores_55 : decode cX13_stores 55 = .ok (.iload_n 1, 1) := by decide +kernel
theorem dX13_stores_56 : decode cX13_stores 56 = .ok (.iconst 2, 1) := by decide +kernel
theorem dX13_stores_57 : decode cX13_stores 57 = .ok (.aload_n 0, 1) := by decide +kernel
theorem dX13_stores_58 : decode cX13_stores 58 = .ok (.getfield 81, 3) := by decide +kernel
theorem dX13_stores_61 : decode cX13_stores 61 = .ok (.imul, 1) := by decide +kernel
theorem dX13_stores_62 : decode cX13_stores 62 = .ok (.if_icmp .ge 12, 3) := by decide +kernel
theorem dX13_stores_65 : decode cX13_stores 65 = .ok (.aload_n 0, 1) := by decide +kernel
theorem dX13_stores_66 : decode cX13_stores 66 = .ok (.getfield 25, 3) := by decide +kernel
theorem dX13_stores_69 : decode cX13_stores 69 = .ok (.iload_n 1, 1) := by decide +kernel
theorem dX13_stores_70 : decode cX13_stores 70 = .ok (.iaload, 1) := by decide +kernel
theorem dX13_stores_71 : decode cX13_stores 71 = .ok (.goto 4, 3) := by decide +kernel
theorem dX13_stores_74 : decode cX13_stores 74 = .ok (.iconst 0, 1) := by decide +kernel
theorem dX13_stores_75 : decode cX13_stores 75 = .ok (.iastore, 1) := by decide +kernel
theorem dX13_stores_76 : decode cX13_stores 76 = .ok (.iinc 1 1, 3) := by decide +kernel
theorem dX13_stores_79 : decode cX13_stores 79 = .ok (.goto (-67), 3) := by decide +kernel
theorem dX13_stores_82 : decode cX13_stores 82 = .ok (.iconst 0, 1) := by decide +kernel
theorem dX13_stores_83 : decode cX13_stores 83 = .ok (.istore_n 1, 1) := by decide +kernel
theorem dX13_stores_84 : decode cX13_stores 84 = .ok (.iload_n 1, 1) := by decide +kernel
theorem dX13_stores_85 : decode cX13_stores 85 = .ok (.bipush 7, 2) := by decide +kernel
theorem dX13_stores_87 : decode cX13_stores 87 = .ok (.if_icmp .ge 36, 3) := by decide +kernel
theorem dX13_stores_90 : decode cX13_stores 90 = .ok (.aload_n 0, 1) := by decide +kernel
theorem dX13_stores_91 : decode cX13_stores 91 = .ok (.getfield 7, 3) := by decide +kernel
theorem dX13_stores_94 : decode cX13_stores 94 = .ok (.bipush 15, 2) := by decide +kernel
theorem dX13_stores_96 : decode cX13_stores 96 = .ok (.iload_n 1, 1) := by decide +kernel
theorem dX13_stores_97 : decode cX13_stores 97 = .ok (.iadd, 1) := by decide +kernel
theorem dX13_stores_98 : decode cX13_stores 98 = .ok (.iload_n 1, 1) := by decide +kernel
theorem dX13_stores_99 : decode cX13_stores 99 = .ok (.aload_n 0, 1) := by decide +kernel
theorem dX13_stores_100 : decode cX13_stores 100 = .ok (.getfield 81, 3) := by decide +kernel
theorem dX13_stores_103 : decode cX13_stores 103 = .ok (.if_icmp .ge 12, 3) := by decide +kernel
theorem dX13_stores_106 : decode cX13_stores 106 = .ok (.aload_n 0, 1) := by decide +kernel
theorem dX13_stores_107 : decode cX13_stores 107 = .ok (.getfield 28, 3) := by decide +kernel
theorem dX13_stores_110 : decode cX13_stores 110 = .ok (.iload_n 1, 1) := by decide +kernel
theorem dX13_stores_111 : decode cX13_stores 111 = .ok (.iaload, 1) := by decide +kernel
theorem dX13_stores_112 : decode cX13_stores 112 = .ok (.goto 4, 3) := by decide +kernel
theorem dX13_stores_115 : decode cX13_stores 115 = .ok (.iconst 0, 1) := by decide +kernel
theorem dX13_stores_116 : decode cX13_stores 116 = .ok (.iastore, 1) := by decide +kernel
theorem dX13_stores_117 : decode cX13_stores 117 = .ok (.iinc 1 1, 3) := by decide +kernel
theorem dX13_stores_120 : decode cX13_stores 120 = .ok (.goto (-36), 3) := by decide +kernel
theorem dX13_stores_123 : decode cX13_stores 123 = .ok (.return_, 1) := by decide +kernel
theorem dX13_passOf_0 : decode cX13_passOf 0 = .ok (.iconst 0, 1) := by decide +kernel
theorem dX13_passOf_1 : decode cX13_passOf 1 = .ok (.istore_n 3, 1) := by decide +kernel
theorem dX13_passOf_2 : decode cX13_passOf 2 = .ok (.aload_n 0, 1) := by decide +kernel
theorem dX13_passOf_3 : decode cX13_passOf 3 = .ok (.getfield 22, 3) := by decide +kernel
theorem dX13_passOf_6 : decode cX13_passOf 6 = .ok (.iload_n 3, 1) := by decide +kernel
theorem dX13_passOf_7 : decode cX13_passOf 7 = .ok (.iaload, 1) := by decide +kernel
theorem dX13_passOf_8 : decode cX13_passOf 8 = .ok (.iload_n 1, 1) := by decide +kernel
theorem dX13_passOf_9 : decode cX13_passOf 9 = .ok (.if_icmp .ne 13, 3) := by decide +kernel
theorem dX13_passOf_12 : decode cX13_passOf 12 = .ok (.aload_n 0, 1) := by decide +kernel
theorem dX13_passOf_13 : decode cX13_passOf 13 = .ok (.getfield 25, 3) := by decide +kernel
theorem dX13_passOf_16 : decode cX13_passOf 16 = .ok (.iload_n 3, 1) := by decide +kernel
theorem dX13_passOf_17 : decode cX13_passOf 17 = .ok (.iaload, 1) := by decide +kernel
theorem dX13_passOf_18 : decode cX13_passOf 18 = .ok (.iload_n 2, 1) := by decide +kernel
theorem dX13_passOf_19 : decode cX13_passOf 19 = .ok (.if_icmp .eq 9, 3) := by decide +kernel
theorem dX13_passOf_22 : decode cX13_passOf 22 = .ok (.iinc 3 1, 3) := by decide +kernel
theorem dX13_passOf_25 : decode cX13_passOf 25 = .ok (.goto (-23), 3) := by decide +kernel
theorem dX13_passOf_28 : decode cX13_passOf 28 = .ok (.iload_n 3, 1) := by decide +kernel
theorem dX13_passOf_29 : decode cX13_passOf 29 = .ok (.ireturn, 1) := by decide +kernel
theorem dX13_areNext_0 : decode cX13_areNext 0 = .ok (.iload_n 1, 1) := by decide +kernel
theorem dX13_areNext_1 : decode cX13_areNext 1 = .ok (.iload_n 2, 1) := by decide +kernel
theorem dX13_areNext_2 : decode cX13_areNext 2 = .ok (.if_icmp .ge 9, 3) := by decide +kernel
theorem dX13_areNext_5 : decode cX13_areNext 5 = .ok (.iload_n 2, 1) := by decide +kernel
theorem dX13_areNext_6 : decode cX13_areNext 6 = .ok (.iload_n 1, 1) := by decide +kernel
theorem dX13_areNext_7 : decode cX13_areNext 7 = .ok (.isub, 1) := by decide +kernel
theorem dX13_areNext_8 : decode cX13_areNext 8 = .ok (.goto 6, 3) := by decide +kernel
theorem dX13_areNext_11 : decode cX13_areNext 11 = .ok (.iload_n 1, 1) := by decide +kernel
theorem dX13_areNext_12 : decode cX13_areNext 12 = .ok (.iload_n 2, 1) := by decide +kernel
theorem dX13_areNext_13 : decode cX13_areNext 13 = .ok (.isub, 1) := by decide +kernel
theorem dX13_areNext_14 : decode cX13_areNext 14 = .ok (.istore_n 3, 1) := by decide +kernel
theorem dX13_areNext_15 : decode cX13_areNext 15 = .ok (.iload_n 3, 1) := by decide +kernel
theorem dX13_areNext_16 : decode cX13_areNext 16 = .ok (.iconst 1, 1) := by decide +kernel
theorem dX13_areNext_17 : decode cX13_areNext 17 = .ok (.if_icmp .eq 15, 3) := by decide +kernel
theorem dX13_areNext_20 : decode cX13_areNext 20 = .ok (.iload_n 3, 1) := by decide +kernel
theorem dX13_areNext_21 : decode cX13_areNext 21 = .ok (.iconst 2, 1) := by decide +kernel
theorem dX13_areNext_22 : decode cX13_areNext 22 = .ok (.aload_n 0, 1) := by decide +kernel
theorem dX13_areNext_23 : decode cX13_areNext 23 = .ok (.getfield 81, 3) := by decide +kernel
theorem dX13_areNext_26 : decode cX13_areNext 26 = .ok (.imul, 1) := by decide +kernel
theorem dX13_areNext_27 : decode cX13_areNext 27 = .ok (.iconst 1, 1) := by decide +kernel
theorem dX13_areNext_28 : decode cX13_areNext 28 = .ok (.isub, 1) := by decide +kernel
theorem dX13_areNext_29 : decode cX13_areNext 29 = .ok (.if_icmp .ne 7, 3) := by decide +kernel
theorem dX13_areNext_32 : decode cX13_areNext 32 = .ok (.iconst 1, 1) := by decide +kernel
theorem dX13_areNext_33 : decode cX13_areNext 33 = .ok (.goto 4, 3) := by decide +kernel
theorem dX13_areNext_36 : decode cX13_areNext 36 = .ok (.iconst 0, 1) := by decide +kernel
theorem dX13_areNext_37 : decode cX13_areNext 37 = .ok (.ireturn, 1) := by decide +kernel
theorem dX13_curls_0 : decode cX13_curls 0 = .ok (.aload_n 0, 1) := by decide +kernel
theorem dX13_curls_1 : decode cX13_curls 1 = .ok (.aload_n 0, 1) := by decide +kernel
theorem dX13_curls_2 : decode cX13_curls 2 = .ok (.iload_n 1, 1) := by decide +kernel
theorem dX13_curls_3 : decode cX13_curls 3 = .ok (.iconst 1, 1) := by decide +kernel
theorem dX13_curls_4 : decode cX13_curls 4 = .ok (.invokevirtual 84, 3) := by decide +kernel
theorem dX13_curls_7 : decode cX13_curls 7 = .ok (.aload_n 0, 1) := by decide +kernel
theorem dX13_curls_8 : decode cX13_curls 8 = .ok (.iload_n 1, 1) := by decide +kernel
theorem dX13_curls_9 : decode cX13_curls 9 = .ok (.iconst 0, 1) := by decide +kernel
theorem dX13_curls_10 : decode cX13_curls 10 = .ok (.invokevirtual 84, 3) := by decide +kernel
theorem dX13_curls_13 : decode cX13_curls 13 = .ok (.invokevirtual 88, 3) := by decide +kernel
theorem dX13_curls_16 : decode cX13_curls 16 = .ok (.ireturn, 1) := by decide +kernel
theorem dX13_pokes_0 : decode cX13_pokes 0 = .ok (.iload_n 1, 1) := by decide +kernel
theorem dX13_pokes_1 : decode cX13_pokes 1 = .ok (.iload_n 2, 1) := by decide +kernel
theorem dX13_pokes_2 : decode cX13_pokes 2 = .ok (.if_icmp .eq 18, 3) := by decide +kernel
theorem dX13_pokes_5 : decode cX13_pokes 5 = .ok (.aload_n 0, 1) := by decide +kernel
theorem dX13_pokes_6 : decode cX13_pokes 6 = .ok (.getfield 28, 3) := by decide +kernel
theorem dX13_pokes_9 : decode cX13_pokes 9 = .ok (.iload_n 1, 1) := by decide +kernel
theorem dX13_pokes_10 : decode cX13_pokes 10 = .ok (.iaload, 1) := by decide +kernel
theorem dX13_pokes_11 : decode cX13_pokes 11 = .ok (.aload_n 0, 1) := by decide +kernel
theorem dX13_pokes_12 : decode cX13_pokes 12 = .ok (.getfield 28, 3) := by decide +kernel
theorem dX13_pokes_15 : decode cX13_pokes 15 = .ok (.iload_n 2, 1) := by decide +kernel
theorem dX13_pokes_16 : decode cX13_pokes 16 = .ok (.iaload, 1) := by decide +kernel
theorem dX13_pokes_17 : decode cX13_pokes 17 = .ok (.if_icmp .ne 5, 3) := by decide +kernel
theorem dX13_pokes_20 : decode cX13_pokes 20 = .ok (.iconst 0, 1) := by decide +kernel
theorem dX13_pokes_21 : decode cX13_pokes 21 = .ok (.ireturn, 1) := by decide +kernel
theorem dX13_pokes_22 : decode cX13_pokes 22 = .ok (.aload_n 0, 1) := by decide +kernel
theorem dX13_pokes_23 : decode cX13_pokes 23 = .ok (.aload_n 0, 1) := by decide +kernel
theorem dX13_pokes_24 : decode cX13_pokes 24 = .ok (.iload_n 1, 1) := by decide +kernel
theorem dX13_pokes_25 : decode cX13_pokes 25 = .ok (.iconst 1, 1) := by decide +kernel
theorem dX13_pokes_26 : decode cX13_pokes 26 = .ok (.invokevirtual 84, 3) := by decide +kernel
theorem dX13_pokes_29 : decode cX13_pokes 29 = .ok (.aload_n 0, 1) := by decide +kernel
theorem dX13_pokes_30 : decode cX13_pokes 30 = .ok (.iload_n 2, 1) := by decide +kernel
theorem dX13_pokes_31 : decode cX13_pokes 31 = .ok (.iconst 1, 1) := by decide +kernel
theorem dX13_pokes_32 : decode cX13_pokes 32 = .ok (.invokevirtual 84, 3) := by decide +kernel
theorem dX13_pokes_35 : decode cX13_pokes 35 = .ok (.invokevirtual 88, 3) := by decide +kernel
theorem dX13_pokes_38 : decode cX13_pokes 38 = .ok (.ifCond .eq 26, 3) := by decide +kernel
theorem dX13_pokes_41 : decode cX13_pokes 41 = .ok (.aload_n 0, 1) := by decide +kernel
theorem dX13_pokes_42 : decode cX13_pokes 42 = .ok (.aload_n 0, 1) := by decide +kernel
theorem dX13_pokes_43 : decode cX13_pokes 43 = .ok (.iload_n 1, 1) := by decide +kernel
theorem dX13_pokes_44 : decode cX13_pokes 44 = .ok (.iconst 0, 1) := by decide +kernel
theorem dX13_pokes_45 : decode cX13_pokes 45 = .ok (.invokevirtual 84, 3) := by decide +kernel
theorem dX13_pokes_48 : decode cX13_pokes 48 = .ok (.aload_n 0, 1) := by decide +kernel
theorem dX13_pokes_49 : decode cX13_pokes 49 = .ok (.iload_n 2, 1) := by decide +kernel
theorem dX13_pokes_50 : decode cX13_pokes 50 = .ok (.iconst 0, 1) := by decide +kernel
theorem dX13_pokes_51 : decode cX13_pokes 51 = .ok (.invokevirtual 84, 3) := by decide +kernel
theorem dX13_pokes_54 : decode cX13_pokes 54 = .ok (.invokevirtual 88, 3) := by decide +kernel
theorem dX13_pokes_57 : decode cX13_pokes 57 = .ok (.ifCond .eq 7, 3) := by decide +kernel
theorem dX13_pokes_60 : decode cX13_pokes 60 = .ok (.iconst 1, 1) := by decide +kernel
theorem dX13_pokes_61 : decode cX13_pokes 61 = .ok (.goto 4, 3) := by decide +kernel
theorem dX13_pokes_64 : decode cX13_pokes 64 = .ok (.iconst 0, 1) := by decide +kernel
theorem dX13_pokes_65 : decode cX13_pokes 65 = .ok (.ireturn, 1) := by decide +kernel
theorem dX13_flips_0 : decode cX13_flips 0 = .ok (.iconst 0, 1) := by decide +kernel
theorem dX13_flips_1 : decode cX13_flips 1 = .ok (.istore_n 2, 1) := by decide +kernel
theorem dX13_flips_2 : decode cX13_flips 2 = .ok (.iload_n 2, 1) := by decide +kernel
theorem dX13_flips_3 : decode cX13_flips 3 = .ok (.iconst 2, 1) := by decide +kernel
theorem dX13_flips_4 : decode cX13_flips 4 = .ok (.aload_n 0, 1) := by decide +kernel
theorem dX13_flips_5 : decode cX13_flips 5 = .ok (.getfield 81, 3) := by decide +kernel
theorem dX13_flips_8 : decode cX13_flips 8 = .ok (.imul, 1) := by decide +kernel
theorem dX13_flips_9 : decode cX13_flips 9 = .ok (.if_icmp .ge 33, 3) := by decide +kernel
theorem dX13_flips_12 : decode cX13_flips 12 = .ok (.aload_n 0, 1) := by decide +kernel
theorem dX13_flips_13 : decode cX13_flips 13 = .ok (.getfield 22, 3) := by decide +kernel
theorem dX13_flips_16 : decode cX13_flips 16 = .ok (.iload_n 2, 1) := by decide +kernel
theorem dX13_flips_17 : decode cX13_flips 17 = .ok (.iaload, 1) := by decide +kernel
theorem dX13_flips_18 : decode cX13_flips 18 = .ok (.iload_n 1, 1) := by decide +kernel
theorem dX13_flips_19 : decode cX13_flips 19 = .ok (.if_icmp .ne 17, 3) := by decide +kernel
theorem dX13_flips_22 : decode cX13_flips 22 = .ok (.aload_n 0, 1) := by decide +kernel
theorem dX13_flips_23 : decode cX13_flips 23 = .ok (.getfield 25, 3) := by decide +kernel
theorem dX13_flips_26 : decode cX13_flips 26 = .ok (.iload_n 2, 1) := by decide +kernel
theorem dX13_flips_27 : decode cX13_flips 27 = .ok (.iconst 1, 1) := by decide +kernel
theorem dX13_flips_28 : decode cX13_flips 28 = .ok (.aload_n 0, 1) := by decide +kernel
theorem dX13_flips_29 : decode cX13_flips 29 = .ok (.getfield 25, 3) := by decide +kernel
theorem dX13_flips_32 : decode cX13_flips 32 = .ok (.iload_n 2, 1) := by decide +kernel
theorem dX13_flips_33 : decode cX13_flips 33 = .ok (.iaload, 1) := by decide +kernel
theorem dX13_flips_34 : decode cX13_flips 34 = .ok (.isub, 1) := by decide +kernel
theorem dX13_flips_35 : decode cX13_flips 35 = .ok (.iastore, 1) := by decide +kernel
theorem dX13_flips_36 : decode cX13_flips 36 = .ok (.iinc 2 1, 3) := by decide +kernel
theorem dX13_flips_39 : decode cX13_flips 39 = .ok (.goto (-37), 3) := by decide +kernel
theorem dX13_flips_42 : decode cX13_flips 42 = .ok (.aload_n 0, 1) := by decide +kernel
theorem dX13_flips_43 : decode cX13_flips 43 = .ok (.getfield 28, 3) := by decide +kernel
theorem dX13_flips_46 : decode cX13_flips 46 = .ok (.iload_n 1, 1) := by decide +kernel
theorem dX13_flips_47 : decode cX13_flips 47 = .ok (.iconst 1, 1) := by decide +kernel
theorem dX13_flips_48 : decode cX13_flips 48 = .ok (.aload_n 0, 1) := by decide +kernel
theorem dX13_flips_49 : decode cX13_flips 49 = .ok (.getfield 28, 3) := by decide +kernel
theorem dX13_flips_52 : decode cX13_flips 52 = .ok (.iload_n 1, 1) := by decide +kernel
theorem dX13_flips_53 : decode cX13_flips 53 = .ok (.iaload, 1) := by decide +kernel
theorem dX13_flips_54 : decode cX13_flips 54 = .ok (.isub, 1) := by decide +kernel
theorem dX13_flips_55 : decode cX13_flips 55 = .ok (.iastore, 1) := by decide +kernel
theorem dX13_flips_56 : decode cX13_flips 56 = .ok (.return_, 1) := by decide +kernel
theorem dX13_removes_0 : decode cX13_removes 0 = .ok (.iconst 0, 1) := by decide +kernel
theorem dX13_removes_1 : decode cX13_removes 1 = .ok (.istore_n 2, 1) := by decide +kernel
theorem dX13_removes_2 : decode cX13_removes 2 = .ok (.iconst 0, 1) := by decide +kernel
theorem dX13_removes_3 : decode cX13_removes 3 = .ok (.istore_n 3, 1) := by decide +kernel
theorem dX13_removes_4 : decode cX13_removes 4 = .ok (.iload_n 3, 1) := by decide +kernel
theorem dX13_removes_5 : decode cX13_removes 5 = .ok (.iconst 2, 1) := by decide +kernel
theorem dX13_removes_6 : decode cX13_removes 6 = .ok (.aload_n 0, 1) := by decide +kernel
theorem dX13_removes_7 : decode cX13_removes 7 = .ok (.getfield 81, 3) := by decide +kernel
theorem dX13_removes_10 : decode cX13_removes 10 = .ok (.imul, 1) := by decide +kernel
theorem dX13_removes_11 : decode cX13_removes 11 = .ok (.if_icmp .ge 70, 3) := by decide +kernel
theorem dX13_removes_14 : decode cX13_removes 14 = .ok (.aload_n 0, 1) := by decide +kernel
theorem dX13_removes_15 : decode cX13_removes 15 = .ok (.getfield 22, 3) := by decide +kernel
theorem dX13_removes_18 : decode cX13_removes 18 = .ok (.iload_n 3, 1) := by decide +kernel
theorem dX13_removes_19 : decode cX13_removes 19 = .ok (.iaload, 1) := by decide +kernel
theorem dX13_removes_20 : decode cX13_removes 20 = .ok (.iload_n 1, 1) := by decide +kernel
theorem dX13_removes_21 : decode cX13_removes 21 = .ok (.if_icmp .ne 6, 3) := by decide +kernel
theorem dX13_removes_24 : decode cX13_removes 24 = .ok (.goto 51, 3) := by decide +kernel
theorem dX13_removes_27 : decode cX13_removes 27 = .ok (.aload_n 0, 1) := by decide +kernel
theorem dX13_removes_28 : decode cX13_removes 28 = .ok (.getfield 22, 3) := by decide +kernel
theorem dX13_removes_31 : decode cX13_removes 31 = .ok (.iload_n 2, 1) := by decide +kernel
theorem dX13_removes_32 : decode cX13_removes 32 = .ok (.aload_n 0, 1) := by decide +kernel
theorem dX13_removes_33 : decode cX13_removes 33 = .ok (.getfield 22, 3) := by decide +kernel
theorem dX13_removes_36 : decode cX13_removes 36 = .ok (.iload_n 3, 1) := by decide +kernel
theorem dX13_removes_37 : decode cX13_removes 37 = .ok (.iaload, 1) := by decide +kernel
theorem dX13_removes_38 : decode cX13_removes 38 = .ok (.iload_n 1, 1) := by decide +kernel
theorem dX13_removes_39 : decode cX13_removes 39 = .ok (.if_icmp .le 14, 3) := by decide +kernel
theorem dX13_removes_42 : decode cX13_removes 42 = .ok (.aload_n 0, 1) := by decide +kernel
theorem dX13_removes_43 : decode cX13_removes 43 = .ok (.getfield 22, 3) := by decide +kernel
theorem dX13_removes_46 : decode cX13_removes 46 = .ok (.iload_n 3, 1) := by decide +kernel
theorem dX13_removes_47 : decode cX13_removes 47 = .ok (.iaload, 1) := by decide +kernel
theorem dX13_removes_48 : decode cX13_removes 48 = .ok (.iconst 1, 1) := by decide +kernel
theorem dX13_removes_49 : decode cX13_removes 49 = .ok (.isub, 1) := by decide +kernel
theorem dX13_removes_50 : decode cX13_removes 50 = .ok (.goto 9, 3) := by decide +kernel
theorem dX13_removes_53 : decode cX13_removes 53 = .ok (.aload_n 0, 1) := by decide +kernel
theorem dX13_removes_54 : decode cX13_removes 54 = .ok (.getfield 22, 3) := by decide +kernel
theorem dX13_removes_57 : decode cX13_removes 57 = .ok (.iload_n 3, 1) := by decide +kernel
theorem dX13_removes_58 : decode cX13_removes 58 = .ok (.iaload, 1) := by decide +kernel
theorem dX13_removes_59 : decode cX13_removes 59 = .ok (.iastore, 1) := by decide +kernel
theorem dX13_removes_60 : decode cX13_removes 60 = .ok (.aload_n 0, 1) := by decide +kernel
theorem dX13_removes_61 : decode cX13_removes 61 = .ok (.getfield 25, 3) := by decide +kernel
theorem dX13_removes_64 : decode cX13_removes 64 = .ok (.iload_n 2, 1) := by decide +kernel
theorem dX13_removes_65 : decode cX13_removes 65 = .ok (.aload_n 0, 1) := by decide +kernel
theorem dX13_removes_66 : decode cX13_removes 66 = .ok (.getfield 25, 3) := by decide +kernel
theorem dX13_removes_69 : decode cX13_removes 69 = .ok (.iload_n 3, 1) := by decide +kernel
theorem dX13_removes_70 : decode cX13_removes 70 = .ok (.iaload, 1) := by decide +kernel
theorem dX13_removes_71 : decode cX13_removes 71 = .ok (.iastore, 1) := by decide +kernel
theorem dX13_removes_72 : decode cX13_removes 72 = .ok (.iinc 2 1, 3) := by decide +kernel
theorem dX13_removes_75 : decode cX13_removes 75 = .ok (.iinc 3 1, 3) := by decide +kernel
theorem dX13_removes_78 : decode cX13_removes 78 = .ok (.goto (-74), 3) := by decide +kernel
theorem dX13_removes_81 : decode cX13_removes 81 = .ok (.aload_n 0, 1) := by decide +kernel
theorem dX13_removes_82 : decode cX13_removes 82 = .ok (.dup, 1) := by decide +kernel
theorem dX13_removes_83 : decode cX13_removes 83 = .ok (.getfield 81, 3) := by decide +kernel
theorem dX13_removes_86 : decode cX13_removes 86 = .ok (.iconst 1, 1) := by decide +kernel
theorem dX13_removes_87 : decode cX13_removes 87 = .ok (.isub, 1) := by decide +kernel
theorem dX13_removes_88 : decode cX13_removes 88 = .ok (.putfield 81, 3) := by decide +kernel
theorem dX13_removes_91 : decode cX13_removes 91 = .ok (.iload_n 1, 1) := by decide +kernel
theorem dX13_removes_92 : decode cX13_removes 92 = .ok (.istore_n 3, 1) := by decide +kernel
theorem dX13_removes_93 : decode cX13_removes 93 = .ok (.iload_n 3, 1) := by decide +kernel
theorem dX13_removes_94 : decode cX13_removes 94 = .ok (.aload_n 0, 1) := by decide +kernel
theorem dX13_removes_95 : decode cX13_removes 95 = .ok (.getfield 81, 3) := by decide +kernel
theorem dX13_removes_98 : decode cX13_removes 98 = .ok (.if_icmp .ge 23, 3) := by decide +kernel
theorem dX13_removes_101 : decode cX13_removes 101 = .ok (.aload_n 0, 1) := by decide +kernel
theorem dX13_removes_102 : decode cX13_removes 102 = .ok (.getfield 28, 3) := by decide +kernel
theorem dX13_removes_105 : decode cX13_removes 105 = .ok (.iload_n 3, 1) := by decide +kernel
theorem dX13_removes_106 : decode cX13_removes 106 = .ok (.aload_n 0, 1) := by decide +kernel
theorem dX13_removes_107 : decode cX13_removes 107 = .ok (.getfield 28, 3) := by decide +kernel
theorem dX13_removes_110 : decode cX13_removes 110 = .ok (.iload_n 3, 1) := by decide +kernel
theorem dX13_removes_111 : decode cX13_removes 111 = .ok (.iconst 1, 1) := by decide +kernel
theorem dX13_removes_112 : decode cX13_removes 112 = .ok (.iadd, 1) := by decide +kernel
theorem dX13_removes_113 : decode cX13_removes 113 = .ok (.iaload, 1) := by decide +kernel
theorem dX13_removes_114 : decode cX13_removes 114 = .ok (.iastore, 1) := by decide +kernel
theorem dX13_removes_115 : decode cX13_removes 115 = .ok (.iinc 3 1, 3) := by decide +kernel
theorem dX13_removes_118 : decode cX13_removes 118 = .ok (.goto (-25), 3) := by decide +kernel
theorem dX13_removes_121 : decode cX13_removes 121 = .ok (.return_, 1) := by decide +kernel
theorem dX13_reducesOnce_0 : decode cX13_reducesOnce 0 = .ok (.iconst 0, 1) := by decide +kernel
theorem dX13_reducesOnce_1 : decode cX13_reducesOnce 1 = .ok (.istore_n 1, 1) := by decide +kernel
theorem dX13_reducesOnce_2 : decode cX13_reducesOnce 2 = .ok (.iload_n 1, 1) := by decide +kernel
theorem dX13_reducesOnce_3 : decode cX13_reducesOnce 3 = .ok (.aload_n 0, 1) := by decide +kernel
theorem dX13_reducesOnce_4 : decode cX13_reducesOnce 4 = .ok (.getfield 81, 3) := by decide +kernel
theorem dX13_reducesOnce_7 : decode cX13_reducesOnce 7 = .ok (.if_icmp .ge 24, 3) := by decide +kernel
theorem dX13_reducesOnce_10 : decode cX13_reducesOnce 10 = .ok (.aload_n 0, 1) := by decide +kernel
theorem dX13_reducesOnce_11 : decode cX13_reducesOnce 11 = .ok (.iload_n 1, 1) := by decide +kernel
theorem dX13_reducesOnce_12 : decode cX13_reducesOnce 12 = .ok (.invokevirtual 92, 3) := by decide +kernel
theorem dX13_reducesOnce_15 : decode cX13_reducesOnce 15 = .ok (.ifCond .eq 10, 3) := by decide +kernel
theorem dX13_reducesOnce_18 : decode cX13_reducesOnce 18 = .ok (.aload_n 0, 1) := by decide +kernel
theorem dX13_reducesOnce_19 : decode cX13_reducesOnce 19 = .ok (.iload_n 1, 1) := by decide +kernel
theorem dX13_reducesOnce_20 : decode cX13_reducesOnce 20 = .ok (.invokevirtual 96, 3) := by decide +kernel
theorem dX13_reducesOnce_23 : decode cX13_reducesOnce 23 = .ok (.iconst 1, 1) := by decide +kernel
theorem dX13_reducesOnce_24 : decode cX13_reducesOnce 24 = .ok (.ireturn, 1) := by decide +kernel
theorem dX13_reducesOnce_25 : decode cX13_reducesOnce 25 = .ok (.iinc 1 1, 3) := by decide +kernel
theorem dX13_reducesOnce_28 : decode cX13_reducesOnce 28 = .ok (.goto (-26), 3) := by decide +kernel
theorem dX13_reducesOnce_31 : decode cX13_reducesOnce 31 = .ok (.iconst 0, 1) := by decide +kernel
theorem dX13_reducesOnce_32 : decode cX13_reducesOnce 32 = .ok (.istore_n 1, 1) := by decide +kernel
theorem dX13_reducesOnce_33 : decode cX13_reducesOnce 33 = .ok (.iload_n 1, 1) := by decide +kernel
theorem dX13_reducesOnce_34 : decode cX13_reducesOnce 34 = .ok (.aload_n 0, 1) := by decide +kernel
theorem dX13_reducesOnce_35 : decode cX13_reducesOnce 35 = .ok (.getfield 81, 3) := by decide +kernel
theorem dX13_reducesOnce_38 : decode cX13_reducesOnce 38 = .ok (.if_icmp .ge 51, 3) := by decide +kernel
theorem dX13_reducesOnce_41 : decode cX13_reducesOnce 41 = .ok (.iload_n 1, 1) := by decide +kernel
theorem dX13_reducesOnce_42 : decode cX13_reducesOnce 42 = .ok (.iconst 1, 1) := by decide +kernel
theorem dX13_reducesOnce_43 : decode cX13_reducesOnce 43 = .ok (.iadd, 1) := by decide +kernel
theorem dX13_reducesOnce_44 : decode cX13_reducesOnce 44 = .ok (.istore_n 2, 1) := by decide +kernel
theorem dX13_reducesOnce_45 : decode cX13_reducesOnce 45 = .ok (.iload_n 2, 1) := by decide +kernel
theorem dX13_reducesOnce_46 : decode cX13_reducesOnce 46 = .ok (.aload_n 0, 1) := by decide +kernel
theorem dX13_reducesOnce_47 : decode cX13_reducesOnce 47 = .ok (.getfield 81, 3) := by decide +kernel
theorem dX13_reducesOnce_50 : decode cX13_reducesOnce 50 = .ok (.if_icmp .ge 33, 3) := by decide +kernel
theorem dX13_reducesOnce_53 : decode cX13_reducesOnce 53 = .ok (.aload_n 0, 1) := by decide +kernel
theorem dX13_reducesOnce_54 : decode cX13_reducesOnce 54 = .ok (.iload_n 1, 1) := by decide +kernel
theorem dX13_reducesOnce_55 : decode cX13_reducesOnce 55 = .ok (.iload_n 2, 1) := by decide +kernel
theorem dX13_reducesOnce_56 : decode cX13_reducesOnce 56 = .ok (.invokevirtual 100, 3) := by decide +kernel
theorem dX13_reducesOnce_59 : decode cX13_reducesOnce 59 = .ok (.ifCond .ne 6, 3) := by decide +kernel
theorem dX13_reducesOnce_62 : decode cX13_reducesOnce 62 = .ok (.goto 15, 3) := by decide +kernel
theorem dX13_reducesOnce_65 : decode cX13_reducesOnce 65 = .ok (.aload_n 0, 1) := by decide +kernel
theorem dX13_reducesOnce_66 : decode cX13_reducesOnce 66 = .ok (.iload_n 2, 1) := by decide +kernel
theorem dX13_reducesOnce_67 : decode cX13_reducesOnce 67 = .ok (.invokevirtual 96, 3) := by decide +kernel
theorem dX13_reducesOnce_70 : decode cX13_reducesOnce 70 = .ok (.aload_n 0, 1) := by decide +kernel
theorem dX13_reducesOnce_71 : decode cX13_reducesOnce 71 = .ok (.iload_n 1, 1) := by decide +kernel
theorem dX13_reducesOnce_72 : decode cX13_reducesOnce 72 = .ok (.invokevirtual 96, 3) := by decide +kernel
theorem dX13_reducesOnce_75 : decode cX13_reducesOnce 75 = .ok (.iconst 1, 1) := by decide +kernel
theorem dX13_reducesOnce_76 : decode cX13_reducesOnce 76 = .ok (.ireturn, 1) := by decide +kernel
theorem dX13_reducesOnce_77 : decode cX13_reducesOnce 77 = .ok (.iinc 2 1, 3) := by decide +kernel
theorem dX13_reducesOnce_80 : decode cX13_reducesOnce 80 = .ok (.goto (-35), 3) := by decide +kernel
theorem dX13_reducesOnce_83 : decode cX13_reducesOnce 83 = .ok (.iinc 1 1, 3) := by decide +kernel
theorem dX13_reducesOnce_86 : decode cX13_reducesOnce 86 = .ok (.goto (-53), 3) := by decide +kernel
theorem dX13_reducesOnce_89 : decode cX13_reducesOnce 89 = .ok (.iconst 0, 1) := by decide +kernel
theorem dX13_reducesOnce_90 : decode cX13_reducesOnce 90 = .ok (.ireturn, 1) := by decide +kernel
theorem dX13_reduces_0 : decode cX13_reduces 0 = .ok (.iconst 1, 1) := by decide +kernel
theorem dX13_reduces_1 : decode cX13_reduces 1 = .ok (.istore_n 1, 1) := by decide +kernel
theorem dX13_reduces_2 : decode cX13_reduces 2 = .ok (.iload_n 1, 1) := by decide +kernel
theorem dX13_reduces_3 : decode cX13_reduces 3 = .ok (.ifCond .eq 11, 3) := by decide +kernel
theorem dX13_reduces_6 : decode cX13_reduces 6 = .ok (.aload_n 0, 1) := by decide +kernel
theorem dX13_reduces_7 : decode cX13_reduces 7 = .ok (.invokevirtual 103, 3) := by decide +kernel
theorem dX13_reduces_10 : decode cX13_reduces 10 = .ok (.istore_n 1, 1) := by decide +kernel
theorem dX13_reduces_11 : decode cX13_reduces 11 = .ok (.goto (-9), 3) := by decide +kernel
theorem dX13_reduces_14 : decode cX13_reduces 14 = .ok (.return_, 1) := by decide +kernel
theorem dX13_inserts_0 : decode cX13_inserts 0 = .ok (.iload 4, 2) := by decide +kernel
theorem dX13_inserts_2 : decode cX13_inserts 2 = .ok (.istore 5, 2) := by decide +kernel
theorem dX13_inserts_4 : decode cX13_inserts 4 = .ok (.iload 5, 2) := by decide +kernel
theorem dX13_inserts_6 : decode cX13_inserts 6 = .ok (.iload_n 1, 1) := by decide +kernel
theorem dX13_inserts_7 : decode cX13_inserts 7 = .ok (.if_icmp .le 41, 3) := by decide +kernel
theorem dX13_inserts_10 : decode cX13_inserts 10 = .ok (.aload_n 0, 1) := by decide +kernel
theorem dX13_inserts_11 : decode cX13_inserts 11 = .ok (.getfield 22, 3) := by decide +kernel
theorem dX13_inserts_14 : decode cX13_inserts 14 = .ok (.iload 5, 2) := by decide +kernel
theorem dX13_inserts_16 : decode cX13_inserts 16 = .ok (.aload_n 0, 1) := by decide +kernel
theorem dX13_inserts_17 : decode cX13_inserts 17 = .ok (.getfield 22, 3) := by decide +kernel
theorem dX13_inserts_20 : decode cX13_inserts 20 = .ok (.iload 5, 2) := by decide +kernel
theorem dX13_inserts_22 : decode cX13_inserts 22 = .ok (.iconst 1, 1) := by decide +kernel
theorem dX13_inserts_23 : decode cX13_inserts 23 = .ok (.isub, 1) := by decide +kernel
theorem dX13_inserts_24 : decode cX13_inserts 24 = .ok (.iaload, 1) := by decide +kernel
theorem dX13_inserts_25 : decode cX13_inserts 25 = .ok (.iastore, 1) := by decide +kernel
theorem dX13_inserts_26 : decode cX13_inserts 26 = .ok (.aload_n 0, 1) := by decide +kernel
theorem dX13_inserts_27 : decode cX13_inserts 27 = .ok (.getfield 25, 3) := by decide +kernel
theorem dX13_inserts_30 : decode cX13_inserts 30 = .ok (.iload 5, 2) := by decide +kernel
theorem dX13_inserts_32 : decode cX13_inserts 32 = .ok (.aload_n 0, 1) := by decide +kernel
theorem dX13_inserts_33 : decode cX13_inserts 33 = .ok (.getfield 25, 3) := by decide +kernel
theorem dX13_inserts_36 : decode cX13_inserts 36 = .ok (.iload 5, 2) := by decide +kernel
theorem dX13_inserts_38 : decode cX13_inserts 38 = .ok (.iconst 1, 1) := by decide +kernel
theorem dX13_inserts_39 : decode cX13_inserts 39 = .ok (.isub, 1) := by decide +kernel
theorem dX13_inserts_40 : decode cX13_inserts 40 = .ok (.iaload, 1) := by decide +kernel
theorem dX13_inserts_41 : decode cX13_inserts 41 = .ok (.iastore, 1) := by decide +kernel
theorem dX13_inserts_42 : decode cX13_inserts 42 = .ok (.iinc 5 (-1), 3) := by decide +kernel
theorem dX13_inserts_45 : decode cX13_inserts 45 = .ok (.goto (-41), 3) := by decide +kernel
theorem dX13_inserts_48 : decode cX13_inserts 48 = .ok (.aload_n 0, 1) := by decide +kernel
theorem dX13_inserts_49 : decode cX13_inserts 49 = .ok (.getfield 22, 3) := by decide +kernel
theorem dX13_inserts_52 : decode cX13_inserts 52 = .ok (.iload_n 1, 1) := by decide +kernel
theorem dX13_inserts_53 : decode cX13_inserts 53 = .ok (.iload_n 2, 1) := by decide +kernel
theorem dX13_inserts_54 : decode cX13_inserts 54 = .ok (.iastore, 1) := by decide +kernel
theorem dX13_inserts_55 : decode cX13_inserts 55 = .ok (.aload_n 0, 1) := by decide +kernel
theorem dX13_inserts_56 : decode cX13_inserts 56 = .ok (.getfield 25, 3) := by decide +kernel
theorem dX13_inserts_59 : decode cX13_inserts 59 = .ok (.iload_n 1, 1) := by decide +kernel
theorem dX13_inserts_60 : decode cX13_inserts 60 = .ok (.iload_n 3, 1) := by decide +kernel
theorem dX13_inserts_61 : decode cX13_inserts 61 = .ok (.iastore, 1) := by decide +kernel
theorem dX13_inserts_62 : decode cX13_inserts 62 = .ok (.return_, 1) := by decide +kernel
theorem dX13_notCurl_0 : decode cX13_notCurl 0 = .ok (.iload_n 1, 1) := by decide +kernel
theorem dX13_notCurl_1 : decode cX13_notCurl 1 = .ok (.iconst 0, 1) := by decide +kernel
theorem dX13_notCurl_2 : decode cX13_notCurl 2 = .ok (.iconst 2, 1) := by decide +kernel
theorem dX13_notCurl_3 : decode cX13_notCurl 3 = .ok (.aload_n 0, 1) := by decide +kernel
theorem dX13_notCurl_4 : decode cX13_notCurl 4 = .ok (.getfield 7, 3) := by decide +kernel
theorem dX13_notCurl_7 : decode cX13_notCurl 7 = .ok (.iconst 0, 1) := by decide +kernel
theorem dX13_notCurl_8 : decode cX13_notCurl 8 = .ok (.iaload, 1) := by decide +kernel
theorem dX13_notCurl_9 : decode cX13_notCurl 9 = .ok (.imul, 1) := by decide +kernel
theorem dX13_notCurl_10 : decode cX13_notCurl 10 = .ok (.invokestatic 107, 3) := by decide +kernel
theorem dX13_notCurl_13 : decode cX13_notCurl 13 = .ok (.ifCond .ne 5, 3) := by decide +kernel
theorem dX13_notCurl_16 : decode cX13_notCurl 16 = .ok (.iconst 1, 1) := by decide +kernel
theorem dX13_notCurl_17 : decode cX13_notCurl 17 = .ok (.ireturn, 1) := by decide +kernel
theorem dX13_notCurl_18 : decode cX13_notCurl 18 = .ok (.aload_n 0, 1) := by decide +kernel
theorem dX13_notCurl_19 : decode cX13_notCurl 19 = .ok (.getfield 7, 3) := by decide +kernel
theorem dX13_notCurl_22 : decode cX13_notCurl 22 = .ok (.iconst 0, 1) := by decide +kernel
theorem dX13_notCurl_23 : decode cX13_notCurl 23 = .ok (.iaload, 1) := by decide +kernel
theorem dX13_notCurl_24 : decode cX13_notCurl 24 = .ok (.bipush 7, 2) := by decide +kernel
theorem dX13_notCurl_26 : decode cX13_notCurl 26 = .ok (.if_icmp .ne 7, 3) := by decide +kernel
theorem dX13_notCurl_29 : decode cX13_notCurl 29 = .ok (.iconst 2, 1) := by decide +kernel
theorem dX13_notCurl_30 : decode cX13_notCurl 30 = .ok (.goto 4, 3) := by decide +kernel
theorem dX13_notCurl_33 : decode cX13_notCurl 33 = .ok (.iconst 0, 1) := by decide +kernel
theorem dX13_notCurl_34 : decode cX13_notCurl 34 = .ok (.ireturn, 1) := by decide +kernel
theorem dX13_addsCurl_0 : decode cX13_addsCurl 0 = .ok (.aload_n 0, 1) := by decide +kernel
theorem dX13_addsCurl_1 : decode cX13_addsCurl 1 = .ok (.invokevirtual 111, 3) := by decide +kernel
theorem dX13_addsCurl_4 : decode cX13_addsCurl 4 = .ok (.aload_n 0, 1) := by decide +kernel
theorem dX13_addsCurl_5 : decode cX13_addsCurl 5 = .ok (.iload_n 1, 1) := by decide +kernel
theorem dX13_addsCurl_6 : decode cX13_addsCurl 6 = .ok (.aload_n 0, 1) := by decide +kernel
theorem dX13_addsCurl_7 : decode cX13_addsCurl 7 = .ok (.getfield 81, 3) := by decide +kernel
theorem dX13_addsCurl_10 : decode cX13_addsCurl 10 = .ok (.iload_n 3, 1) := by decide +kernel
theorem dX13_addsCurl_11 : decode cX13_addsCurl 11 = .ok (.iconst 2, 1) := by decide +kernel
theorem dX13_addsCurl_12 : decode cX13_addsCurl 12 = .ok (.aload_n 0, 1) := by decide +kernel
theorem dX13_addsCurl_13 : decode cX13_addsCurl 13 = .ok (.getfield 81, 3) := by decide +kernel
theorem dX13_addsCurl_16 : decode cX13_addsCurl 16 = .ok (.imul, 1) := by decide +kernel
theorem dX13_addsCurl_17 : decode cX13_addsCurl 17 = .ok (.invokevirtual 114, 3) := by decide +kernel
theorem dX13_addsCurl_20 : decode cX13_addsCurl 20 = .ok (.aload_n 0, 1) := by decide +kernel
theorem dX13_addsCurl_21 : decode cX13_addsCurl 21 = .ok (.iload_n 1, 1) := by decide +kernel
theorem dX13_addsCurl_22 : decode cX13_addsCurl 22 = .ok (.iconst 1, 1) := by decide +kernel
theorem dX13_addsCurl_23 : decode cX13_addsCurl 23 = .ok (.iadd, 1) := by decide +kernel
theorem dX13_addsCurl_24 : decode cX13_addsCurl 24 = .ok (.aload_n 0, 1) := by decide +kernel
theorem dX13_addsCurl_25 : decode cX13_addsCurl 25 = .ok (.getfield 81, 3) := by decide +kernel
theorem dX13_addsCurl_28 : decode cX13_addsCurl 28 = .ok (.iconst 1, 1) := by decide +kernel
theorem dX13_addsCurl_29 : decode cX13_addsCurl 29 = .ok (.iload_n 3, 1) := by decide +kernel
theorem dX13_addsCurl_30 : decode cX13_addsCurl 30 = .ok (.isub, 1) := by decide +kernel
theorem dX13_addsCurl_31 : decode cX13_addsCurl 31 = .ok (.iconst 2, 1) := by decide +kernel
theorem dX13_addsCurl_32 : decode cX13_addsCurl 32 = .ok (.aload_n 0, 1) := by decide +kernel
theorem dX13_addsCurl_33 : decode cX13_addsCurl 33 = .ok (.getfield 81, 3) := by decide +kernel
theorem dX13_addsCurl_36 : decode cX13_addsCurl 36 = .ok (.imul, 1) := by decide +kernel
theorem dX13_addsCurl_37 : decode cX13_addsCurl 37 = .ok (.iconst 1, 1) := by decide +kernel
theorem dX13_addsCurl_38 : decode cX13_addsCurl 38 = .ok (.iadd, 1) := by decide +kernel
theorem dX13_addsCurl_39 : decode cX13_addsCurl 39 = .ok (.invokevirtual 114, 3) := by decide +kernel
theorem dX13_addsCurl_42 : decode cX13_addsCurl 42 = .ok (.aload_n 0, 1) := by decide +kernel
theorem dX13_addsCurl_43 : decode cX13_addsCurl 43 = .ok (.getfield 28, 3) := by decide +kernel
theorem dX13_addsCurl_46 : decode cX13_addsCurl 46 = .ok (.aload_n 0, 1) := by decide +kernel
theorem dX13_addsCurl_47 : decode cX13_addsCurl 47 = .ok (.getfield 81, 3) := by decide +kernel
theorem dX13_addsCurl_50 : decode cX13_addsCurl 50 = .ok (.iload_n 2, 1) := by decide +kernel
theorem dX13_addsCurl_51 : decode cX13_addsCurl 51 = .ok (.iastore, 1) := by decide +kernel
theorem dX13_addsCurl_52 : decode cX13_addsCurl 52 = .ok (.aload_n 0, 1) := by decide +kernel
theorem dX13_addsCurl_53 : decode cX13_addsCurl 53 = .ok (.dup, 1) := by decide +kernel
theorem dX13_addsCurl_54 : decode cX13_addsCurl 54 = .ok (.getfield 81, 3) := by decide +kernel
theorem dX13_addsCurl_57 : decode cX13_addsCurl 57 = .ok (.iconst 1, 1) := by decide +kernel
theorem dX13_addsCurl_58 : decode cX13_addsCurl 58 = .ok (.iadd, 1) := by decide +kernel
theorem dX13_addsCurl_59 : decode cX13_addsCurl 59 = .ok (.putfield 81, 3) := by decide +kernel
theorem dX13_addsCurl_62 : decode cX13_addsCurl 62 = .ok (.aload_n 0, 1) := by decide +kernel
theorem dX13_addsCurl_63 : decode cX13_addsCurl 63 = .ok (.invokevirtual 118, 3) := by decide +kernel
theorem dX13_addsCurl_66 : decode cX13_addsCurl 66 = .ok (.aload_n 0, 1) := by decide +kernel
theorem dX13_addsCurl_67 : decode cX13_addsCurl 67 = .ok (.getfield 81, 3) := by decide +kernel
theorem dX13_addsCurl_70 : decode cX13_addsCurl 70 = .ok (.iconst 1, 1) := by decide +kernel
theorem dX13_addsCurl_71 : decode cX13_addsCurl 71 = .ok (.isub, 1) := by decide +kernel
theorem dX13_addsCurl_72 : decode cX13_addsCurl 72 = .ok (.ireturn, 1) := by decide +kernel
theorem dX13_addCurl_0 : decode cX13_addCurl 0 = .ok (.aload_n 0, 1) := by decide +kernel
theorem dX13_addCurl_1 : decode cX13_addCurl 1 = .ok (.iconst 0, 1) := by decide +kernel
theorem dX13_addCurl_2 : decode cX13_addCurl 2 = .ok (.putfield 66, 3) := by decide +kernel
theorem dX13_addCurl_5 : decode cX13_addCurl 5 = .ok (.aload_n 0, 1) := by decide +kernel
theorem dX13_addCurl_6 : decode cX13_addCurl 6 = .ok (.iload_n 1, 1) := by decide +kernel
theorem dX13_addCurl_7 : decode cX13_addCurl 7 = .ok (.invokevirtual 121, 3) := by decide +kernel
theorem dX13_addCurl_10 : decode cX13_addCurl 10 = .ok (.istore 4, 2) := by decide +kernel
theorem dX13_addCurl_12 : decode cX13_addCurl 12 = .ok (.iload 4, 2) := by decide +kernel
theorem dX13_addCurl_14 : decode cX13_addCurl 14 = .ok (.ifCond .eq 10, 3) := by decide +kernel
theorem dX13_addCurl_17 : decode cX13_addCurl 17 = .ok (.aload_n 0, 1) := by decide +kernel
theorem dX13_addCurl_18 : decode cX13_addCurl 18 = .ok (.iload 4, 2) := by decide +kernel
theorem dX13_addCurl_20 : decode cX13_addCurl 20 = .ok (.invokevirtual 125, 3) := by decide +kernel
theorem dX13_addCurl_23 : decode cX13_addCurl 23 = .ok (.ireturn, 1) := by decide +kernel
theorem dX13_addCurl_24 : decode cX13_addCurl 24 = .ok (.aload_n 0, 1) := by decide +kernel
theorem dX13_addCurl_25 : decode cX13_addCurl 25 = .ok (.invokevirtual 128, 3) := by decide +kernel
theorem dX13_addCurl_28 : decode cX13_addCurl 28 = .ok (.aload_n 0, 1) := by decide +kernel
theorem dX13_addCurl_29 : decode cX13_addCurl 29 = .ok (.iload_n 1, 1) := by decide +kernel
theorem dX13_addCurl_30 : decode cX13_addCurl 30 = .ok (.iload_n 2, 1) := by decide +kernel
theorem dX13_addCurl_31 : decode cX13_addCurl 31 = .ok (.ifCond .eq 7, 3) := by decide +kernel
theorem dX13_addCurl_34 : decode cX13_addCurl 34 = .ok (.iconst 1, 1) := by decide +kernel
theorem dX13_addCurl_35 : decode cX13_addCurl 35 = .ok (.goto 4, 3) := by decide +kernel
theorem dX13_addCurl_38 : decode cX13_addCurl 38 = .ok (.iconst 0, 1) := by decide +kernel
theorem dX13_addCurl_39 : decode cX13_addCurl 39 = .ok (.iload_n 3, 1) := by decide +kernel
theorem dX13_addCurl_40 : decode cX13_addCurl 40 = .ok (.ifCond .eq 7, 3) := by decide +kernel
theorem dX13_addCurl_43 : decode cX13_addCurl 43 = .ok (.iconst 1, 1) := by decide +kernel
theorem dX13_addCurl_44 : decode cX13_addCurl 44 = .ok (.goto 4, 3) := by decide +kernel
theorem dX13_addCurl_47 : decode cX13_addCurl 47 = .ok (.iconst 0, 1) := by decide +kernel
theorem dX13_addCurl_48 : decode cX13_addCurl 48 = .ok (.invokevirtual 131, 3) := by decide +kernel
theorem dX13_addCurl_51 : decode cX13_addCurl 51 = .ok (.ireturn, 1) := by decide +kernel
theorem dX13_isCrossing_0 : decode cX13_isCrossing 0 = .ok (.iload_n 1, 1) := by decide +kernel
theorem dX13_isCrossing_1 : decode cX13_isCrossing 1 = .ok (.iconst 0, 1) := by decide +kernel
theorem dX13_isCrossing_2 : decode cX13_isCrossing 2 = .ok (.aload_n 0, 1) := by decide +kernel
theorem dX13_isCrossing_3 : decode cX13_isCrossing 3 = .ok (.getfield 7, 3) := by decide +kernel
theorem dX13_isCrossing_6 : decode cX13_isCrossing 6 = .ok (.iconst 0, 1) := by decide +kernel
theorem dX13_isCrossing_7 : decode cX13_isCrossing 7 = .ok (.iaload, 1) := by decide +kernel
theorem dX13_isCrossing_8 : decode cX13_isCrossing 8 = .ok (.iconst 1, 1) := by decide +kernel
theorem dX13_isCrossing_9 : decode cX13_isCrossing 9 = .ok (.isub, 1) := by decide +kernel
theorem dX13_isCrossing_10 : decode cX13_isCrossing 10 = .ok (.invokestatic 107, 3) := by decide +kernel
theorem dX13_isCrossing_13 : decode cX13_isCrossing 13 = .ok (.ireturn, 1) := by decide +kernel
theorem dX13_notUncurl_0 : decode cX13_notUncurl 0 = .ok (.aload_n 0, 1) := by decide +kernel
theorem dX13_notUncurl_1 : decode cX13_notUncurl 1 = .ok (.iload_n 1, 1) := by decide +kernel
theorem dX13_notUncurl_2 : decode cX13_notUncurl 2 = .ok (.invokevirtual 135, 3) := by decide +kernel
theorem dX13_notUncurl_5 : decode cX13_notUncurl 5 = .ok (.ifCond .ne 5, 3) := by decide +kernel
theorem dX13_notUncurl_8 : decode cX13_notUncurl 8 = .ok (.iconst 1, 1) := by decide +kernel
theorem dX13_notUncurl_9 : decode cX13_notUncurl 9 = .ok (.ireturn, 1) := by decide +kernel
theorem dX13_notUncurl_10 : decode cX13_notUncurl 10 = .ok (.aload_n 0, 1) := by decide +kernel
theorem dX13_notUncurl_11 : decode cX13_notUncurl 11 = .ok (.invokevirtual 111, 3) := by decide +kernel
theorem dX13_notUncurl_14 : decode cX13_notUncurl 14 = .ok (.aload_n 0, 1) := by decide +kernel
theorem dX13_notUncurl_15 : decode cX13_notUncurl 15 = .ok (.iload_n 1, 1) := by decide +kernel
theorem dX13_notUncurl_16 : decode cX13_notUncurl 16 = .ok (.invokevirtual 92, 3) := by decide +kernel
theorem dX13_notUncurl_19 : decode cX13_notUncurl 19 = .ok (.ifCond .eq 7, 3) := by decide +kernel
theorem dX13_notUncurl_22 : decode cX13_notUncurl 22 = .ok (.iconst 0, 1) := by decide +kernel
theorem dX13_notUncurl_23 : decode cX13_notUncurl 23 = .ok (.goto 4, 3) := by decide +kernel
theorem dX13_notUncurl_26 : decode cX13_notUncurl 26 = .ok (.iconst 2, 1) := by decide +kernel
theorem dX13_notUncurl_27 : decode cX13_notUncurl 27 = .ok (.ireturn, 1) := by decide +kernel
theorem dX13_uncurls_0 : decode cX13_uncurls 0 = .ok (.aload_n 0, 1) := by decide +kernel
theorem dX13_uncurls_1 : decode cX13_uncurls 1 = .ok (.invokevirtual 111, 3) := by decide +kernel
theorem dX13_uncurls_4 : decode cX13_uncurls 4 = .ok (.aload_n 0, 1) := by decide +kernel
theorem dX13_uncurls_5 : decode cX13_uncurls 5 = .ok (.iload_n 1, 1) := by decide +kernel
theorem dX13_uncurls_6 : decode cX13_uncurls 6 = .ok (.invokevirtual 96, 3) := by decide +kernel
theorem dX13_uncurls_9 : decode cX13_uncurls 9 = .ok (.aload_n 0, 1) := by decide +kernel
theorem dX13_uncurls_10 : decode cX13_uncurls 10 = .ok (.invokevirtual 118, 3) := by decide +kernel
theorem dX13_uncurls_13 : decode cX13_uncurls 13 = .ok (.aload_n 0, 1) := by decide +kernel
theorem dX13_uncurls_14 : decode cX13_uncurls 14 = .ok (.getfield 81, 3) := by decide +kernel
theorem dX13_uncurls_17 : decode cX13_uncurls 17 = .ok (.ireturn, 1) := by decide +kernel
theorem dX13_removeCurl_0 : decode cX13_removeCurl 0 = .ok (.aload_n 0, 1) := by decide +kernel
theorem dX13_removeCurl_1 : decode cX13_removeCurl 1 = .ok (.iconst 0, 1) := by decide +kernel
theorem dX13_removeCurl_2 : decode cX13_removeCurl 2 = .ok (.putfield 66, 3) := by decide +kernel
theorem dX13_removeCurl_5 : decode cX13_removeCurl 5 = .ok (.aload_n 0, 1) := by decide +kernel
theorem dX13_removeCurl_6 : decode cX13_removeCurl 6 = .ok (.iload_n 1, 1) := by decide +kernel
theorem dX13_removeCurl_7 : decode cX13_removeCurl 7 = .ok (.invokevirtual 138, 3) := by decide +kernel
theorem dX13_removeCurl_10 : decode cX13_removeCurl 10 = .ok (.istore_n 2, 1) := by decide +kernel
theorem dX13_removeCurl_11 : decode cX13_removeCurl 11 = .ok (.iload_n 2, 1) := by decide +kernel
theorem dX13_removeCurl_12 : decode cX13_removeCurl 12 = .ok (.ifCond .eq 9, 3) := by decide +kernel
theorem dX13_removeCurl_15 : decode cX13_removeCurl 15 = .ok (.aload_n 0, 1) := by decide +kernel
theorem dX13_removeCurl_16 : decode cX13_removeCurl 16 = .ok (.iload_n 2, 1) := by decide +kernel
theorem dX13_removeCurl_17 : decode cX13_removeCurl 17 = .ok (.invokevirtual 125, 3) := by decide +kernel
theorem dX13_removeCurl_20 : decode cX13_removeCurl 20 = .ok (.ireturn, 1) := by decide +kernel
theorem dX13_removeCurl_21 : decode cX13_removeCurl 21 = .ok (.aload_n 0, 1) := by decide +kernel
theorem dX13_removeCurl_22 : decode cX13_removeCurl 22 = .ok (.invokevirtual 128, 3) := by decide +kernel
theorem dX13_removeCurl_25 : decode cX13_removeCurl 25 = .ok (.aload_n 0, 1) := by decide +kernel
theorem dX13_removeCurl_26 : decode cX13_removeCurl 26 = .ok (.iload_n 1, 1) := by decide +kernel
theorem dX13_removeCurl_27 : decode cX13_removeCurl 27 = .ok (.invokevirtual 141, 3) := by decide +kernel
theorem dX13_removeCurl_30 : decode cX13_removeCurl 30 = .ok (.ireturn, 1) := by decide +kernel
theorem dX13_notPoke_0 : decode cX13_notPoke 0 = .ok (.iconst 2, 1) := by decide +kernel
theorem dX13_notPoke_1 : decode cX13_notPoke 1 = .ok (.aload_n 0, 1) := by decide +kernel
theorem dX13_notPoke_2 : decode cX13_notPoke 2 = .ok (.getfield 7, 3) := by decide +kernel
theorem dX13_notPoke_5 : decode cX13_notPoke 5 = .ok (.iconst 0, 1) := by decide +kernel
theorem dX13_notPoke_6 : decode cX13_notPoke 6 = .ok (.iaload, 1) := by decide +kernel
theorem dX13_notPoke_7 : decode cX13_notPoke 7 = .ok (.imul, 1) := by decide +kernel
theorem dX13_notPoke_8 : decode cX13_notPoke 8 = .ok (.istore_n 3, 1) := by decide +kernel
theorem dX13_notPoke_9 : decode cX13_notPoke 9 = .ok (.iload_n 1, 1) := by decide +kernel
theorem dX13_notPoke_10 : decode cX13_notPoke 10 = .ok (.iconst 0, 1) := by decide +kernel
theorem dX13_notPoke_11 : decode cX13_notPoke 11 = .ok (.iload_n 3, 1) := by decide +kernel
theorem dX13_notPoke_12 : decode cX13_notPoke 12 = .ok (.invokestatic 107, 3) := by decide +kernel
theorem dX13_notPoke_15 : decode cX13_notPoke 15 = .ok (.ifCond .eq 12, 3) := by decide +kernel
theorem dX13_notPoke_18 : decode cX13_notPoke 18 = .ok (.iload_n 2, 1) := by decide +kernel
theorem dX13_notPoke_19 : decode cX13_notPoke 19 = .ok (.iconst 0, 1) := by decide +kernel
theorem dX13_notPoke_20 : decode cX13_notPoke 20 = .ok (.iload_n 3, 1) := by decide +kernel
theorem dX13_notPoke_21 : decode cX13_notPoke 21 = .ok (.invokestatic 107, 3) := by decide +kernel
theorem dX13_notPoke_24 : decode cX13_notPoke 24 = .ok (.ifCond .ne 5, 3) := by decide +kernel
theorem dX13_notPoke_27 : decode cX13_notPoke 27 = .ok (.iconst 1, 1) := by decide +kernel
theorem dX13_notPoke_28 : decode cX13_notPoke 28 = .ok (.ireturn, 1) := by decide +kernel
theorem dX13_notPoke_29 : decode cX13_notPoke 29 = .ok (.aload_n 0, 1) := by decide +kernel
theorem dX13_notPoke_30 : decode cX13_notPoke 30 = .ok (.getfield 7, 3) := by decide +kernel
theorem dX13_notPoke_33 : decode cX13_notPoke 33 = .ok (.iconst 0, 1) := by decide +kernel
theorem dX13_notPoke_34 : decode cX13_notPoke 34 = .ok (.iaload, 1) := by decide +kernel
theorem dX13_notPoke_35 : decode cX13_notPoke 35 = .ok (.iconst 5, 1) := by decide +kernel
theorem dX13_notPoke_36 : decode cX13_notPoke 36 = .ok (.if_icmp .le 7, 3) := by decide +kernel
theorem dX13_notPoke_39 : decode cX13_notPoke 39 = .ok (.iconst 2, 1) := by decide +kernel
theorem dX13_notPoke_40 : decode cX13_notPoke 40 = .ok (.goto 4, 3) := by decide +kernel
theorem dX13_notPoke_43 : decode cX13_notPoke 43 = .ok (.iconst 0, 1) := by decide +kernel
theorem dX13_notPoke_44 : decode cX13_notPoke 44 = .ok (.ireturn, 1) := by decide +kernel
theorem dX13_insertsTwo_0 : decode cX13_insertsTwo 0 = .ok (.aload_n 0, 1) := by decide +kernel
theorem dX13_insertsTwo_1 : decode cX13_insertsTwo 1 = .ok (.iload_n 1, 1) := by decide +kernel
theorem dX13_insertsTwo_2 : decode cX13_insertsTwo 2 = .ok (.iload_n 2, 1) := by decide +kernel
theorem dX13_insertsTwo_3 : decode cX13_insertsTwo 3 = .ok (.iload 4, 2) := by decide +kernel
theorem dX13_insertsTwo_5 : decode cX13_insertsTwo 5 = .ok (.iload 5, 2) := by decide +kernel
theorem dX13_insertsTwo_7 : decode cX13_insertsTwo 7 = .ok (.invokevirtual 114, 3) := by decide +kernel
theorem dX13_insertsTwo_10 : decode cX13_insertsTwo 10 = .ok (.aload_n 0, 1) := by decide +kernel
theorem dX13_insertsTwo_11 : decode cX13_insertsTwo 11 = .ok (.iload_n 1, 1) := by decide +kernel
theorem dX13_insertsTwo_12 : decode cX13_insertsTwo 12 = .ok (.iconst 1, 1) := by decide +kernel
theorem dX13_insertsTwo_13 : decode cX13_insertsTwo 13 = .ok (.iadd, 1) := by decide +kernel
theorem dX13_insertsTwo_14 : decode cX13_insertsTwo 14 = .ok (.iload_n 3, 1) := by decide +kernel
theorem dX13_insertsTwo_15 : decode cX13_insertsTwo 15 = .ok (.iload 4, 2) := by decide +kernel
theorem dX13_insertsTwo_17 : decode cX13_insertsTwo 17 = .ok (.iload 5, 2) := by decide +kernel
theorem dX13_insertsTwo_19 : decode cX13_insertsTwo 19 = .ok (.iconst 1, 1) := by decide +kernel
theorem dX13_insertsTwo_20 : decode cX13_insertsTwo 20 = .ok (.iadd, 1) := by decide +kernel
theorem dX13_insertsTwo_21 : decode cX13_insertsTwo 21 = .ok (.invokevirtual 114, 3) := by decide +kernel
theorem dX13_insertsTwo_24 : decode cX13_insertsTwo 24 = .ok (.return_, 1) := by decide +kernel
theorem dX13_addsPoke_0 : decode cX13_addsPoke 0 = .ok (.aload_n 0, 1) := by decide +kernel
theorem dX13_addsPoke_1 : decode cX13_addsPoke 1 = .ok (.invokevirtual 111, 3) := by decide +kernel
theorem dX13_addsPoke_4 : decode cX13_addsPoke 4 = .ok (.aload_n 0, 1) := by decide +kernel
theorem dX13_addsPoke_5 : decode cX13_addsPoke 5 = .ok (.getfield 81, 3) := by decide +kernel
theorem dX13_addsPoke_8 : decode cX13_addsPoke 8 = .ok (.istore 5, 2) := by decide +kernel
theorem dX13_addsPoke_10 : decode cX13_addsPoke 10 = .ok (.iload_n 3, 1) := by decide +kernel
theorem dX13_addsPoke_11 : decode cX13_addsPoke 11 = .ok (.iconst 1, 1) := by decide +kernel
theorem dX13_addsPoke_12 : decode cX13_addsPoke 12 = .ok (.if_icmp .ne 8, 3) := by decide +kernel
theorem dX13_addsPoke_15 : decode cX13_addsPoke 15 = .ok (.iload 5, 2) := by decide +kernel
theorem dX13_addsPoke_17 : decode cX13_addsPoke 17 = .ok (.goto 7, 3) := by decide +kernel
theorem dX13_addsPoke_20 : decode cX13_addsPoke 20 = .ok (.iload 5, 2) := by decide +kernel
theorem dX13_addsPoke_22 : decode cX13_addsPoke 22 = .ok (.iconst 1, 1) := by decide +kernel
theorem dX13_addsPoke_23 : decode cX13_addsPoke 23 = .ok (.iadd, 1) := by decide +kernel
theorem dX13_addsPoke_24 : decode cX13_addsPoke 24 = .ok (.istore 6, 2) := by decide +kernel
theorem dX13_addsPoke_26 : decode cX13_addsPoke 26 = .ok (.iload_n 3, 1) := by decide +kernel
theorem dX13_addsPoke_27 : decode cX13_addsPoke 27 = .ok (.iconst 1, 1) := by decide +kernel
theorem dX13_addsPoke_28 : decode cX13_addsPoke 28 = .ok (.if_icmp .ne 10, 3) := by decide +kernel
theorem dX13_addsPoke_31 : decode cX13_addsPoke 31 = .ok (.iload 5, 2) := by decide +kernel
theorem dX13_addsPoke_33 : decode cX13_addsPoke 33 = .ok (.iconst 1, 1) := by decide +kernel
theorem dX13_addsPoke_34 : decode cX13_addsPoke 34 = .ok (.iadd, 1) := by decide +kernel
theorem dX13_addsPoke_35 : decode cX13_addsPoke 35 = .ok (.goto 5, 3) := by decide +kernel
theorem dX13_addsPoke_38 : decode cX13_addsPoke 38 = .ok (.iload 5, 2) := by decide +kernel
theorem dX13_addsPoke_40 : decode cX13_addsPoke 40 = .ok (.istore 7, 2) := by decide +kernel
theorem dX13_addsPoke_42 : decode cX13_addsPoke 42 = .ok (.iload_n 2, 1) := by decide +kernel
theorem dX13_addsPoke_43 : decode cX13_addsPoke 43 = .ok (.iload_n 1, 1) := by decide +kernel
theorem dX13_addsPoke_44 : decode cX13_addsPoke 44 = .ok (.if_icmp .lt 40, 3) := by decide +kernel
theorem dX13_addsPoke_47 : decode cX13_addsPoke 47 = .ok (.aload_n 0, 1) := by decide +kernel
theorem dX13_addsPoke_48 : decode cX13_addsPoke 48 = .ok (.iload_n 1, 1) := by decide +kernel
theorem dX13_addsPoke_49 : decode cX13_addsPoke 49 = .ok (.iload 5, 2) := by decide +kernel
theorem dX13_addsPoke_51 : decode cX13_addsPoke 51 = .ok (.iload 5, 2) := by decide +kernel
theorem dX13_addsPoke_53 : decode cX13_addsPoke 53 = .ok (.iconst 1, 1) := by decide +kernel
theorem dX13_addsPoke_54 : decode cX13_addsPoke 54 = .ok (.iadd, 1) := by decide +kernel
theorem dX13_addsPoke_55 : decode cX13_addsPoke 55 = .ok (.iconst 1, 1) := by decide +kernel
theorem dX13_addsPoke_56 : decode cX13_addsPoke 56 = .ok (.iconst 2, 1) := by decide +kernel
theorem dX13_addsPoke_57 : decode cX13_addsPoke 57 = .ok (.iload 5, 2) := by decide +kernel
theorem dX13_addsPoke_59 : decode cX13_addsPoke 59 = .ok (.imul, 1) := by decide +kernel
theorem dX13_addsPoke_60 : decode cX13_addsPoke 60 = .ok (.invokevirtual 144, 3) := by decide +kernel
theorem dX13_addsPoke_63 : decode cX13_addsPoke 63 = .ok (.aload_n 0, 1) := by decide +kernel
theorem dX13_addsPoke_64 : decode cX13_addsPoke 64 = .ok (.iload_n 2, 1) := by decide +kernel
theorem dX13_addsPoke_65 : decode cX13_addsPoke 65 = .ok (.iconst 2, 1) := by decide +kernel
theorem dX13_addsPoke_66 : decode cX13_addsPoke 66 = .ok (.iadd, 1) := by decide +kernel
theorem dX13_addsPoke_67 : decode cX13_addsPoke 67 = .ok (.iload 6, 2) := by decide +kernel
theorem dX13_addsPoke_69 : decode cX13_addsPoke 69 = .ok (.iload 7, 2) := by decide +kernel
theorem dX13_addsPoke_71 : decode cX13_addsPoke 71 = .ok (.iconst 0, 1) := by decide +kernel
theorem dX13_addsPoke_72 : decode cX13_addsPoke 72 = .ok (.iconst 2, 1) := by decide +kernel
theorem dX13_addsPoke_73 : decode cX13_addsPoke 73 = .ok (.iload 5, 2) := by decide +kernel
theorem dX13_addsPoke_75 : decode cX13_addsPoke 75 = .ok (.imul, 1) := by decide +kernel
theorem dX13_addsPoke_76 : decode cX13_addsPoke 76 = .ok (.iconst 2, 1) := by decide +kernel
theorem dX13_addsPoke_77 : decode cX13_addsPoke 77 = .ok (.iadd, 1) := by decide +kernel
theorem dX13_addsPoke_78 : decode cX13_addsPoke 78 = .ok (.invokevirtual 144, 3) := by decide +kernel
theorem dX13_addsPoke_81 : decode cX13_addsPoke 81 = .ok (.goto 37, 3) := by decide +kernel
theorem dX13_addsPoke_84 : decode cX13_addsPoke 84 = .ok (.aload_n 0, 1) := by decide +kernel
theorem dX13_addsPoke_85 : decode cX13_addsPoke 85 = .ok (.iload_n 2, 1) := by decide +kernel
theorem dX13_addsPoke_86 : decode cX13_addsPoke 86 = .ok (.iload 6, 2) := by decide +kernel
theorem dX13_addsPoke_88 : decode cX13_addsPoke 88 = .ok (.iload 7, 2) := by decide +kernel
theorem dX13_addsPoke_90 : decode cX13_addsPoke 90 = .ok (.iconst 0, 1) := by decide +kernel
theorem dX13_addsPoke_91 : decode cX13_addsPoke 91 = .ok (.iconst 2, 1) := by decide +kernel
theorem dX13_addsPoke_92 : decode cX13_addsPoke 92 = .ok (.iload 5, 2) := by decide +kernel
theorem dX13_addsPoke_94 : decode cX13_addsPoke 94 = .ok (.imul, 1) := by decide +kernel
theorem dX13_addsPoke_95 : decode cX13_addsPoke 95 = .ok (.invokevirtual 144, 3) := by decide +kernel
theorem dX13_addsPoke_98 : decode cX13_addsPoke 98 = .ok (.aload_n 0, 1) := by decide +kernel
theorem dX13_addsPoke_99 : decode cX13_addsPoke 99 = .ok (.iload_n 1, 1) := by decide +kernel
theorem dX13_addsPoke_100 : decode cX13_addsPoke 100 = .ok (.iconst 2, 1) := by decide +kernel
theorem dX13_addsPoke_101 : decode cX13_addsPoke 101 = .ok (.iadd, 1) := by decide +kernel
theorem dX13_addsPoke_102 : decode cX13_addsPoke 102 = .ok (.iload 5, 2) := by decide +kernel
theorem dX13_addsPoke_104 : decode cX13_addsPoke 104 = .ok (.iload 5, 2) := by decide +kernel
theorem dX13_addsPoke_106 : decode cX13_addsPoke 106 = .ok (.iconst 1, 1) := by decide +kernel
theorem dX13_addsPoke_107 : decode cX13_addsPoke 107 = .ok (.iadd, 1) := by decide +kernel
theorem dX13_addsPoke_108 : decode cX13_addsPoke 108 = .ok (.iconst 1, 1) := by decide +kernel
theorem dX13_addsPoke_109 : decode cX13_addsPoke 109 = .ok (.iconst 2, 1) := by decide +kernel
theorem dX13_addsPoke_110 : decode cX13_addsPoke 110 = .ok (.iload 5, 2) := by decide +kernel
theorem dX13_addsPoke_112 : decode cX13_addsPoke 112 = .ok (.imul, 1) := by decide +kernel
theorem dX13_addsPoke_113 : decode cX13_addsPoke 113 = .ok (.iconst 2, 1) := by decide +kernel
theorem dX13_addsPoke_114 : decode cX13_addsPoke 114 = .ok (.iadd, 1) := by decide +kernel
theorem dX13_addsPoke_115 : decode cX13_addsPoke 115 = .ok (.invokevirtual 144, 3) := by decide +kernel
theorem dX13_addsPoke_118 : decode cX13_addsPoke 118 = .ok (.aload_n 0, 1) := by decide +kernel
theorem dX13_addsPoke_119 : decode cX13_addsPoke 119 = .ok (.getfield 28, 3) := by decide +kernel
theorem dX13_addsPoke_122 : decode cX13_addsPoke 122 = .ok (.iload 5, 2) := by decide +kernel
theorem dX13_addsPoke_124 : decode cX13_addsPoke 124 = .ok (.iload 4, 2) := by decide +kernel
theorem dX13_addsPoke_126 : decode cX13_addsPoke 126 = .ok (.iastore, 1) := by decide +kernel
theorem dX13_addsPoke_127 : decode cX13_addsPoke 127 = .ok (.aload_n 0, 1) := by decide +kernel
theorem dX13_addsPoke_128 : decode cX13_addsPoke 128 = .ok (.getfield 28, 3) := by decide +kernel
theorem dX13_addsPoke_131 : decode cX13_addsPoke 131 = .ok (.iload 5, 2) := by decide +kernel
theorem dX13_addsPoke_133 : decode cX13_addsPoke 133 = .ok (.iconst 1, 1) := by decide +kernel
theorem dX13_addsPoke_134 : decode cX13_addsPoke 134 = .ok (.iadd, 1) := by decide +kernel
theorem dX13_addsPoke_135 : decode cX13_addsPoke 135 = .ok (.iconst 1, 1) := by decide +kernel
theorem dX13_addsPoke_136 : decode cX13_addsPoke 136 = .ok (.iload 4, 2) := by decide +kernel
theorem dX13_addsPoke_138 : decode cX13_addsPoke 138 = .ok (.isub, 1) := by decide +kernel
theorem dX13_addsPoke_139 : decode cX13_addsPoke 139 = .ok (.iastore, 1) := by decide +kernel
theorem dX13_addsPoke_140 : decode cX13_addsPoke 140 = .ok (.aload_n 0, 1) := by decide +kernel
theorem dX13_addsPoke_141 : decode cX13_addsPoke 141 = .ok (.dup, 1) := by decide +kernel
theorem dX13_addsPoke_142 : decode cX13_addsPoke 142 = .ok (.getfield 81, 3) := by decide +kernel
theorem dX13_addsPoke_145 : decode cX13_addsPoke 145 = .ok (.iconst 2, 1) := by decide +kernel
theorem dX13_addsPoke_146 : decode cX13_addsPoke 146 = .ok (.iadd, 1) := by decide +kernel
theorem dX13_addsPoke_147 : decode cX13_addsPoke 147 = .ok (.putfield 81, 3) := by decide +kernel
theorem dX13_addsPoke_150 : decode cX13_addsPoke 150 = .ok (.aload_n 0, 1) := by decide +kernel
theorem dX13_addsPoke_151 : decode cX13_addsPoke 151 = .ok (.invokevirtual 118, 3) := by decide +kernel
theorem dX13_addsPoke_154 : decode cX13_addsPoke 154 = .ok (.iload 5, 2) := by decide +kernel
theorem dX13_addsPoke_156 : decode cX13_addsPoke 156 = .ok (.ireturn, 1) := by decide +kernel
theorem dX13_addPoke_0 : decode cX13_addPoke 0 = .ok (.aload_n 0, 1) := by decide +kernel
theorem dX13_addPoke_1 : decode cX13_addPoke 1 = .ok (.iconst 0, 1) := by decide +kernel
theorem dX13_addPoke_2 : decode cX13_addPoke 2 = .ok (.putfield 66, 3) := by decide +kernel
theorem dX13_addPoke_5 : decode cX13_addPoke 5 = .ok (.aload_n 0, 1) := by decide +kernel
theorem dX13_addPoke_6 : decode cX13_addPoke 6 = .ok (.iload_n 1, 1) := by decide +kernel
theorem dX13_addPoke_7 : decode cX13_addPoke 7 = .ok (.iload_n 2, 1) := by decide +kernel
theorem dX13_addPoke_8 : decode cX13_addPoke 8 = .ok (.invokevirtual 148, 3) := by decide +kernel
theorem dX13_addPoke_11 : decode cX13_addPoke 11 = .ok (.istore 5, 2) := by decide +kernel
theorem dX13_addPoke_13 : decode cX13_addPoke 13 = .ok (.iload 5, 2) := by decide +kernel
theorem dX13_addPoke_15 : decode cX13_addPoke 15 = .ok (.ifCond .eq 10, 3) := by decide +kernel
theorem dX13_addPoke_18 : decode cX13_addPoke 18 = .ok (.aload_n 0, 1) := by decide +kernel
theorem dX13_addPoke_19 : decode cX13_addPoke 19 = .ok (.iload 5, 2) := by decide +kernel
theorem dX13_addPoke_21 : decode cX13_addPoke 21 = .ok (.invokevirtual 125, 3) := by decide +kernel
theorem dX13_addPoke_24 : decode cX13_addPoke 24 = .ok (.ireturn, 1) := by decide +kernel
theorem dX13_addPoke_25 : decode cX13_addPoke 25 = .ok (.aload_n 0, 1) := by decide +kernel
theorem dX13_addPoke_26 : decode cX13_addPoke 26 = .ok (.invokevirtual 128, 3) := by decide +kernel
theorem dX13_addPoke_29 : decode cX13_addPoke 29 = .ok (.aload_n 0, 1) := by decide +kernel
theorem dX13_addPoke_30 : decode cX13_addPoke 30 = .ok (.iload_n 1, 1) := by decide +kernel
theorem dX13_addPoke_31 : decode cX13_addPoke 31 = .ok (.iload_n 2, 1) := by decide +kernel
theorem dX13_addPoke_32 : decode cX13_addPoke 32 = .ok (.iload_n 3, 1) := by decide +kernel
theorem dX13_addPoke_33 : decode cX13_addPoke 33 = .ok (.ifCond .eq 7, 3) := by decide +kernel
theorem dX13_addPoke_36 : decode cX13_addPoke 36 = .ok (.iconst 1, 1) := by decide +kernel
theorem dX13_addPoke_37 : decode cX13_addPoke 37 = .ok (.goto 4, 3) := by decide +kernel
theorem dX13_addPoke_40 : decode cX13_addPoke 40 = .ok (.iconst 0, 1) := by decide +kernel
theorem dX13_addPoke_41 : decode cX13_addPoke 41 = .ok (.iload 4, 2) := by decide +kernel
theorem dX13_addPoke_43 : decode cX13_addPoke 43 = .ok (.ifCond .eq 7, 3) := by decide +kernel
theorem dX13_addPoke_46 : decode cX13_addPoke 46 = .ok (.iconst 1, 1) := by decide +kernel
theorem dX13_addPoke_47 : decode cX13_addPoke 47 = .ok (.goto 4, 3) := by decide +kernel
theorem dX13_addPoke_50 : decode cX13_addPoke 50 = .ok (.iconst 0, 1) := by decide +kernel
theorem dX13_addPoke_51 : decode cX13_addPoke 51 = .ok (.invokevirtual 151, 3) := by decide +kernel
theorem dX13_addPoke_54 : decode cX13_addPoke 54 = .ok (.ireturn, 1) := by decide +kernel
theorem dX13_notUnpoke_0 : decode cX13_notUnpoke 0 = .ok (.aload_n 0, 1) := by decide +kernel
theorem dX13_notUnpoke_1 : decode cX13_notUnpoke 1 = .ok (.iload_n 1, 1) := by decide +kernel
theorem dX13_notUnpoke_2 : decode cX13_notUnpoke 2 = .ok (.invokevirtual 135, 3) := by decide +kernel
theorem dX13_notUnpoke_5 : decode cX13_notUnpoke 5 = .ok (.ifCond .eq 11, 3) := by decide +kernel
theorem dX13_notUnpoke_8 : decode cX13_notUnpoke 8 = .ok (.aload_n 0, 1) := by decide +kernel
theorem dX13_notUnpoke_9 : decode cX13_notUnpoke 9 = .ok (.iload_n 2, 1) := by decide +kernel
theorem dX13_notUnpoke_10 : decode cX13_notUnpoke 10 = .ok (.invokevirtual 135, 3) := by decide +kernel
theorem dX13_notUnpoke_13 : decode cX13_notUnpoke 13 = .ok (.ifCond .ne 5, 3) := by decide +kernel
theorem dX13_notUnpoke_16 : decode cX13_notUnpoke 16 = .ok (.iconst 1, 1) := by decide +kernel
theorem dX13_notUnpoke_17 : decode cX13_notUnpoke 17 = .ok (.ireturn, 1) := by decide +kernel
theorem dX13_notUnpoke_18 : decode cX13_notUnpoke 18 = .ok (.aload_n 0, 1) := by decide +kernel
theorem dX13_notUnpoke_19 : decode cX13_notUnpoke 19 = .ok (.invokevirtual 111, 3) := by decide +kernel
theorem dX13_notUnpoke_22 : decode cX13_notUnpoke 22 = .ok (.aload_n 0, 1) := by decide +kernel
theorem dX13_notUnpoke_23 : decode cX13_notUnpoke 23 = .ok (.iload_n 1, 1) := by decide +kernel
theorem dX13_notUnpoke_24 : decode cX13_notUnpoke 24 = .ok (.iload_n 2, 1) := by decide +kernel
theorem dX13_notUnpoke_25 : decode cX13_notUnpoke 25 = .ok (.invokevirtual 100, 3) := by decide +kernel
theorem dX13_notUnpoke_28 : decode cX13_notUnpoke 28 = .ok (.ifCond .eq 7, 3) := by decide +kernel
theorem dX13_notUnpoke_31 : decode cX13_notUnpoke 31 = .ok (.iconst 0, 1) := by decide +kernel
theorem dX13_notUnpoke_32 : decode cX13_notUnpoke 32 = .ok (.goto 4, 3) := by decide +kernel
theorem dX13_notUnpoke_35 : decode cX13_notUnpoke 35 = .ok (.iconst 2, 1) := by decide +kernel
theorem dX13_notUnpoke_36 : decode cX13_notUnpoke 36 = .ok (.ireturn, 1) := by decide +kernel
theorem dX13_unpokes_0 : decode cX13_unpokes 0 = .ok (.aload_n 0, 1) := by decide +kernel
theorem dX13_unpokes_1 : decode cX13_unpokes 1 = .ok (.invokevirtual 111, 3) := by decide +kernel
theorem dX13_unpokes_4 : decode cX13_unpokes 4 = .ok (.aload_n 0, 1) := by decide +kernel
theorem dX13_unpokes_5 : decode cX13_unpokes 5 = .ok (.iload_n 1, 1) := by decide +kernel
theorem dX13_unpokes_6 : decode cX13_unpokes 6 = .ok (.iload_n 2, 1) := by decide +kernel
theorem dX13_unpokes_7 : decode cX13_unpokes 7 = .ok (.if_icmp .le 7, 3) := by decide +kernel
theorem dX13_unpokes_10 : decode cX13_unpokes 10 = .ok (.iload_n 1, 1) := by decide +kernel
theorem dX13_unpokes_11 : decode cX13_unpokes 11 = .ok (.goto 4, 3) := by decide +kernel
theorem dX13_unpokes_14 : decode cX13_unpokes 14 = .ok (.iload_n 2, 1) := by decide +kernel
theorem dX13_unpokes_15 : decode cX13_unpokes 15 = .ok (.invokevirtual 96, 3) := by decide +kernel
theorem dX13_unpokes_18 : decode cX13_unpokes 18 = .ok (.aload_n 0, 1) := by decide +kernel
theorem dX13_unpokes_19 : decode cX13_unpokes 19 = .ok (.iload_n 1, 1) := by decide +kernel
theorem dX13_unpokes_20 : decode cX13_unpokes 20 = .ok (.iload_n 2, 1) := by decide +kernel
theorem dX13_unpokes_21 : decode cX13_unpokes 21 = .ok (.if_icmp .le 7, 3) := by decide +kernel
theorem dX13_unpokes_24 : decode cX13_unpokes 24 = .ok (.iload_n 2, 1) := by decide +kernel
theorem dX13_unpokes_25 : decode cX13_unpokes 25 = .ok (.goto 4, 3) := by decide +kernel
theorem dX13_unpokes_28 : decode cX13_unpokes 28 = .ok (.iload_n 1, 1) := by decide +kernel
theorem dX13_unpokes_29 : decode cX13_unpokes 29 = .ok (.invokevirtual 96, 3) := by decide +kernel
theorem dX13_unpokes_32 : decode cX13_unpokes 32 = .ok (.aload_n 0, 1) := by decide +kernel
theorem dX13_unpokes_33 : decode cX13_unpokes 33 = .ok (.invokevirtual 118, 3) := by decide +kernel
theorem dX13_unpokes_36 : decode cX13_unpokes 36 = .ok (.aload_n 0, 1) := by decide +kernel
theorem dX13_unpokes_37 : decode cX13_unpokes 37 = .ok (.getfield 81, 3) := by decide +kernel
theorem dX13_unpokes_40 : decode cX13_unpokes 40 = .ok (.ireturn, 1) := by decide +kernel
theorem dX13_removePoke_0 : decode cX13_removePoke 0 = .ok (.aload_n 0, 1) := by decide +kernel
theorem dX13_removePoke_1 : decode cX13_removePoke 1 = .ok (.iconst 0, 1) := by decide +kernel
theorem dX13_removePoke_2 : decode cX13_removePoke 2 = .ok (.putfield 66, 3) := by decide +kernel
theorem dX13_removePoke_5 : decode cX13_removePoke 5 = .ok (.aload_n 0, 1) := by decide +kernel
theorem dX13_removePoke_6 : decode cX13_removePoke 6 = .ok (.iload_n 1, 1) := by decide +kernel
theorem dX13_removePoke_7 : decode cX13_removePoke 7 = .ok (.iload_n 2, 1) := by decide +kernel
theorem dX13_removePoke_8 : decode cX13_removePoke 8 = .ok (.invokevirtual 155, 3) := by decide +kernel
theorem dX13_removePoke_11 : decode cX13_removePoke 11 = .ok (.istore_n 3, 1) := by decide +kernel
theorem dX13_removePoke_12 : decode cX13_removePoke 12 = .ok (.iload_n 3, 1) := by decide +kernel
theorem dX13_removePoke_13 : decode cX13_removePoke 13 = .ok (.ifCond .eq 9, 3) := by decide +kernel
theorem dX13_removePoke_16 : decode cX13_removePoke 16 = .ok (.aload_n 0, 1) := by decide +kernel
theorem dX13_removePoke_17 : decode cX13_removePoke 17 = .ok (.iload_n 3, 1) := by decide +kernel
theorem dX13_removePoke_18 : decode cX13_removePoke 18 = .ok (.invokevirtual 125, 3) := by decide +kernel
theorem dX13_removePoke_21 : decode cX13_removePoke 21 = .ok (.ireturn, 1) := by decide +kernel
theorem dX13_removePoke_22 : decode cX13_removePoke 22 = .ok (.aload_n 0, 1) := by decide +kernel
theorem dX13_removePoke_23 : decode cX13_removePoke 23 = .ok (.invokevirtual 128, 3) := by decide +kernel
theorem dX13_removePoke_26 : decode cX13_removePoke 26 = .ok (.aload_n 0, 1) := by decide +kernel
theorem dX13_removePoke_27 : decode cX13_removePoke 27 = .ok (.iload_n 1, 1) := by decide +kernel
theorem dX13_removePoke_28 : decode cX13_removePoke 28 = .ok (.iload_n 2, 1) := by decide +kernel
theorem dX13_removePoke_29 : decode cX13_removePoke 29 = .ok (.invokevirtual 158, 3) := by decide +kernel
theorem dX13_removePoke_32 : decode cX13_removePoke 32 = .ok (.ireturn, 1) := by decide +kernel
theorem dX13_notSwitch_0 : decode cX13_notSwitch 0 = .ok (.aload_n 0, 1) := by decide +kernel
theorem dX13_notSwitch_1 : decode cX13_notSwitch 1 = .ok (.iload_n 1, 1) := by decide +kernel
theorem dX13_notSwitch_2 : decode cX13_notSwitch 2 = .ok (.invokevirtual 135, 3) := by decide +kernel
theorem dX13_notSwitch_5 : decode cX13_notSwitch 5 = .ok (.ifCond .eq 7, 3) := by decide +kernel
theorem dX13_notSwitch_8 : decode cX13_notSwitch 8 = .ok (.iconst 0, 1) := by decide +kernel
theorem dX13_notSwitch_9 : decode cX13_notSwitch 9 = .ok (.goto 4, 3) := by decide +kernel
theorem dX13_notSwitch_12 : decode cX13_notSwitch 12 = .ok (.iconst 1, 1) := by decide +kernel
theorem dX13_notSwitch_13 : decode cX13_notSwitch 13 = .ok (.ireturn, 1) := by decide +kernel
theorem dX13_switchesOne_0 : decode cX13_switchesOne 0 = .ok (.aload_n 0, 1) := by decide +kernel
theorem dX13_switchesOne_1 : decode cX13_switchesOne 1 = .ok (.invokevirtual 111, 3) := by decide +kernel
theorem dX13_switchesOne_4 : decode cX13_switchesOne 4 = .ok (.aload_n 0, 1) := by decide +kernel
theorem dX13_switchesOne_5 : decode cX13_switchesOne 5 = .ok (.iload_n 1, 1) := by decide +kernel
theorem dX13_switchesOne_6 : decode cX13_switchesOne 6 = .ok (.invokevirtual 161, 3) := by decide +kernel
theorem dX13_switchesOne_9 : decode cX13_switchesOne 9 = .ok (.aload_n 0, 1) := by decide +kernel
theorem dX13_switchesOne_10 : decode cX13_switchesOne 10 = .ok (.invokevirtual 118, 3) := by decide +kernel
theorem dX13_switchesOne_13 : decode cX13_switchesOne 13 = .ok (.aload_n 0, 1) := by decide +kernel
theorem dX13_switchesOne_14 : decode cX13_switchesOne 14 = .ok (.getfield 28, 3) := by decide +kernel
theorem dX13_switchesOne_17 : decode cX13_switchesOne 17 = .ok (.iload_n 1, 1) := by decide +kernel
theorem dX13_switchesOne_18 : decode cX13_switchesOne 18 = .ok (.iaload, 1) := by decide +kernel
theorem dX13_switchesOne_19 : decode cX13_switchesOne 19 = .ok (.ireturn, 1) := by decide +kernel
theorem dX13_switchCrossing_0 : decode cX13_switchCrossing 0 = .ok (.aload_n 0, 1) := by decide +kernel
theorem dX13_switchCrossing_1 : decode cX13_switchCrossing 1 = .ok (.iconst 0, 1) := by decide +kernel
theorem dX13_switchCrossing_2 : decode cX13_switchCrossing 2 = .ok (.putfield 66, 3) := by decide +kernel
theorem dX13_switchCrossing_5 : decode cX13_switchCrossing 5 = .ok (.aload_n 0, 1) := by decide +kernel
theorem dX13_switchCrossing_6 : decode cX13_switchCrossing 6 = .ok (.iload_n 1, 1) := by decide +kernel
theorem dX13_switchCrossing_7 : decode cX13_switchCrossing 7 = .ok (.invokevirtual 164, 3) := by decide +kernel
theorem dX13_switchCrossing_10 : decode cX13_switchCrossing 10 = .ok (.ifCond .eq 17, 3) := by decide +kernel
theorem dX13_switchCrossing_13 : decode cX13_switchCrossing 13 = .ok (.aload_n 0, 1) := by decide +kernel
theorem dX13_switchCrossing_14 : decode cX13_switchCrossing 14 = .ok (.iconst 1, 1) := by decide +kernel
theorem dX13_switchCrossing_15 : decode cX13_switchCrossing 15 = .ok (.invokevirtual 125, 3) := by decide +kernel
theorem dX13_switchCrossing_18 : decode cX13_switchCrossing 18 = .ok (.ifCond .le 7, 3) := by decide +kernel
theorem dX13_switchCrossing_21 : decode cX13_switchCrossing 21 = .ok (.iconst 1, 1) := by decide +kernel
theorem dX13_switchCrossing_22 : decode cX13_switchCrossing 22 = .ok (.goto 4, 3) := by decide +kernel
theorem dX13_switchCrossing_25 : decode cX13_switchCrossing 25 = .ok (.iconst 0, 1) := by decide +kernel
theorem dX13_switchCrossing_26 : decode cX13_switchCrossing 26 = .ok (.ireturn, 1) := by decide +kernel
theorem dX13_switchCrossing_27 : decode cX13_switchCrossing 27 = .ok (.aload_n 0, 1) := by decide +kernel
theorem dX13_switchCrossing_28 : decode cX13_switchCrossing 28 = .ok (.invokevirtual 128, 3) := by decide +kernel
theorem dX13_switchCrossing_31 : decode cX13_switchCrossing 31 = .ok (.aload_n 0, 1) := by decide +kernel
theorem dX13_switchCrossing_32 : decode cX13_switchCrossing 32 = .ok (.iload_n 1, 1) := by decide +kernel
theorem dX13_switchCrossing_33 : decode cX13_switchCrossing 33 = .ok (.invokevirtual 167, 3) := by decide +kernel
theorem dX13_switchCrossing_36 : decode cX13_switchCrossing 36 = .ok (.iconst 1, 1) := by decide +kernel
theorem dX13_switchCrossing_37 : decode cX13_switchCrossing 37 = .ok (.if_icmp .ne 7, 3) := by decide +kernel
theorem dX13_switchCrossing_40 : decode cX13_switchCrossing 40 = .ok (.iconst 1, 1) := by decide +kernel
theorem dX13_switchCrossing_41 : decode cX13_switchCrossing 41 = .ok (.goto 4, 3) := by decide +kernel
theorem dX13_switchCrossing_44 : decode cX13_switchCrossing 44 = .ok (.iconst 0, 1) := by decide +kernel
theorem dX13_switchCrossing_45 : decode cX13_switchCrossing 45 = .ok (.ireturn, 1) := by decide +kernel
theorem dX13_turns_0 : decode cX13_turns 0 = .ok (.iconst 0, 1) := by decide +kernel
theorem dX13_turns_1 : decode cX13_turns 1 = .ok (.istore_n 1, 1) := by decide +kernel
theorem dX13_turns_2 : decode cX13_turns 2 = .ok (.iconst 0, 1) := by decide +kernel
theorem dX13_turns_3 : decode cX13_turns 3 = .ok (.istore_n 2, 1) := by decide +kernel
theorem dX13_turns_4 : decode cX13_turns 4 = .ok (.iload_n 2, 1) := by decide +kernel
theorem dX13_turns_5 : decode cX13_turns 5 = .ok (.aload_n 0, 1) := by decide +kernel
theorem dX13_turns_6 : decode cX13_turns 6 = .ok (.getfield 81, 3) := by decide +kernel
theorem dX13_turns_9 : decode cX13_turns 9 = .ok (.if_icmp .ge 22, 3) := by decide +kernel
theorem dX13_turns_12 : decode cX13_turns 12 = .ok (.iload_n 1, 1) := by decide +kernel
theorem dX13_turns_13 : decode cX13_turns 13 = .ok (.iconst 2, 1) := by decide +kernel
theorem dX13_turns_14 : decode cX13_turns 14 = .ok (.aload_n 0, 1) := by decide +kernel
theorem dX13_turns_15 : decode cX13_turns 15 = .ok (.getfield 28, 3) := by decide +kernel
theorem dX13_turns_18 : decode cX13_turns 18 = .ok (.iload_n 2, 1) := by decide +kernel
theorem dX13_turns_19 : decode cX13_turns 19 = .ok (.iaload, 1) := by decide +kernel
theorem dX13_turns_20 : decode cX13_turns 20 = .ok (.imul, 1) := by decide +kernel
theorem dX13_turns_21 : decode cX13_turns 21 = .ok (.iconst 1, 1) := by decide +kernel
theorem dX13_turns_22 : decode cX13_turns 22 = .ok (.isub, 1) := by decide +kernel
theorem dX13_turns_23 : decode cX13_turns 23 = .ok (.iadd, 1) := by decide +kernel
theorem dX13_turns_24 : decode cX13_turns 24 = .ok (.istore_n 1, 1) := by decide +kernel
theorem dX13_turns_25 : decode cX13_turns 25 = .ok (.iinc 2 1, 3) := by decide +kernel
theorem dX13_turns_28 : decode cX13_turns 28 = .ok (.goto (-24), 3) := by decide +kernel
theorem dX13_turns_31 : decode cX13_turns 31 = .ok (.iload_n 1, 1) := by decide +kernel
theorem dX13_turns_32 : decode cX13_turns 32 = .ok (.ireturn, 1) := by decide +kernel
theorem dX13_mirrors_0 : decode cX13_mirrors 0 = .ok (.aload_n 0, 1) := by decide +kernel
theorem dX13_mirrors_1 : decode cX13_mirrors 1 = .ok (.invokevirtual 111, 3) := by decide +kernel
theorem dX13_mirrors_4 : decode cX13_mirrors 4 = .ok (.iconst 0, 1) := by decide +kernel
theorem dX13_mirrors_5 : decode cX13_mirrors 5 = .ok (.istore_n 1, 1) := by decide +kernel
theorem dX13_mirrors_6 : decode cX13_mirrors 6 = .ok (.iload_n 1, 1) := by decide +kernel
theorem dX13_mirrors_7 : decode cX13_mirrors 7 = .ok (.aload_n 0, 1) := by decide +kernel
theorem dX13_mirrors_8 : decode cX13_mirrors 8 = .ok (.getfield 81, 3) := by decide +kernel
theorem dX13_mirrors_11 : decode cX13_mirrors 11 = .ok (.if_icmp .ge 14, 3) := by decide +kernel
theorem dX13_mirrors_14 : decode cX13_mirrors 14 = .ok (.aload_n 0, 1) := by decide +kernel
theorem dX13_mirrors_15 : decode cX13_mirrors 15 = .ok (.iload_n 1, 1) := by decide +kernel
theorem dX13_mirrors_16 : decode cX13_mirrors 16 = .ok (.invokevirtual 161, 3) := by decide +kernel
theorem dX13_mirrors_19 : decode cX13_mirrors 19 = .ok (.iinc 1 1, 3) := by decide +kernel
theorem dX13_mirrors_22 : decode cX13_mirrors 22 = .ok (.goto (-16), 3) := by decide +kernel
theorem dX13_mirrors_25 : decode cX13_mirrors 25 = .ok (.aload_n 0, 1) := by decide +kernel
theorem dX13_mirrors_26 : decode cX13_mirrors 26 = .ok (.invokevirtual 118, 3) := by decide +kernel
theorem dX13_mirrors_29 : decode cX13_mirrors 29 = .ok (.aload_n 0, 1) := by decide +kernel
theorem dX13_mirrors_30 : decode cX13_mirrors 30 = .ok (.invokevirtual 170, 3) := by decide +kernel
theorem dX13_mirrors_33 : decode cX13_mirrors 33 = .ok (.ireturn, 1) := by decide +kernel
theorem dX13_mirror_0 : decode cX13_mirror 0 = .ok (.aload_n 0, 1) := by decide +kernel
theorem dX13_mirror_1 : decode cX13_mirror 1 = .ok (.iconst 0, 1) := by decide +kernel
theorem dX13_mirror_2 : decode cX13_mirror 2 = .ok (.putfield 66, 3) := by decide +kernel
theorem dX13_mirror_5 : decode cX13_mirror 5 = .ok (.aload_n 0, 1) := by decide +kernel
theorem dX13_mirror_6 : decode cX13_mirror 6 = .ok (.invokevirtual 128, 3) := by decide +kernel
theorem dX13_mirror_9 : decode cX13_mirror 9 = .ok (.aload_n 0, 1) := by decide +kernel
theorem dX13_mirror_10 : decode cX13_mirror 10 = .ok (.invokevirtual 174, 3) := by decide +kernel
theorem dX13_mirror_13 : decode cX13_mirror 13 = .ok (.ireturn, 1) := by decide +kernel
theorem dX13_reverses_0 : decode cX13_reverses 0 = .ok (.aload_n 0, 1) := by decide +kernel
theorem dX13_reverses_1 : decode cX13_reverses 1 = .ok (.invokevirtual 111, 3) := by decide +kernel
theorem dX13_reverses_4 : decode cX13_reverses 4 = .ok (.iconst 0, 1) := by decide +kernel
theorem dX13_reverses_5 : decode cX13_reverses 5 = .ok (.istore_n 1, 1) := by decide +kernel
theorem dX13_reverses_6 : decode cX13_reverses 6 = .ok (.iload_n 1, 1) := by decide +kernel
theorem dX13_reverses_7 : decode cX13_reverses 7 = .ok (.aload_n 0, 1) := by decide +kernel
theorem dX13_reverses_8 : decode cX13_reverses 8 = .ok (.getfield 81, 3) := by decide +kernel
theorem dX13_reverses_11 : decode cX13_reverses 11 = .ok (.if_icmp .ge 74, 3) := by decide +kernel
theorem dX13_reverses_14 : decode cX13_reverses 14 = .ok (.iconst 2, 1) := by decide +kernel
theorem dX13_reverses_15 : decode cX13_reverses 15 = .ok (.aload_n 0, 1) := by decide +kernel
theorem dX13_reverses_16 : decode cX13_reverses 16 = .ok (.getfield 81, 3) := by decide +kernel
theorem dX13_reverses_19 : decode cX13_reverses 19 = .ok (.imul, 1) := by decide +kernel
theorem dX13_reverses_20 : decode cX13_reverses 20 = .ok (.iconst 1, 1) := by decide +kernel
theorem dX13_reverses_21 : decode cX13_reverses 21 = .ok (.isub, 1) := by decide +kernel
theorem dX13_reverses_22 : decode cX13_reverses 22 = .ok (.iload_n 1, 1) := by decide +kernel
theorem dX13_reverses_23 : decode cX13_reverses 23 = .ok (.isub, 1) := by decide +kernel
theorem dX13_reverses_24 : decode cX13_reverses 24 = .ok (.istore_n 2, 1) := by decide +kernel
theorem dX13_reverses_25 : decode cX13_reverses 25 = .ok (.aload_n 0, 1) := by decide +kernel
theorem dX13_reverses_26 : decode cX13_reverses 26 = .ok (.getfield 22, 3) := by decide +kernel
theorem dX13_reverses_29 : decode cX13_reverses 29 = .ok (.iload_n 1, 1) := by decide +kernel
theorem dX13_reverses_30 : decode cX13_reverses 30 = .ok (.iaload, 1) := by decide +kernel
theorem dX13_reverses_31 : decode cX13_reverses 31 = .ok (.istore_n 3, 1) := by decide +kernel
theorem dX13_reverses_32 : decode cX13_reverses 32 = .ok (.aload_n 0, 1) := by decide +kernel
theorem dX13_reverses_33 : decode cX13_reverses 33 = .ok (.getfield 25, 3) := by decide +kernel
theorem dX13_reverses_36 : decode cX13_reverses 36 = .ok (.iload_n 1, 1) := by decide +kernel
theorem dX13_reverses_37 : decode cX13_reverses 37 = .ok (.iaload, 1) := by decide +kernel
theorem dX13_reverses_38 : decode cX13_reverses 38 = .ok (.istore 4, 2) := by decide +kernel
theorem dX13_reverses_40 : decode cX13_reverses 40 = .ok (.aload_n 0, 1) := by decide +kernel
theorem dX13_reverses_41 : decode cX13_reverses 41 = .ok (.getfield 22, 3) := by decide +kernel
theorem dX13_reverses_44 : decode cX13_reverses 44 = .ok (.iload_n 1, 1) := by decide +kernel
theorem dX13_reverses_45 : decode cX13_reverses 45 = .ok (.aload_n 0, 1) := by decide +kernel
theorem dX13_reverses_46 : decode cX13_reverses 46 = .ok (.getfield 22, 3) := by decide +kernel
theorem dX13_reverses_49 : decode cX13_reverses 49 = .ok (.iload_n 2, 1) := by decide +kernel
theorem dX13_reverses_50 : decode cX13_reverses 50 = .ok (.iaload, 1) := by decide +kernel
theorem dX13_reverses_51 : decode cX13_reverses 51 = .ok (.iastore, 1) := by decide +kernel
theorem dX13_reverses_52 : decode cX13_reverses 52 = .ok (.aload_n 0, 1) := by decide +kernel
theorem dX13_reverses_53 : decode cX13_reverses 53 = .ok (.getfield 25, 3) := by decide +kernel
theorem dX13_reverses_56 : decode cX13_reverses 56 = .ok (.iload_n 1, 1) := by decide +kernel
theorem dX13_reverses_57 : decode cX13_reverses 57 = .ok (.aload_n 0, 1) := by decide +kernel
theorem dX13_reverses_58 : decode cX13_reverses 58 = .ok (.getfield 25, 3) := by decide +kernel
theorem dX13_reverses_61 : decode cX13_reverses 61 = .ok (.iload_n 2, 1) := by decide +kernel
theorem dX13_reverses_62 : decode cX13_reverses 62 = .ok (.iaload, 1) := by decide +kernel
theorem dX13_reverses_63 : decode cX13_reverses 63 = .ok (.iastore, 1) := by decide +kernel
theorem dX13_reverses_64 : decode cX13_reverses 64 = .ok (.aload_n 0, 1) := by decide +kernel
theorem dX13_reverses_65 : decode cX13_reverses 65 = .ok (.getfield 22, 3) := by decide +kernel
theorem dX13_reverses_68 : decode cX13_reverses 68 = .ok (.iload_n 2, 1) := by decide +kernel
theorem dX13_reverses_69 : decode cX13_reverses 69 = .ok (.iload_n 3, 1) := by decide +kernel
theorem dX13_reverses_70 : decode cX13_reverses 70 = .ok (.iastore, 1) := by decide +kernel
theorem dX13_reverses_71 : decode cX13_reverses 71 = .ok (.aload_n 0, 1) := by decide +kernel
theorem dX13_reverses_72 : decode cX13_reverses 72 = .ok (.getfield 25, 3) := by decide +kernel
theorem dX13_reverses_75 : decode cX13_reverses 75 = .ok (.iload_n 2, 1) := by decide +kernel
theorem dX13_reverses_76 : decode cX13_reverses 76 = .ok (.iload 4, 2) := by decide +kernel
theorem dX13_reverses_78 : decode cX13_reverses 78 = .ok (.iastore, 1) := by decide +kernel
theorem dX13_reverses_79 : decode cX13_reverses 79 = .ok (.iinc 1 1, 3) := by decide +kernel
theorem dX13_reverses_82 : decode cX13_reverses 82 = .ok (.goto (-76), 3) := by decide +kernel
theorem dX13_reverses_85 : decode cX13_reverses 85 = .ok (.aload_n 0, 1) := by decide +kernel
theorem dX13_reverses_86 : decode cX13_reverses 86 = .ok (.invokevirtual 118, 3) := by decide +kernel
theorem dX13_reverses_89 : decode cX13_reverses 89 = .ok (.aload_n 0, 1) := by decide +kernel
theorem dX13_reverses_90 : decode cX13_reverses 90 = .ok (.getfield 81, 3) := by decide +kernel
theorem dX13_reverses_93 : decode cX13_reverses 93 = .ok (.ifCond .ne 7, 3) := by decide +kernel
theorem dX13_reverses_96 : decode cX13_reverses 96 = .ok (.iconst (-1), 1) := by decide +kernel
theorem dX13_reverses_97 : decode cX13_reverses 97 = .ok (.goto 9, 3) := by decide +kernel
theorem dX13_reverses_100 : decode cX13_reverses 100 = .ok (.aload_n 0, 1) := by decide +kernel
theorem dX13_reverses_101 : decode cX13_reverses 101 = .ok (.getfield 22, 3) := by decide +kernel
theorem dX13_reverses_104 : decode cX13_reverses 104 = .ok (.iconst 0, 1) := by decide +kernel
theorem dX13_reverses_105 : decode cX13_reverses 105 = .ok (.iaload, 1) := by decide +kernel
theorem dX13_reverses_106 : decode cX13_reverses 106 = .ok (.ireturn, 1) := by decide +kernel
theorem dX13_reverse_0 : decode cX13_reverse 0 = .ok (.aload_n 0, 1) := by decide +kernel
theorem dX13_reverse_1 : decode cX13_reverse 1 = .ok (.iconst 0, 1) := by decide +kernel
theorem dX13_reverse_2 : decode cX13_reverse 2 = .ok (.putfield 66, 3) := by decide +kernel
theorem dX13_reverse_5 : decode cX13_reverse 5 = .ok (.aload_n 0, 1) := by decide +kernel
theorem dX13_reverse_6 : decode cX13_reverse 6 = .ok (.invokevirtual 128, 3) := by decide +kernel
theorem dX13_reverse_9 : decode cX13_reverse 9 = .ok (.aload_n 0, 1) := by decide +kernel
theorem dX13_reverse_10 : decode cX13_reverse 10 = .ok (.invokevirtual 177, 3) := by decide +kernel
theorem dX13_reverse_13 : decode cX13_reverse 13 = .ok (.ireturn, 1) := by decide +kernel
theorem dX13_isPass_0 : decode cX13_isPass 0 = .ok (.iload_n 1, 1) := by decide +kernel
theorem dX13_isPass_1 : decode cX13_isPass 1 = .ok (.iconst 0, 1) := by decide +kernel
theorem dX13_isPass_2 : decode cX13_isPass 2 = .ok (.iconst 2, 1) := by decide +kernel
theorem dX13_isPass_3 : decode cX13_isPass 3 = .ok (.aload_n 0, 1) := by decide +kernel
theorem dX13_isPass_4 : decode cX13_isPass 4 = .ok (.getfield 7, 3) := by decide +kernel
theorem dX13_isPass_7 : decode cX13_isPass 7 = .ok (.iconst 0, 1) := by decide +kernel
theorem dX13_isPass_8 : decode cX13_isPass 8 = .ok (.iaload, 1) := by decide +kernel
theorem dX13_isPass_9 : decode cX13_isPass 9 = .ok (.imul, 1) := by decide +kernel
theorem dX13_isPass_10 : decode cX13_isPass 10 = .ok (.iconst 1, 1) := by decide +kernel
theorem dX13_isPass_11 : decode cX13_isPass 11 = .ok (.isub, 1) := by decide +kernel
theorem dX13_isPass_12 : decode cX13_isPass 12 = .ok (.invokestatic 107, 3) := by decide +kernel
theorem dX13_isPass_15 : decode cX13_isPass 15 = .ok (.ireturn, 1) := by decide +kernel
theorem dX13_notTurn_0 : decode cX13_notTurn 0 = .ok (.aload_n 0, 1) := by decide +kernel
theorem dX13_notTurn_1 : decode cX13_notTurn 1 = .ok (.iload_n 1, 1) := by decide +kernel
theorem dX13_notTurn_2 : decode cX13_notTurn 2 = .ok (.invokevirtual 180, 3) := by decide +kernel
theorem dX13_notTurn_5 : decode cX13_notTurn 5 = .ok (.ifCond .eq 7, 3) := by decide +kernel
theorem dX13_notTurn_8 : decode cX13_notTurn 8 = .ok (.iconst 0, 1) := by decide +kernel
theorem dX13_notTurn_9 : decode cX13_notTurn 9 = .ok (.goto 4, 3) := by decide +kernel
theorem dX13_notTurn_12 : decode cX13_notTurn 12 = .ok (.iconst 1, 1) := by decide +kernel
theorem dX13_notTurn_13 : decode cX13_notTurn 13 = .ok (.ireturn, 1) := by decide +kernel
theorem dX13_turnsTo_0 : decode cX13_turnsTo 0 = .ok (.aload_n 0, 1) := by decide +kernel
theorem dX13_turnsTo_1 : decode cX13_turnsTo 1 = .ok (.invokevirtual 111, 3) := by decide +kernel
theorem dX13_turnsTo_4 : decode cX13_turnsTo 4 = .ok (.iconst 2, 1) := by decide +kernel
theorem dX13_turnsTo_5 : decode cX13_turnsTo 5 = .ok (.aload_n 0, 1) := by decide +kernel
theorem dX13_turnsTo_6 : decode cX13_turnsTo 6 = .ok (.getfield 81, 3) := by decide +kernel
theorem dX13_turnsTo_9 : decode cX13_turnsTo 9 = .ok (.imul, 1) := by decide +kernel
theorem dX13_turnsTo_10 : decode cX13_turnsTo 10 = .ok (.istore_n 2, 1) := by decide +kernel
theorem dX13_turnsTo_11 : decode cX13_turnsTo 11 = .ok (.iconst 0, 1) := by decide +kernel
theorem dX13_turnsTo_12 : decode cX13_turnsTo 12 = .ok (.istore_n 3, 1) := by decide +kernel
theorem dX13_turnsTo_13 : decode cX13_turnsTo 13 = .ok (.iload_n 3, 1) := by decide +kernel
theorem dX13_turnsTo_14 : decode cX13_turnsTo 14 = .ok (.iload_n 2, 1) := by decide +kernel
theorem dX13_turnsTo_15 : decode cX13_turnsTo 15 = .ok (.if_icmp .ge 47, 3) := by decide +kernel
theorem dX13_turnsTo_18 : decode cX13_turnsTo 18 = .ok (.aload_n 0, 1) := by decide +kernel
theorem dX13_turnsTo_19 : decode cX13_turnsTo 19 = .ok (.getfield 22, 3) := by decide +kernel
theorem dX13_turnsTo_22 : decode cX13_turnsTo 22 = .ok (.iload_n 3, 1) := by decide +kernel
theorem dX13_turnsTo_23 : decode cX13_turnsTo 23 = .ok (.aload_n 0, 1) := by decide +kernel
theorem dX13_turnsTo_24 : decode cX13_turnsTo 24 = .ok (.getfield 7, 3) := by decide +kernel
theorem dX13_turnsTo_27 : decode cX13_turnsTo 27 = .ok (.bipush 22, 2) := by decide +kernel
theorem dX13_turnsTo_29 : decode cX13_turnsTo 29 = .ok (.iload_n 3, 1) := by decide +kernel
theorem dX13_turnsTo_30 : decode cX13_turnsTo 30 = .ok (.iload_n 1, 1) := by decide +kernel
theorem dX13_turnsTo_31 : decode cX13_turnsTo 31 = .ok (.iadd, 1) := by decide +kernel
theorem dX13_turnsTo_32 : decode cX13_turnsTo 32 = .ok (.iload_n 2, 1) := by decide +kernel
theorem dX13_turnsTo_33 : decode cX13_turnsTo 33 = .ok (.irem, 1) := by decide +kernel
theorem dX13_turnsTo_34 : decode cX13_turnsTo 34 = .ok (.iadd, 1) := by decide +kernel
theorem dX13_turnsTo_35 : decode cX13_turnsTo 35 = .ok (.iaload, 1) := by decide +kernel
theorem dX13_turnsTo_36 : decode cX13_turnsTo 36 = .ok (.iastore, 1) := by decide +kernel
theorem dX13_turnsTo_37 : decode cX13_turnsTo 37 = .ok (.aload_n 0, 1) := by decide +kernel
theorem dX13_turnsTo_38 : decode cX13_turnsTo 38 = .ok (.getfield 25, 3) := by decide +kernel
theorem dX13_turnsTo_41 : decode cX13_turnsTo 41 = .ok (.iload_n 3, 1) := by decide +kernel
theorem dX13_turnsTo_42 : decode cX13_turnsTo 42 = .ok (.aload_n 0, 1) := by decide +kernel
theorem dX13_turnsTo_43 : decode cX13_turnsTo 43 = .ok (.getfield 7, 3) := by decide +kernel
theorem dX13_turnsTo_46 : decode cX13_turnsTo 46 = .ok (.bipush 36, 2) := by decide +kernel
theorem dX13_turnsTo_48 : decode cX13_turnsTo 48 = .ok (.iload_n 3, 1) := by decide +kernel
theorem dX13_turnsTo_49 : decode cX13_turnsTo 49 = .ok (.iload_n 1, 1) := by decide +kernel
theorem dX13_turnsTo_50 : decode cX13_turnsTo 50 = .ok (.iadd, 1) := by decide +kernel
theorem dX13_turnsTo_51 : decode cX13_turnsTo 51 = .ok (.iload_n 2, 1) := by decide +kernel
theorem dX13_turnsTo_52 : decode cX13_turnsTo 52 = .ok (.irem, 1) := by decide +kernel
theorem dX13_turnsTo_53 : decode cX13_turnsTo 53 = .ok (.iadd, 1) := by decide +kernel
theorem dX13_turnsTo_54 : decode cX13_turnsTo 54 = .ok (.iaload, 1) := by decide +kernel
theorem dX13_turnsTo_55 : decode cX13_turnsTo 55 = .ok (.iastore, 1) := by decide +kernel
theorem dX13_turnsTo_56 : decode cX13_turnsTo 56 = .ok (.iinc 3 1, 3) := by decide +kernel
theorem dX13_turnsTo_59 : decode cX13_turnsTo 59 = .ok (.goto (-46), 3) := by decide +kernel
theorem dX13_turnsTo_62 : decode cX13_turnsTo 62 = .ok (.aload_n 0, 1) := by decide +kernel
theorem dX13_turnsTo_63 : decode cX13_turnsTo 63 = .ok (.invokevirtual 118, 3) := by decide +kernel
theorem dX13_turnsTo_66 : decode cX13_turnsTo 66 = .ok (.aload_n 0, 1) := by decide +kernel
theorem dX13_turnsTo_67 : decode cX13_turnsTo 67 = .ok (.getfield 22, 3) := by decide +kernel
theorem dX13_turnsTo_70 : decode cX13_turnsTo 70 = .ok (.iconst 0, 1) := by decide +kernel
theorem dX13_turnsTo_71 : decode cX13_turnsTo 71 = .ok (.iaload, 1) := by decide +kernel
theorem dX13_turnsTo_72 : decode cX13_turnsTo 72 = .ok (.ireturn, 1) := by decide +kernel
theorem dX13_turn_0 : decode cX13_turn 0 = .ok (.aload_n 0, 1) := by decide +kernel
theorem dX13_turn_1 : decode cX13_turn 1 = .ok (.iconst 0, 1) := by decide +kernel
theorem dX13_turn_2 : decode cX13_turn 2 = .ok (.putfield 66, 3) := by decide +kernel
theorem dX13_turn_5 : decode cX13_turn 5 = .ok (.aload_n 0, 1) := by decide +kernel
theorem dX13_turn_6 : decode cX13_turn 6 = .ok (.iload_n 1, 1) := by decide +kernel
theorem dX13_turn_7 : decode cX13_turn 7 = .ok (.invokevirtual 183, 3) := by decide +kernel
theorem dX13_turn_10 : decode cX13_turn 10 = .ok (.ifCond .eq 9, 3) := by decide +kernel
theorem dX13_turn_13 : decode cX13_turn 13 = .ok (.aload_n 0, 1) := by decide +kernel
theorem dX13_turn_14 : decode cX13_turn 14 = .ok (.iconst 1, 1) := by decide +kernel
theorem dX13_turn_15 : decode cX13_turn 15 = .ok (.invokevirtual 125, 3) := by decide +kernel
theorem dX13_turn_18 : decode cX13_turn 18 = .ok (.ireturn, 1) := by decide +kernel
theorem dX13_turn_19 : decode cX13_turn 19 = .ok (.aload_n 0, 1) := by decide +kernel
theorem dX13_turn_20 : decode cX13_turn 20 = .ok (.invokevirtual 128, 3) := by decide +kernel
theorem dX13_turn_23 : decode cX13_turn 23 = .ok (.aload_n 0, 1) := by decide +kernel
theorem dX13_turn_24 : decode cX13_turn 24 = .ok (.iload_n 1, 1) := by decide +kernel
theorem dX13_turn_25 : decode cX13_turn 25 = .ok (.invokevirtual 186, 3) := by decide +kernel
theorem dX13_turn_28 : decode cX13_turn 28 = .ok (.ireturn, 1) := by decide +kernel
theorem dX13_reducesAll_0 : decode cX13_reducesAll 0 = .ok (.aload_n 0, 1) := by decide +kernel
theorem dX13_reducesAll_1 : decode cX13_reducesAll 1 = .ok (.invokevirtual 111, 3) := by decide +kernel
theorem dX13_reducesAll_4 : decode cX13_reducesAll 4 = .ok (.aload_n 0, 1) := by decide +kernel
theorem dX13_reducesAll_5 : decode cX13_reducesAll 5 = .ok (.getfield 81, 3) := by decide +kernel
theorem dX13_reducesAll_8 : decode cX13_reducesAll 8 = .ok (.istore_n 1, 1) := by decide +kernel
theorem dX13_reducesAll_9 : decode cX13_reducesAll 9 = .ok (.aload_n 0, 1) := by decide +kernel
theorem dX13_reducesAll_10 : decode cX13_reducesAll 10 = .ok (.invokevirtual 189, 3) := by decide +kernel
theorem dX13_reducesAll_13 : decode cX13_reducesAll 13 = .ok (.aload_n 0, 1) := by decide +kernel
theorem dX13_reducesAll_14 : decode cX13_reducesAll 14 = .ok (.invokevirtual 118, 3) := by decide +kernel
theorem dX13_reducesAll_17 : decode cX13_reducesAll 17 = .ok (.iload_n 1, 1) := by decide +kernel
theorem dX13_reducesAll_18 : decode cX13_reducesAll 18 = .ok (.aload_n 0, 1) := by decide +kernel
theorem dX13_reducesAll_19 : decode cX13_reducesAll 19 = .ok (.getfield 81, 3) := by decide +kernel
theorem dX13_reducesAll_22 : decode cX13_reducesAll 22 = .ok (.isub, 1) := by decide +kernel
theorem dX13_reducesAll_23 : decode cX13_reducesAll 23 = .ok (.ireturn, 1) := by decide +kernel
theorem dX13_reduce_0 : decode cX13_reduce 0 = .ok (.aload_n 0, 1) := by decide +kernel
theorem dX13_reduce_1 : decode cX13_reduce 1 = .ok (.iconst 0, 1) := by decide +kernel
theorem dX13_reduce_2 : decode cX13_reduce 2 = .ok (.putfield 66, 3) := by decide +kernel
theorem dX13_reduce_5 : decode cX13_reduce 5 = .ok (.aload_n 0, 1) := by decide +kernel
theorem dX13_reduce_6 : decode cX13_reduce 6 = .ok (.invokevirtual 128, 3) := by decide +kernel
theorem dX13_reduce_9 : decode cX13_reduce 9 = .ok (.aload_n 0, 1) := by decide +kernel
theorem dX13_reduce_10 : decode cX13_reduce 10 = .ok (.invokevirtual 192, 3) := by decide +kernel
theorem dX13_reduce_13 : decode cX13_reduce 13 = .ok (.ireturn, 1) := by decide +kernel
theorem dX13_asks_0 : decode cX13_asks 0 = .ok (.aload_n 0, 1) := by decide +kernel
theorem dX13_asks_1 : decode cX13_asks 1 = .ok (.iconst 0, 1) := by decide +kernel
theorem dX13_asks_2 : decode cX13_asks 2 = .ok (.putfield 66, 3) := by decide +kernel
theorem dX13_asks_5 : decode cX13_asks 5 = .ok (.aload_n 0, 1) := by decide +kernel
theorem dX13_asks_6 : decode cX13_asks 6 = .ok (.getfield 7, 3) := by decide +kernel
theorem dX13_asks_9 : decode cX13_asks 9 = .ok (.iload_n 1, 1) := by decide +kernel
theorem dX13_asks_10 : decode cX13_asks 10 = .ok (.iaload, 1) := by decide +kernel
theorem dX13_asks_11 : decode cX13_asks 11 = .ok (.ireturn, 1) := by decide +kernel
theorem dX13_crossingCount_0 : decode cX13_crossingCount 0 = .ok (.aload_n 0, 1) := by decide +kernel
theorem dX13_crossingCount_1 : decode cX13_crossingCount 1 = .ok (.iconst 0, 1) := by decide +kernel
theorem dX13_crossingCount_2 : decode cX13_crossingCount 2 = .ok (.invokevirtual 195, 3) := by decide +kernel
theorem dX13_crossingCount_5 : decode cX13_crossingCount 5 = .ok (.ireturn, 1) := by decide +kernel
theorem dX13_crossingAt_0 : decode cX13_crossingAt 0 = .ok (.aload_n 0, 1) := by decide +kernel
theorem dX13_crossingAt_1 : decode cX13_crossingAt 1 = .ok (.iconst 0, 1) := by decide +kernel
theorem dX13_crossingAt_2 : decode cX13_crossingAt 2 = .ok (.putfield 66, 3) := by decide +kernel
theorem dX13_crossingAt_5 : decode cX13_crossingAt 5 = .ok (.aload_n 0, 1) := by decide +kernel
theorem dX13_crossingAt_6 : decode cX13_crossingAt 6 = .ok (.iload_n 1, 1) := by decide +kernel
theorem dX13_crossingAt_7 : decode cX13_crossingAt 7 = .ok (.invokevirtual 180, 3) := by decide +kernel
theorem dX13_crossingAt_10 : decode cX13_crossingAt 10 = .ok (.ifCond .eq 15, 3) := by decide +kernel
theorem dX13_crossingAt_13 : decode cX13_crossingAt 13 = .ok (.aload_n 0, 1) := by decide +kernel
theorem dX13_crossingAt_14 : decode cX13_crossingAt 14 = .ok (.getfield 7, 3) := by decide +kernel
theorem dX13_crossingAt_17 : decode cX13_crossingAt 17 = .ok (.bipush 22, 2) := by decide +kernel
theorem dX13_crossingAt_19 : decode cX13_crossingAt 19 = .ok (.iload_n 1, 1) := by decide +kernel
theorem dX13_crossingAt_20 : decode cX13_crossingAt 20 = .ok (.iadd, 1) := by decide +kernel
theorem dX13_crossingAt_21 : decode cX13_crossingAt 21 = .ok (.iaload, 1) := by decide +kernel
theorem dX13_crossingAt_22 : decode cX13_crossingAt 22 = .ok (.goto 8, 3) := by decide +kernel
theorem dX13_crossingAt_25 : decode cX13_crossingAt 25 = .ok (.aload_n 0, 1) := by decide +kernel
theorem dX13_crossingAt_26 : decode cX13_crossingAt 26 = .ok (.iconst 1, 1) := by decide +kernel
theorem dX13_crossingAt_27 : decode cX13_crossingAt 27 = .ok (.invokevirtual 125, 3) := by decide +kernel
theorem dX13_crossingAt_30 : decode cX13_crossingAt 30 = .ok (.ireturn, 1) := by decide +kernel
theorem dX13_isOver_0 : decode cX13_isOver 0 = .ok (.aload_n 0, 1) := by decide +kernel
theorem dX13_isOver_1 : decode cX13_isOver 1 = .ok (.iconst 0, 1) := by decide +kernel
theorem dX13_isOver_2 : decode cX13_isOver 2 = .ok (.putfield 66, 3) := by decide +kernel
theorem dX13_isOver_5 : decode cX13_isOver 5 = .ok (.aload_n 0, 1) := by decide +kernel
theorem dX13_isOver_6 : decode cX13_isOver 6 = .ok (.iload_n 1, 1) := by decide +kernel
theorem dX13_isOver_7 : decode cX13_isOver 7 = .ok (.invokevirtual 180, 3) := by decide +kernel
theorem dX13_isOver_10 : decode cX13_isOver 10 = .ok (.ifCond .ne 17, 3) := by decide +kernel
theorem dX13_isOver_13 : decode cX13_isOver 13 = .ok (.aload_n 0, 1) := by decide +kernel
theorem dX13_isOver_14 : decode cX13_isOver 14 = .ok (.iconst 1, 1) := by decide +kernel
theorem dX13_isOver_15 : decode cX13_isOver 15 = .ok (.invokevirtual 125, 3) := by decide +kernel
theorem dX13_isOver_18 : decode cX13_isOver 18 = .ok (.ifCond .le 7, 3) := by decide +kernel
theorem dX13_isOver_21 : decode cX13_isOver 21 = .ok (.iconst 1, 1) := by decide +kernel
theorem dX13_isOver_22 : decode cX13_isOver 22 = .ok (.goto 4, 3) := by decide +kernel
theorem dX13_isOver_25 : decode cX13_isOver 25 = .ok (.iconst 0, 1) := by decide +kernel
theorem dX13_isOver_26 : decode cX13_isOver 26 = .ok (.ireturn, 1) := by decide +kernel
theorem dX13_isOver_27 : decode cX13_isOver 27 = .ok (.aload_n 0, 1) := by decide +kernel
theorem dX13_isOver_28 : decode cX13_isOver 28 = .ok (.getfield 7, 3) := by decide +kernel
theorem dX13_isOver_31 : decode cX13_isOver 31 = .ok (.bipush 36, 2) := by decide +kernel
theorem dX13_isOver_33 : decode cX13_isOver 33 = .ok (.iload_n 1, 1) := by decide +kernel
theorem dX13_isOver_34 : decode cX13_isOver 34 = .ok (.iadd, 1) := by decide +kernel
theorem dX13_isOver_35 : decode cX13_isOver 35 = .ok (.iaload, 1) := by decide +kernel
theorem dX13_isOver_36 : decode cX13_isOver 36 = .ok (.iconst 1, 1) := by decide +kernel
theorem dX13_isOver_37 : decode cX13_isOver 37 = .ok (.if_icmp .ne 7, 3) := by decide +kernel
theorem dX13_isOver_40 : decode cX13_isOver 40 = .ok (.iconst 1, 1) := by decide +kernel
theorem dX13_isOver_41 : decode cX13_isOver 41 = .ok (.goto 4, 3) := by decide +kernel
theorem dX13_isOver_44 : decode cX13_isOver 44 = .ok (.iconst 0, 1) := by decide +kernel
theorem dX13_isOver_45 : decode cX13_isOver 45 = .ok (.ireturn, 1) := by decide +kernel
theorem dX13_isPositive_0 : decode cX13_isPositive 0 = .ok (.aload_n 0, 1) := by decide +kernel
theorem dX13_isPositive_1 : decode cX13_isPositive 1 = .ok (.iconst 0, 1) := by decide +kernel
theorem dX13_isPositive_2 : decode cX13_isPositive 2 = .ok (.putfield 66, 3) := by decide +kernel
theorem dX13_isPositive_5 : decode cX13_isPositive 5 = .ok (.aload_n 0, 1) := by decide +kernel
theorem dX13_isPositive_6 : decode cX13_isPositive 6 = .ok (.iload_n 1, 1) := by decide +kernel
theorem dX13_isPositive_7 : decode cX13_isPositive 7 = .ok (.invokevirtual 135, 3) := by decide +kernel
theorem dX13_isPositive_10 : decode cX13_isPositive 10 = .ok (.ifCond .ne 17, 3) := by decide +kernel
theorem dX13_isPositive_13 : decode cX13_isPositive 13 = .ok (.aload_n 0, 1) := by decide +kernel
theorem dX13_isPositive_14 : decode cX13_isPositive 14 = .ok (.iconst 1, 1) := by decide +kernel
theorem dX13_isPositive_15 : decode cX13_isPositive 15 = .ok (.invokevirtual 125, 3) := by decide +kernel
theorem dX13_isPositive_18 : decode cX13_isPositive 18 = .ok (.ifCond .le 7, 3) := by decide +kernel
theorem dX13_isPositive_21 : decode cX13_isPositive 21 = .ok (.iconst 1, 1) := by decide +kernel
theorem dX13_isPositive_22 : decode cX13_isPositive 22 = .ok (.goto 4, 3) := by decide +kernel
theorem dX13_isPositive_25 : decode cX13_isPositive 25 = .ok (.iconst 0, 1) := by decide +kernel
theorem dX13_isPositive_26 : decode cX13_isPositive 26 = .ok (.ireturn, 1) := by decide +kernel
theorem dX13_isPositive_27 : decode cX13_isPositive 27 = .ok (.aload_n 0, 1) := by decide +kernel
theorem dX13_isPositive_28 : decode cX13_isPositive 28 = .ok (.getfield 7, 3) := by decide +kernel
theorem dX13_isPositive_31 : decode cX13_isPositive 31 = .ok (.bipush 15, 2) := by decide +kernel
theorem dX13_isPositive_33 : decode cX13_isPositive 33 = .ok (.iload_n 1, 1) := by decide +kernel
theorem dX13_isPositive_34 : decode cX13_isPositive 34 = .ok (.iadd, 1) := by decide +kernel
theorem dX13_isPositive_35 : decode cX13_isPositive 35 = .ok (.iaload, 1) := by decide +kernel
theorem dX13_isPositive_36 : decode cX13_isPositive 36 = .ok (.iconst 1, 1) := by decide +kernel
theorem dX13_isPositive_37 : decode cX13_isPositive 37 = .ok (.if_icmp .ne 7, 3) := by decide +kernel
theorem dX13_isPositive_40 : decode cX13_isPositive 40 = .ok (.iconst 1, 1) := by decide +kernel
theorem dX13_isPositive_41 : decode cX13_isPositive 41 = .ok (.goto 4, 3) := by decide +kernel
theorem dX13_isPositive_44 : decode cX13_isPositive 44 = .ok (.iconst 0, 1) := by decide +kernel
theorem dX13_isPositive_45 : decode cX13_isPositive 45 = .ok (.ireturn, 1) := by decide +kernel
theorem dX13_asksPass_0 : decode cX13_asksPass 0 = .ok (.aload_n 0, 1) := by decide +kernel
theorem dX13_asksPass_1 : decode cX13_asksPass 1 = .ok (.iconst 0, 1) := by decide +kernel
theorem dX13_asksPass_2 : decode cX13_asksPass 2 = .ok (.putfield 66, 3) := by decide +kernel
theorem dX13_asksPass_5 : decode cX13_asksPass 5 = .ok (.aload_n 0, 1) := by decide +kernel
theorem dX13_asksPass_6 : decode cX13_asksPass 6 = .ok (.iload_n 1, 1) := by decide +kernel
theorem dX13_asksPass_7 : decode cX13_asksPass 7 = .ok (.invokevirtual 135, 3) := by decide +kernel
theorem dX13_asksPass_10 : decode cX13_asksPass 10 = .ok (.ifCond .ne 9, 3) := by decide +kernel
theorem dX13_asksPass_13 : decode cX13_asksPass 13 = .ok (.aload_n 0, 1) := by decide +kernel
theorem dX13_asksPass_14 : decode cX13_asksPass 14 = .ok (.iconst 1, 1) := by decide +kernel
theorem dX13_asksPass_15 : decode cX13_asksPass 15 = .ok (.invokevirtual 125, 3) := by decide +kernel
theorem dX13_asksPass_18 : decode cX13_asksPass 18 = .ok (.ireturn, 1) := by decide +kernel
theorem dX13_asksPass_19 : decode cX13_asksPass 19 = .ok (.aload_n 0, 1) := by decide +kernel
theorem dX13_asksPass_20 : decode cX13_asksPass 20 = .ok (.invokevirtual 111, 3) := by decide +kernel
theorem dX13_asksPass_23 : decode cX13_asksPass 23 = .ok (.aload_n 0, 1) := by decide +kernel
theorem dX13_asksPass_24 : decode cX13_asksPass 24 = .ok (.iload_n 1, 1) := by decide +kernel
theorem dX13_asksPass_25 : decode cX13_asksPass 25 = .ok (.iload_n 2, 1) := by decide +kernel
theorem dX13_asksPass_26 : decode cX13_asksPass 26 = .ok (.invokevirtual 84, 3) := by decide +kernel
theorem dX13_asksPass_29 : decode cX13_asksPass 29 = .ok (.ireturn, 1) := by decide +kernel
theorem dX13_overPosition_0 : decode cX13_overPosition 0 = .ok (.aload_n 0, 1) := by decide +kernel
theorem dX13_overPosition_1 : decode cX13_overPosition 1 = .ok (.iload_n 1, 1) := by decide +kernel
theorem dX13_overPosition_2 : decode cX13_overPosition 2 = .ok (.iconst 1, 1) := by decide +kernel
theorem dX13_overPosition_3 : decode cX13_overPosition 3 = .ok (.invokevirtual 198, 3) := by decide +kernel
theorem dX13_overPosition_6 : decode cX13_overPosition 6 = .ok (.ireturn, 1) := by decide +kernel
theorem dX13_underPosition_0 : decode cX13_underPosition 0 = .ok (.aload_n 0, 1) := by decide +kernel
theorem dX13_underPosition_1 : decode cX13_underPosition 1 = .ok (.iload_n 1, 1) := by decide +kernel
theorem dX13_underPosition_2 : decode cX13_underPosition 2 = .ok (.iconst 0, 1) := by decide +kernel
theorem dX13_underPosition_3 : decode cX13_underPosition 3 = .ok (.invokevirtual 198, 3) := by decide +kernel
theorem dX13_underPosition_6 : decode cX13_underPosition 6 = .ok (.ireturn, 1) := by decide +kernel
theorem dX13_writhe_0 : decode cX13_writhe 0 = .ok (.aload_n 0, 1) := by decide +kernel
theorem dX13_writhe_1 : decode cX13_writhe 1 = .ok (.iconst 0, 1) := by decide +kernel
theorem dX13_writhe_2 : decode cX13_writhe 2 = .ok (.putfield 66, 3) := by decide +kernel
theorem dX13_writhe_5 : decode cX13_writhe 5 = .ok (.aload_n 0, 1) := by decide +kernel
theorem dX13_writhe_6 : decode cX13_writhe 6 = .ok (.invokevirtual 111, 3) := by decide +kernel
theorem dX13_writhe_9 : decode cX13_writhe 9 = .ok (.aload_n 0, 1) := by decide +kernel
theorem dX13_writhe_10 : decode cX13_writhe 10 = .ok (.invokevirtual 170, 3) := by decide +kernel
theorem dX13_writhe_13 : decode cX13_writhe 13 = .ok (.ireturn, 1) := by decide +kernel
theorem dX13_isCurl_0 : decode cX13_isCurl 0 = .ok (.aload_n 0, 1) := by decide +kernel
theorem dX13_isCurl_1 : decode cX13_isCurl 1 = .ok (.iconst 0, 1) := by decide +kernel
theorem dX13_isCurl_2 : decode cX13_isCurl 2 = .ok (.putfield 66, 3) := by decide +kernel
theorem dX13_isCurl_5 : decode cX13_isCurl 5 = .ok (.aload_n 0, 1) := by decide +kernel
theorem dX13_isCurl_6 : decode cX13_isCurl 6 = .ok (.iload_n 1, 1) := by decide +kernel
theorem dX13_isCurl_7 : decode cX13_isCurl 7 = .ok (.invokevirtual 135, 3) := by decide +kernel
theorem dX13_isCurl_10 : decode cX13_isCurl 10 = .ok (.ifCond .ne 17, 3) := by decide +kernel
theorem dX13_isCurl_13 : decode cX13_isCurl 13 = .ok (.aload_n 0, 1) := by decide +kernel
theorem dX13_isCurl_14 : decode cX13_isCurl 14 = .ok (.iconst 1, 1) := by decide +kernel
theorem dX13_isCurl_15 : decode cX13_isCurl 15 = .ok (.invokevirtual 125, 3) := by decide +kernel
theorem dX13_isCurl_18 : decode cX13_isCurl 18 = .ok (.ifCond .le 7, 3) := by decide +kernel
theorem dX13_isCurl_21 : decode cX13_isCurl 21 = .ok (.iconst 1, 1) := by decide +kernel
theorem dX13_isCurl_22 : decode cX13_isCurl 22 = .ok (.goto 4, 3) := by decide +kernel
theorem dX13_isCurl_25 : decode cX13_isCurl 25 = .ok (.iconst 0, 1) := by decide +kernel
theorem dX13_isCurl_26 : decode cX13_isCurl 26 = .ok (.ireturn, 1) := by decide +kernel
theorem dX13_isCurl_27 : decode cX13_isCurl 27 = .ok (.aload_n 0, 1) := by decide +kernel
theorem dX13_isCurl_28 : decode cX13_isCurl 28 = .ok (.invokevirtual 111, 3) := by decide +kernel
theorem dX13_isCurl_31 : decode cX13_isCurl 31 = .ok (.aload_n 0, 1) := by decide +kernel
theorem dX13_isCurl_32 : decode cX13_isCurl 32 = .ok (.iload_n 1, 1) := by decide +kernel
theorem dX13_isCurl_33 : decode cX13_isCurl 33 = .ok (.invokevirtual 92, 3) := by decide +kernel
theorem dX13_isCurl_36 : decode cX13_isCurl 36 = .ok (.ireturn, 1) := by decide +kernel
theorem dX13_isPoke_0 : decode cX13_isPoke 0 = .ok (.aload_n 0, 1) := by decide +kernel
theorem dX13_isPoke_1 : decode cX13_isPoke 1 = .ok (.iconst 0, 1) := by decide +kernel
theorem dX13_isPoke_2 : decode cX13_isPoke 2 = .ok (.putfield 66, 3) := by decide +kernel
theorem dX13_isPoke_5 : decode cX13_isPoke 5 = .ok (.aload_n 0, 1) := by decide +kernel
theorem dX13_isPoke_6 : decode cX13_isPoke 6 = .ok (.iload_n 1, 1) := by decide +kernel
theorem dX13_isPoke_7 : decode cX13_isPoke 7 = .ok (.invokevirtual 135, 3) := by decide +kernel
theorem dX13_isPoke_10 : decode cX13_isPoke 10 = .ok (.ifCond .eq 11, 3) := by decide +kernel
theorem dX13_isPoke_13 : decode cX13_isPoke 13 = .ok (.aload_n 0, 1) := by decide +kernel
theorem dX13_isPoke_14 : decode cX13_isPoke 14 = .ok (.iload_n 2, 1) := by decide +kernel
theorem dX13_isPoke_15 : decode cX13_isPoke 15 = .ok (.invokevirtual 135, 3) := by decide +kernel
theorem dX13_isPoke_18 : decode cX13_isPoke 18 = .ok (.ifCond .ne 17, 3) := by decide +kernel
theorem dX13_isPoke_21 : decode cX13_isPoke 21 = .ok (.aload_n 0, 1) := by decide +kernel
theorem dX13_isPoke_22 : decode cX13_isPoke 22 = .ok (.iconst 1, 1) := by decide +kernel
theorem dX13_isPoke_23 : decode cX13_isPoke 23 = .ok (.invokevirtual 125, 3) := by decide +kernel
theorem dX13_isPoke_26 : decode cX13_isPoke 26 = .ok (.ifCond .le 7, 3) := by decide +kernel
theorem dX13_isPoke_29 : decode cX13_isPoke 29 = .ok (.iconst 1, 1) := by decide +kernel
theorem dX13_isPoke_30 : decode cX13_isPoke 30 = .ok (.goto 4, 3) := by decide +kernel
theorem dX13_isPoke_33 : decode cX13_isPoke 33 = .ok (.iconst 0, 1) := by decide +kernel
theorem dX13_isPoke_34 : decode cX13_isPoke 34 = .ok (.ireturn, 1) := by decide +kernel
theorem dX13_isPoke_35 : decode cX13_isPoke 35 = .ok (.aload_n 0, 1) := by decide +kernel
theorem dX13_isPoke_36 : decode cX13_isPoke 36 = .ok (.invokevirtual 111, 3) := by decide +kernel
theorem dX13_isPoke_39 : decode cX13_isPoke 39 = .ok (.aload_n 0, 1) := by decide +kernel
theorem dX13_isPoke_40 : decode cX13_isPoke 40 = .ok (.iload_n 1, 1) := by decide +kernel
theorem dX13_isPoke_41 : decode cX13_isPoke 41 = .ok (.iload_n 2, 1) := by decide +kernel
theorem dX13_isPoke_42 : decode cX13_isPoke 42 = .ok (.invokevirtual 100, 3) := by decide +kernel
theorem dX13_isPoke_45 : decode cX13_isPoke 45 = .ok (.ireturn, 1) := by decide +kernel
theorem dX13_isAlternating_0 : decode cX13_isAlternating 0 = .ok (.aload_n 0, 1) := by decide +kernel
theorem dX13_isAlternating_1 : decode cX13_isAlternating 1 = .ok (.iconst 0, 1) := by decide +kernel
theorem dX13_isAlternating_2 : decode cX13_isAlternating 2 = .ok (.putfield 66, 3) := by decide +kernel
theorem dX13_isAlternating_5 : decode cX13_isAlternating 5 = .ok (.aload_n 0, 1) := by decide +kernel
theorem dX13_isAlternating_6 : decode cX13_isAlternating 6 = .ok (.invokevirtual 111, 3) := by decide +kernel
theorem dX13_isAlternating_9 : decode cX13_isAlternating 9 = .ok (.iconst 0, 1) := by decide +kernel
theorem dX13_isAlternating_10 : decode cX13_isAlternating 10 = .ok (.istore_n 1, 1) := by decide +kernel
theorem dX13_isAlternating_11 : decode cX13_isAlternating 11 = .ok (.iload_n 1, 1) := by decide +kernel
theorem dX13_isAlternating_12 : decode cX13_isAlternating 12 = .ok (.iconst 2, 1) := by decide +kernel
theorem dX13_isAlternating_13 : decode cX13_isAlternating 13 = .ok (.aload_n 0, 1) := by decide +kernel
theorem dX13_isAlternating_14 : decode cX13_isAlternating 14 = .ok (.getfield 81, 3) := by decide +kernel
theorem dX13_isAlternating_17 : decode cX13_isAlternating 17 = .ok (.imul, 1) := by decide +kernel
theorem dX13_isAlternating_18 : decode cX13_isAlternating 18 = .ok (.if_icmp .ge 35, 3) := by decide +kernel
theorem dX13_isAlternating_21 : decode cX13_isAlternating 21 = .ok (.aload_n 0, 1) := by decide +kernel
theorem dX13_isAlternating_22 : decode cX13_isAlternating 22 = .ok (.getfield 25, 3) := by decide +kernel
theorem dX13_isAlternating_25 : decode cX13_isAlternating 25 = .ok (.iload_n 1, 1) := by decide +kernel
theorem dX13_isAlternating_26 : decode cX13_isAlternating 26 = .ok (.iaload, 1) := by decide +kernel
theorem dX13_isAlternating_27 : decode cX13_isAlternating 27 = .ok (.aload_n 0, 1) := by decide +kernel
theorem dX13_isAlternating_28 : decode cX13_isAlternating 28 = .ok (.getfield 25, 3) := by decide +kernel
theorem dX13_isAlternating_31 : decode cX13_isAlternating 31 = .ok (.iload_n 1, 1) := by decide +kernel
theorem dX13_isAlternating_32 : decode cX13_isAlternating 32 = .ok (.iconst 1, 1) := by decide +kernel
theorem dX13_isAlternating_33 : decode cX13_isAlternating 33 = .ok (.iadd, 1) := by decide +kernel
theorem dX13_isAlternating_34 : decode cX13_isAlternating 34 = .ok (.iconst 2, 1) := by decide +kernel
theorem dX13_isAlternating_35 : decode cX13_isAlternating 35 = .ok (.aload_n 0, 1) := by decide +kernel
theorem dX13_isAlternating_36 : decode cX13_isAlternating 36 = .ok (.getfield 81, 3) := by decide +kernel
theorem dX13_isAlternating_39 : decode cX13_isAlternating 39 = .ok (.imul, 1) := by decide +kernel
theorem dX13_isAlternating_40 : decode cX13_isAlternating 40 = .ok (.irem, 1) := by decide +kernel
theorem dX13_isAlternating_41 : decode cX13_isAlternating 41 = .ok (.iaload, 1) := by decide +kernel
theorem dX13_isAlternating_42 : decode cX13_isAlternating 42 = .ok (.if_icmp .ne 5, 3) := by decide +kernel
theorem dX13_isAlternating_45 : decode cX13_isAlternating 45 = .ok (.iconst 0, 1) := by decide +kernel
theorem dX13_isAlternating_46 : decode cX13_isAlternating 46 = .ok (.ireturn, 1) := by decide +kernel
theorem dX13_isAlternating_47 : decode cX13_isAlternating 47 = .ok (.iinc 1 1, 3) := by decide +kernel
theorem dX13_isAlternating_50 : decode cX13_isAlternating 50 = .ok (.goto (-39), 3) := by decide +kernel
theorem dX13_isAlternating_53 : decode cX13_isAlternating 53 = .ok (.iconst 1, 1) := by decide +kernel
theorem dX13_isAlternating_54 : decode cX13_isAlternating 54 = .ok (.ireturn, 1) := by decide +kernel
theorem dX13_reducedCrossings_0 : decode cX13_reducedCrossings 0 = .ok (.aload_n 0, 1) := by decide +kernel
theorem dX13_reducedCrossings_1 : decode cX13_reducedCrossings 1 = .ok (.iconst 0, 1) := by decide +kernel
theorem dX13_reducedCrossings_2 : decode cX13_reducedCrossings 2 = .ok (.putfield 66, 3) := by decide +kernel
theorem dX13_reducedCrossings_5 : decode cX13_reducedCrossings 5 = .ok (.aload_n 0, 1) := by decide +kernel
theorem dX13_reducedCrossings_6 : decode cX13_reducedCrossings 6 = .ok (.invokevirtual 111, 3) := by decide +kernel
theorem dX13_reducedCrossings_9 : decode cX13_reducedCrossings 9 = .ok (.aload_n 0, 1) := by decide +kernel
theorem dX13_reducedCrossings_10 : decode cX13_reducedCrossings 10 = .ok (.invokevirtual 189, 3) := by decide +kernel
theorem dX13_reducedCrossings_13 : decode cX13_reducedCrossings 13 = .ok (.aload_n 0, 1) := by decide +kernel
theorem dX13_reducedCrossings_14 : decode cX13_reducedCrossings 14 = .ok (.getfield 81, 3) := by decide +kernel
theorem dX13_reducedCrossings_17 : decode cX13_reducedCrossings 17 = .ok (.ireturn, 1) := by decide +kernel
theorem dX13_chord_0 : decode cX13_chord 0 = .ok (.aload_n 0, 1) := by decide +kernel
theorem dX13_chord_1 : decode cX13_chord 1 = .ok (.iload_n 1, 1) := by decide +kernel
theorem dX13_chord_2 : decode cX13_chord 2 = .ok (.iconst 1, 1) := by decide +kernel
theorem dX13_chord_3 : decode cX13_chord 3 = .ok (.invokevirtual 84, 3) := by decide +kernel
theorem dX13_chord_6 : decode cX13_chord 6 = .ok (.aload_n 0, 1) := by decide +kernel
theorem dX13_chord_7 : decode cX13_chord 7 = .ok (.iload_n 1, 1) := by decide +kernel
theorem dX13_chord_8 : decode cX13_chord 8 = .ok (.iconst 0, 1) := by decide +kernel
theorem dX13_chord_9 : decode cX13_chord 9 = .ok (.invokevirtual 84, 3) := by decide +kernel
theorem dX13_chord_12 : decode cX13_chord 12 = .ok (.isub, 1) := by decide +kernel
theorem dX13_chord_13 : decode cX13_chord 13 = .ok (.istore_n 2, 1) := by decide +kernel
theorem dX13_chord_14 : decode cX13_chord 14 = .ok (.iload_n 2, 1) := by decide +kernel
theorem dX13_chord_15 : decode cX13_chord 15 = .ok (.ifCond .ge 10, 3) := by decide +kernel
theorem dX13_chord_18 : decode cX13_chord 18 = .ok (.iload_n 2, 1) := by decide +kernel
theorem dX13_chord_19 : decode cX13_chord 19 = .ok (.ineg, 1) := by decide +kernel
theorem dX13_chord_20 : decode cX13_chord 20 = .ok (.iconst 1, 1) := by decide +kernel
theorem dX13_chord_21 : decode cX13_chord 21 = .ok (.isub, 1) := by decide +kernel
theorem dX13_chord_22 : decode cX13_chord 22 = .ok (.goto 6, 3) := by decide +kernel
theorem dX13_chord_25 : decode cX13_chord 25 = .ok (.iload_n 2, 1) := by decide +kernel
theorem dX13_chord_26 : decode cX13_chord 26 = .ok (.iconst 1, 1) := by decide +kernel
theorem dX13_chord_27 : decode cX13_chord 27 = .ok (.isub, 1) := by decide +kernel
theorem dX13_chord_28 : decode cX13_chord 28 = .ok (.istore_n 3, 1) := by decide +kernel
theorem dX13_chord_29 : decode cX13_chord 29 = .ok (.iconst 2, 1) := by decide +kernel
theorem dX13_chord_30 : decode cX13_chord 30 = .ok (.aload_n 0, 1) := by decide +kernel
theorem dX13_chord_31 : decode cX13_chord 31 = .ok (.getfield 81, 3) := by decide +kernel
theorem dX13_chord_34 : decode cX13_chord 34 = .ok (.imul, 1) := by decide +kernel
theorem dX13_chord_35 : decode cX13_chord 35 = .ok (.iconst 2, 1) := by decide +kernel
theorem dX13_chord_36 : decode cX13_chord 36 = .ok (.isub, 1) := by decide +kernel
theorem dX13_chord_37 : decode cX13_chord 37 = .ok (.iload_n 3, 1) := by decide +kernel
theorem dX13_chord_38 : decode cX13_chord 38 = .ok (.isub, 1) := by decide +kernel
theorem dX13_chord_39 : decode cX13_chord 39 = .ok (.istore 4, 2) := by decide +kernel
theorem dX13_chord_41 : decode cX13_chord 41 = .ok (.iload_n 3, 1) := by decide +kernel
theorem dX13_chord_42 : decode cX13_chord 42 = .ok (.iload 4, 2) := by decide +kernel
theorem dX13_chord_44 : decode cX13_chord 44 = .ok (.if_icmp .ge 7, 3) := by decide +kernel
theorem dX13_chord_47 : decode cX13_chord 47 = .ok (.iload_n 3, 1) := by decide +kernel
theorem dX13_chord_48 : decode cX13_chord 48 = .ok (.goto 5, 3) := by decide +kernel
theorem dX13_chord_51 : decode cX13_chord 51 = .ok (.iload 4, 2) := by decide +kernel
theorem dX13_chord_53 : decode cX13_chord 53 = .ok (.ireturn, 1) := by decide +kernel
theorem dX13_crossingByChord_0 : decode cX13_crossingByChord 0 = .ok (.aload_n 0, 1) := by decide +kernel
theorem dX13_crossingByChord_1 : decode cX13_crossingByChord 1 = .ok (.iconst 0, 1) := by decide +kernel
theorem dX13_crossingByChord_2 : decode cX13_crossingByChord 2 = .ok (.putfield 66, 3) := by decide +kernel
theorem dX13_crossingByChord_5 : decode cX13_crossingByChord 5 = .ok (.aload_n 0, 1) := by decide +kernel
theorem dX13_crossingByChord_6 : decode cX13_crossingByChord 6 = .ok (.invokevirtual 111, 3) := by decide +kernel
theorem dX13_crossingByChord_9 : decode cX13_crossingByChord 9 = .ok (.iconst 0, 1) := by decide +kernel
theorem dX13_crossingByChord_10 : decode cX13_crossingByChord 10 = .ok (.istore_n 2, 1) := by decide +kernel
theorem dX13_crossingByChord_11 : decode cX13_crossingByChord 11 = .ok (.iload_n 2, 1) := by decide +kernel
theorem dX13_crossingByChord_12 : decode cX13_crossingByChord 12 = .ok (.aload_n 0, 1) := by decide +kernel
theorem dX13_crossingByChord_13 : decode cX13_crossingByChord 13 = .ok (.getfield 81, 3) := by decide +kernel
theorem dX13_crossingByChord_16 : decode cX13_crossingByChord 16 = .ok (.if_icmp .ge 78, 3) := by decide +kernel
theorem dX13_crossingByChord_19 : decode cX13_crossingByChord 19 = .ok (.iconst 0, 1) := by decide +kernel
theorem dX13_crossingByChord_20 : decode cX13_crossingByChord 20 = .ok (.istore_n 3, 1) := by decide +kernel
theorem dX13_crossingByChord_21 : decode cX13_crossingByChord 21 = .ok (.iconst 0, 1) := by decide +kernel
theorem dX13_crossingByChord_22 : decode cX13_crossingByChord 22 = .ok (.istore 4, 2) := by decide +kernel
theorem dX13_crossingByChord_24 : decode cX13_crossingByChord 24 = .ok (.iload 4, 2) := by decide +kernel
theorem dX13_crossingByChord_26 : decode cX13_crossingByChord 26 = .ok (.aload_n 0, 1) := by decide +kernel
theorem dX13_crossingByChord_27 : decode cX13_crossingByChord 27 = .ok (.getfield 81, 3) := by decide +kernel
theorem dX13_crossingByChord_30 : decode cX13_crossingByChord 30 = .ok (.if_icmp .ge 51, 3) := by decide +kernel
theorem dX13_crossingByChord_33 : decode cX13_crossingByChord 33 = .ok (.iload_n 3, 1) := by decide +kernel
theorem dX13_crossingByChord_34 : decode cX13_crossingByChord 34 = .ok (.aload_n 0, 1) := by decide +kernel
theorem dX13_crossingByChord_35 : decode cX13_crossingByChord 35 = .ok (.iload 4, 2) := by decide +kernel
theorem dX13_crossingByChord_37 : decode cX13_crossingByChord 37 = .ok (.invokevirtual 201, 3) := by decide +kernel
theorem dX13_crossingByChord_40 : decode cX13_crossingByChord 40 = .ok (.aload_n 0, 1) := by decide +kernel
theorem dX13_crossingByChord_41 : decode cX13_crossingByChord 41 = .ok (.iload_n 2, 1) := by decide +kernel
theorem dX13_crossingByChord_42 : decode cX13_crossingByChord 42 = .ok (.invokevirtual 201, 3) := by decide +kernel
theorem dX13_crossingByChord_45 : decode cX13_crossingByChord 45 = .ok (.if_icmp .lt 23, 3) := by decide +kernel
theorem dX13_crossingByChord_48 : decode cX13_crossingByChord 48 = .ok (.aload_n 0, 1) := by decide +kernel
theorem dX13_crossingByChord_49 : decode cX13_crossingByChord 49 = .ok (.iload 4, 2) := by decide +kernel
theorem dX13_crossingByChord_51 : decode cX13_crossingByChord 51 = .ok (.invokevirtual 201, 3) := by decide +kernel
theorem dX13_crossingByChord_54 : decode cX13_crossingByChord 54 = .ok (.aload_n 0, 1) := by decide +kernel
theorem dX13_crossingByChord_55 : decode cX13_crossingByChord 55 = .ok (.iload_n 2, 1) := by decide +kernel
theorem dX13_crossingByChord_56 : decode cX13_crossingByChord 56 = .ok (.invokevirtual 201, 3) := by decide +kernel
theorem dX13_crossingByChord_59 : decode cX13_crossingByChord 59 = .ok (.if_icmp .ne 13, 3) := by decide +kernel
theorem dX13_crossingByChord_62 : decode cX13_crossingByChord 62 = .ok (.iload 4, 2) := by decide +kernel
theorem dX13_crossingByChord_64 : decode cX13_crossingByChord 64 = .ok (.iload_n 2, 1) := by decide +kernel
theorem dX13_crossingByChord_65 : decode cX13_crossingByChord 65 = .ok (.if_icmp .ge 7, 3) := by decide +kernel
theorem dX13_crossingByChord_68 : decode cX13_crossingByChord 68 = .ok (.iconst 1, 1) := by decide +kernel
theorem dX13_crossingByChord_69 : decode cX13_crossingByChord 69 = .ok (.goto 4, 3) := by decide +kernel
theorem dX13_crossingByChord_72 : decode cX13_crossingByChord 72 = .ok (.iconst 0, 1) := by decide +kernel
theorem dX13_crossingByChord_73 : decode cX13_crossingByChord 73 = .ok (.iadd, 1) := by decide +kernel
theorem dX13_crossingByChord_74 : decode cX13_crossingByChord 74 = .ok (.istore_n 3, 1) := by decide +kernel
theorem dX13_crossingByChord_75 : decode cX13_crossingByChord 75 = .ok (.iinc 4 1, 3) := by decide +kernel
theorem dX13_crossingByChord_78 : decode cX13_crossingByChord 78 = .ok (.goto (-54), 3) := by decide +kernel
theorem dX13_crossingByChord_81 : decode cX13_crossingByChord 81 = .ok (.iload_n 3, 1) := by decide +kernel
theorem dX13_crossingByChord_82 : decode cX13_crossingByChord 82 = .ok (.iload_n 1, 1) := by decide +kernel
theorem dX13_crossingByChord_83 : decode cX13_crossingByChord 83 = .ok (.if_icmp .ne 5, 3) := by decide +kernel
theorem dX13_crossingByChord_86 : decode cX13_crossingByChord 86 = .ok (.iload_n 2, 1) := by decide +kernel
theorem dX13_crossingByChord_87 : decode cX13_crossingByChord 87 = .ok (.ireturn, 1) := by decide +kernel
theorem dX13_crossingByChord_88 : decode cX13_crossingByChord 88 = .ok (.iinc 2 1, 3) := by decide +kernel
theorem dX13_crossingByChord_91 : decode cX13_crossingByChord 91 = .ok (.goto (-80), 3) := by decide +kernel
theorem dX13_crossingByChord_94 : decode cX13_crossingByChord 94 = .ok (.aload_n 0, 1) := by decide +kernel
theorem dX13_crossingByChord_95 : decode cX13_crossingByChord 95 = .ok (.iconst 1, 1) := by decide +kernel
theorem dX13_crossingByChord_96 : decode cX13_crossingByChord 96 = .ok (.invokevirtual 125, 3) := by decide +kernel
theorem dX13_crossingByChord_99 : decode cX13_crossingByChord 99 = .ok (.ireturn, 1) := by decide +kernel
theorem dX13_arcs_0 : decode cX13_arcs 0 = .ok (.aload_n 0, 1) := by decide +kernel
theorem dX13_arcs_1 : decode cX13_arcs 1 = .ok (.getfield 81, 3) := by decide +kernel
theorem dX13_arcs_4 : decode cX13_arcs 4 = .ok (.ifCond .ne 7, 3) := by decide +kernel
theorem dX13_arcs_7 : decode cX13_arcs 7 = .ok (.iconst 1, 1) := by decide +kernel
theorem dX13_arcs_8 : decode cX13_arcs 8 = .ok (.goto 7, 3) := by decide +kernel
theorem dX13_arcs_11 : decode cX13_arcs 11 = .ok (.aload_n 0, 1) := by decide +kernel
theorem dX13_arcs_12 : decode cX13_arcs 12 = .ok (.getfield 81, 3) := by decide +kernel
theorem dX13_arcs_15 : decode cX13_arcs 15 = .ok (.ireturn, 1) := by decide +kernel
theorem dX13_arcOf_0 : decode cX13_arcOf 0 = .ok (.iconst 0, 1) := by decide +kernel
theorem dX13_arcOf_1 : decode cX13_arcOf 1 = .ok (.istore_n 2, 1) := by decide +kernel
theorem dX13_arcOf_2 : decode cX13_arcOf 2 = .ok (.iconst 0, 1) := by decide +kernel
theorem dX13_arcOf_3 : decode cX13_arcOf 3 = .ok (.istore_n 3, 1) := by decide +kernel
theorem dX13_arcOf_4 : decode cX13_arcOf 4 = .ok (.iload_n 3, 1) := by decide +kernel
theorem dX13_arcOf_5 : decode cX13_arcOf 5 = .ok (.iload_n 1, 1) := by decide +kernel
theorem dX13_arcOf_6 : decode cX13_arcOf 6 = .ok (.if_icmp .gt 20, 3) := by decide +kernel
theorem dX13_arcOf_9 : decode cX13_arcOf 9 = .ok (.iload_n 2, 1) := by decide +kernel
theorem dX13_arcOf_10 : decode cX13_arcOf 10 = .ok (.iconst 1, 1) := by decide +kernel
theorem dX13_arcOf_11 : decode cX13_arcOf 11 = .ok (.aload_n 0, 1) := by decide +kernel
theorem dX13_arcOf_12 : decode cX13_arcOf 12 = .ok (.getfield 25, 3) := by decide +kernel
theorem dX13_arcOf_15 : decode cX13_arcOf 15 = .ok (.iload_n 3, 1) := by decide +kernel
theorem dX13_arcOf_16 : decode cX13_arcOf 16 = .ok (.iaload, 1) := by decide +kernel
theorem dX13_arcOf_17 : decode cX13_arcOf 17 = .ok (.isub, 1) := by decide +kernel
theorem dX13_arcOf_18 : decode cX13_arcOf 18 = .ok (.iadd, 1) := by decide +kernel
theorem dX13_arcOf_19 : decode cX13_arcOf 19 = .ok (.istore_n 2, 1) := by decide +kernel
theorem dX13_arcOf_20 : decode cX13_arcOf 20 = .ok (.iinc 3 1, 3) := by decide +kernel
theorem dX13_arcOf_23 : decode cX13_arcOf 23 = .ok (.goto (-19), 3) := by decide +kernel
theorem dX13_arcOf_26 : decode cX13_arcOf 26 = .ok (.iload_n 2, 1) := by decide +kernel
theorem dX13_arcOf_27 : decode cX13_arcOf 27 = .ok (.ifCond .ne 12, 3) := by decide +kernel
theorem dX13_arcOf_30 : decode cX13_arcOf 30 = .ok (.aload_n 0, 1) := by decide +kernel
theorem dX13_arcOf_31 : decode cX13_arcOf 31 = .ok (.getfield 81, 3) := by decide +kernel
theorem dX13_arcOf_34 : decode cX13_arcOf 34 = .ok (.iconst 1, 1) := by decide +kernel
theorem dX13_arcOf_35 : decode cX13_arcOf 35 = .ok (.isub, 1) := by decide +kernel
theorem dX13_arcOf_36 : decode cX13_arcOf 36 = .ok (.goto 6, 3) := by decide +kernel
theorem dX13_arcOf_39 : decode cX13_arcOf 39 = .ok (.iload_n 2, 1) := by decide +kernel
theorem dX13_arcOf_40 : decode cX13_arcOf 40 = .ok (.iconst 1, 1) := by decide +kernel
theorem dX13_arcOf_41 : decode cX13_arcOf 41 = .ok (.isub, 1) := by decide +kernel
theorem dX13_arcOf_42 : decode cX13_arcOf 42 = .ok (.ireturn, 1) := by decide +kernel
theorem dX13_arcCount_0 : decode cX13_arcCount 0 = .ok (.aload_n 0, 1) := by decide +kernel
theorem dX13_arcCount_1 : decode cX13_arcCount 1 = .ok (.iconst 0, 1) := by decide +kernel
theorem dX13_arcCount_2 : decode cX13_arcCount 2 = .ok (.putfield 66, 3) := by decide +kernel
theorem dX13_arcCount_5 : decode cX13_arcCount 5 = .ok (.aload_n 0, 1) := by decide +kernel
theorem dX13_arcCount_6 : decode cX13_arcCount 6 = .ok (.invokevirtual 111, 3) := by decide +kernel
theorem dX13_arcCount_9 : decode cX13_arcCount 9 = .ok (.aload_n 0, 1) := by decide +kernel
theorem dX13_arcCount_10 : decode cX13_arcCount 10 = .ok (.invokevirtual 204, 3) := by decide +kernel
theorem dX13_arcCount_13 : decode cX13_arcCount 13 = .ok (.ireturn, 1) := by decide +kernel
theorem dX13_arcAt_0 : decode cX13_arcAt 0 = .ok (.aload_n 0, 1) := by decide +kernel
theorem dX13_arcAt_1 : decode cX13_arcAt 1 = .ok (.iconst 0, 1) := by decide +kernel
theorem dX13_arcAt_2 : decode cX13_arcAt 2 = .ok (.putfield 66, 3) := by decide +kernel
theorem dX13_arcAt_5 : decode cX13_arcAt 5 = .ok (.aload_n 0, 1) := by decide +kernel
theorem dX13_arcAt_6 : decode cX13_arcAt 6 = .ok (.iload_n 1, 1) := by decide +kernel
theorem dX13_arcAt_7 : decode cX13_arcAt 7 = .ok (.invokevirtual 180, 3) := by decide +kernel
theorem dX13_arcAt_10 : decode cX13_arcAt 10 = .ok (.ifCond .ne 9, 3) := by decide +kernel
theorem dX13_arcAt_13 : decode cX13_arcAt 13 = .ok (.aload_n 0, 1) := by decide +kernel
theorem dX13_arcAt_14 : decode cX13_arcAt 14 = .ok (.iconst 1, 1) := by decide +kernel
theorem dX13_arcAt_15 : decode cX13_arcAt 15 = .ok (.invokevirtual 125, 3) := by decide +kernel
theorem dX13_arcAt_18 : decode cX13_arcAt 18 = .ok (.ireturn, 1) := by decide +kernel
theorem dX13_arcAt_19 : decode cX13_arcAt 19 = .ok (.aload_n 0, 1) := by decide +kernel
theorem dX13_arcAt_20 : decode cX13_arcAt 20 = .ok (.invokevirtual 111, 3) := by decide +kernel
theorem dX13_arcAt_23 : decode cX13_arcAt 23 = .ok (.aload_n 0, 1) := by decide +kernel
theorem dX13_arcAt_24 : decode cX13_arcAt 24 = .ok (.iload_n 1, 1) := by decide +kernel
theorem dX13_arcAt_25 : decode cX13_arcAt 25 = .ok (.invokevirtual 207, 3) := by decide +kernel
theorem dX13_arcAt_28 : decode cX13_arcAt 28 = .ok (.ireturn, 1) := by decide +kernel
theorem dX13_equations_0 : decode cX13_equations 0 = .ok (.iconst 0, 1) := by decide +kernel
theorem dX13_equations_1 : decode cX13_equations 1 = .ok (.istore_n 2, 1) := by decide +kernel
theorem dX13_equations_2 : decode cX13_equations 2 = .ok (.iload_n 2, 1) := by decide +kernel
theorem dX13_equations_3 : decode cX13_equations 3 = .ok (.bipush 49, 2) := by decide +kernel
theorem dX13_equations_5 : decode cX13_equations 5 = .ok (.if_icmp .ge 16, 3) := by decide +kernel
theorem dX13_equations_8 : decode cX13_equations 8 = .ok (.aload_n 0, 1) := by decide +kernel
theorem dX13_equations_9 : decode cX13_equations 9 = .ok (.getfield 31, 3) := by decide +kernel
theorem dX13_equations_12 : decode cX13_equations 12 = .ok (.iload_n 2, 1) := by decide +kernel
theorem dX13_equations_13 : decode cX13_equations 13 = .ok (.iconst 0, 1) := by decide +kernel
theorem dX13_equations_14 : decode cX13_equations 14 = .ok (.iastore, 1) := by decide +kernel
theorem dX13_equations_15 : decode cX13_equations 15 = .ok (.iinc 2 1, 3) := by decide +kernel
theorem dX13_equations_18 : decode cX13_equations 18 = .ok (.goto (-16), 3) := by decide +kernel
theorem dX13_equations_21 : decode cX13_equations 21 = .ok (.iconst 0, 1) := by decide +kernel
theorem dX13_equations_22 : decode cX13_equations 22 = .ok (.istore_n 2, 1) := by decide +kernel
theorem dX13_equations_23 : decode cX13_equations 23 = .ok (.iload_n 2, 1) := by decide +kernel
theorem dX13_equations_24 : decode cX13_equations 24 = .ok (.aload_n 0, 1) := by decide +kernel
theorem dX13_equations_25 : decode cX13_equations 25 = .ok (.getfield 81, 3) := by decide +kernel
theorem dX13_equations_28 : decode cX13_equations 28 = .ok (.if_icmp .ge 94, 3) := by decide +kernel
theorem dX13_equations_31 : decode cX13_equations 31 = .ok (.aload_n 0, 1) := by decide +kernel
theorem dX13_equations_32 : decode cX13_equations 32 = .ok (.aload_n 0, 1) := by decide +kernel
theorem dX13_equations_33 : decode cX13_equations 33 = .ok (.iload_n 2, 1) := by decide +kernel
theorem dX13_equations_34 : decode cX13_equations 34 = .ok (.iconst 0, 1) := by decide +kernel
theorem dX13_equations_35 : decode cX13_equations 35 = .ok (.invokevirtual 84, 3) := by decide +kernel
theorem dX13_equations_38 : decode cX13_equations 38 = .ok (.invokevirtual 207, 3) := by decide +kernel
theorem dX13_equations_41 : decode cX13_equations 41 = .ok (.istore_n 3, 1) := by decide +kernel
theorem dX13_equations_42 : decode cX13_equations 42 = .ok (.iload_n 3, 1) := by decide +kernel
theorem dX13_equations_43 : decode cX13_equations 43 = .ok (.aload_n 0, 1) := by decide +kernel
theorem dX13_equations_44 : decode cX13_equations 44 = .ok (.getfield 81, 3) := by decide +kernel
theorem dX13_equations_47 : decode cX13_equations 47 = .ok (.iadd, 1) := by decide +kernel
theorem dX13_equations_48 : decode cX13_equations 48 = .ok (.iconst 1, 1) := by decide +kernel
theorem dX13_equations_49 : decode cX13_equations 49 = .ok (.isub, 1) := by decide +kernel
theorem dX13_equations_50 : decode cX13_equations 50 = .ok (.aload_n 0, 1) := by decide +kernel
theorem dX13_equations_51 : decode cX13_equations 51 = .ok (.getfield 81, 3) := by decide +kernel
theorem dX13_equations_54 : decode cX13_equations 54 = .ok (.irem, 1) := by decide +kernel
theorem dX13_equations_55 : decode cX13_equations 55 = .ok (.istore 4, 2) := by decide +kernel
theorem dX13_equations_57 : decode cX13_equations 57 = .ok (.aload_n 0, 1) := by decide +kernel
theorem dX13_equations_58 : decode cX13_equations 58 = .ok (.getfield 31, 3) := by decide +kernel
theorem dX13_equations_61 : decode cX13_equations 61 = .ok (.bipush 7, 2) := by decide +kernel
theorem dX13_equations_63 : decode cX13_equations 63 = .ok (.iload_n 2, 1) := by decide +kernel
theorem dX13_equations_64 : decode cX13_equations 64 = .ok (.imul, 1) := by decide +kernel
theorem dX13_equations_65 : decode cX13_equations 65 = .ok (.aload_n 0, 1) := by decide +kernel
theorem dX13_equations_66 : decode cX13_equations 66 = .ok (.aload_n 0, 1) := by decide +kernel
theorem dX13_equations_67 : decode cX13_equations 67 = .ok (.iload_n 2, 1) := by decide +kernel
theorem dX13_equations_68 : decode cX13_equations 68 = .ok (.iconst 1, 1) := by decide +kernel
theorem dX13_equations_69 : decode cX13_equations 69 = .ok (.invokevirtual 84, 3) := by decide +kernel
theorem dX13_equations_72 : decode cX13_equations 72 = .ok (.invokevirtual 207, 3) := by decide +kernel
theorem dX13_equations_75 : decode cX13_equations 75 = .ok (.iadd, 1) := by decide +kernel
theorem dX13_equations_76 : decode cX13_equations 76 = .ok (.dup2, 1) := by decide +kernel
theorem dX13_equations_77 : decode cX13_equations 77 = .ok (.iaload, 1) := by decide +kernel
theorem dX13_equations_78 : decode cX13_equations 78 = .ok (.iconst 2, 1) := by decide +kernel
theorem dX13_equations_79 : decode cX13_equations 79 = .ok (.iadd, 1) := by decide +kernel
theorem dX13_equations_80 : decode cX13_equations 80 = .ok (.iastore, 1) := by decide +kernel
theorem dX13_equations_81 : decode cX13_equations 81 = .ok (.aload_n 0, 1) := by decide +kernel
theorem dX13_equations_82 : decode cX13_equations 82 = .ok (.getfield 31, 3) := by decide +kernel
theorem dX13_equations_85 : decode cX13_equations 85 = .ok (.bipush 7, 2) := by decide +kernel
theorem dX13_equations_87 : decode cX13_equations 87 = .ok (.iload_n 2, 1) := by decide +kernel
theorem dX13_equations_88 : decode cX13_equations 88 = .ok (.imul, 1) := by decide +kernel
theorem dX13_equations_89 : decode cX13_equations 89 = .ok (.iload_n 3, 1) := by decide +kernel
theorem dX13_equations_90 : decode cX13_equations 90 = .ok (.iadd, 1) := by decide +kernel
theorem dX13_equations_91 : decode cX13_equations 91 = .ok (.dup2, 1) := by decide +kernel
theorem dX13_equations_92 : decode cX13_equations 92 = .ok (.iaload, 1) := by decide +kernel
theorem dX13_equations_93 : decode cX13_equations 93 = .ok (.iload_n 1, 1) := by decide +kernel
theorem dX13_equations_94 : decode cX13_equations 94 = .ok (.iconst 1, 1) := by decide +kernel
theorem dX13_equations_95 : decode cX13_equations 95 = .ok (.isub, 1) := by decide +kernel
theorem dX13_equations_96 : decode cX13_equations 96 = .ok (.iadd, 1) := by decide +kernel
theorem dX13_equations_97 : decode cX13_equations 97 = .ok (.iastore, 1) := by decide +kernel
theorem dX13_equations_98 : decode cX13_equations 98 = .ok (.aload_n 0, 1) := by decide +kernel
theorem dX13_equations_99 : decode cX13_equations 99 = .ok (.getfield 31, 3) := by decide +kernel
theorem dX13_equations_102 : decode cX13_equations 102 = .ok (.bipush 7, 2) := by decide +kernel
theorem dX13_equations_104 : decode cX13_equations 104 = .ok (.iload_n 2, 1) := by decide +kernel
theorem dX13_equations_105 : decode cX13_equations 105 = .ok (.imul, 1) := by decide +kernel
theorem dX13_equations_106 : decode cX13_equations 106 = .ok (.iload 4, 2) := by decide +kernel
theorem dX13_equations_108 : decode cX13_equations 108 = .ok (.iadd, 1) := by decide +kernel
theorem dX13_equations_109 : decode cX13_equations 109 = .ok (.dup2, 1) := by decide +kernel
theorem dX13_equations_110 : decode cX13_equations 110 = .ok (.iaload, 1) := by decide +kernel
theorem dX13_equations_111 : decode cX13_equations 111 = .ok (.iload_n 1, 1) := by decide +kernel
theorem dX13_equations_112 : decode cX13_equations 112 = .ok (.iconst 1, 1) := by decide +kernel
theorem dX13_equations_113 : decode cX13_equations 113 = .ok (.isub, 1) := by decide +kernel
theorem dX13_equations_114 : decode cX13_equations 114 = .ok (.iadd, 1) := by decide +kernel
theorem dX13_equations_115 : decode cX13_equations 115 = .ok (.iastore, 1) := by decide +kernel
theorem dX13_equations_116 : decode cX13_equations 116 = .ok (.iinc 2 1, 3) := by decide +kernel
theorem dX13_equations_119 : decode cX13_equations 119 = .ok (.goto (-96), 3) := by decide +kernel
theorem dX13_equations_122 : decode cX13_equations 122 = .ok (.iconst 0, 1) := by decide +kernel
theorem dX13_equations_123 : decode cX13_equations 123 = .ok (.istore_n 2, 1) := by decide +kernel
theorem dX13_equations_124 : decode cX13_equations 124 = .ok (.iload_n 2, 1) := by decide +kernel
theorem dX13_equations_125 : decode cX13_equations 125 = .ok (.bipush 49, 2) := by decide +kernel
theorem dX13_equations_127 : decode cX13_equations 127 = .ok (.if_icmp .ge 19, 3) := by decide +kernel
theorem dX13_equations_130 : decode cX13_equations 130 = .ok (.aload_n 0, 1) := by decide +kernel
theorem dX13_equations_131 : decode cX13_equations 131 = .ok (.getfield 31, 3) := by decide +kernel
theorem dX13_equations_134 : decode cX13_equations 134 = .ok (.iload_n 2, 1) := by decide +kernel
theorem dX13_equations_135 : decode cX13_equations 135 = .ok (.dup2, 1) := by decide +kernel
theorem dX13_equations_136 : decode cX13_equations 136 = .ok (.iaload, 1) := by decide +kernel
theorem dX13_equations_137 : decode cX13_equations 137 = .ok (.iload_n 1, 1) := by decide +kernel
theorem dX13_equations_138 : decode cX13_equations 138 = .ok (.irem, 1) := by decide +kernel
theorem dX13_equations_139 : decode cX13_equations 139 = .ok (.iastore, 1) := by decide +kernel
theorem dX13_equations_140 : decode cX13_equations 140 = .ok (.iinc 2 1, 3) := by decide +kernel
theorem dX13_equations_143 : decode cX13_equations 143 = .ok (.goto (-19), 3) := by decide +kernel
theorem dX13_equations_146 : decode cX13_equations 146 = .ok (.return_, 1) := by decide +kernel
theorem dX13_inverse_0 : decode cX13_inverse 0 = .ok (.iconst 1, 1) := by decide +kernel
theorem dX13_inverse_1 : decode cX13_inverse 1 = .ok (.istore_n 2, 1) := by decide +kernel
theorem dX13_inverse_2 : decode cX13_inverse 2 = .ok (.iload_n 0, 1) := by decide +kernel
theorem dX13_inverse_3 : decode cX13_inverse 3 = .ok (.iload_n 2, 1) := by decide +kernel
theorem dX13_inverse_4 : decode cX13_inverse 4 = .ok (.imul, 1) := by decide +kernel
theorem dX13_inverse_5 : decode cX13_inverse 5 = .ok (.iload_n 1, 1) := by decide +kernel
theorem dX13_inverse_6 : decode cX13_inverse 6 = .ok (.irem, 1) := by decide +kernel
theorem dX13_inverse_7 : decode cX13_inverse 7 = .ok (.iconst 1, 1) := by decide +kernel
theorem dX13_inverse_8 : decode cX13_inverse 8 = .ok (.if_icmp .eq 9, 3) := by decide +kernel
theorem dX13_inverse_11 : decode cX13_inverse 11 = .ok (.iinc 2 1, 3) := by decide +kernel
theorem dX13_inverse_14 : decode cX13_inverse 14 = .ok (.goto (-12), 3) := by decide +kernel
theorem dX13_inverse_17 : decode cX13_inverse 17 = .ok (.iload_n 2, 1) := by decide +kernel
theorem dX13_inverse_18 : decode cX13_inverse 18 = .ok (.ireturn, 1) := by decide +kernel
theorem dX13_takes_0 : decode cX13_takes 0 = .ok (.iconst 0, 1) := by decide +kernel
theorem dX13_takes_1 : decode cX13_takes 1 = .ok (.istore 5, 2) := by decide +kernel
theorem dX13_takes_3 : decode cX13_takes 3 = .ok (.iload 5, 2) := by decide +kernel
theorem dX13_takes_5 : decode cX13_takes 5 = .ok (.aload_n 0, 1) := by decide +kernel
theorem dX13_takes_6 : decode cX13_takes 6 = .ok (.getfield 81, 3) := by decide +kernel
theorem dX13_takes_9 : decode cX13_takes 9 = .ok (.if_icmp .ge 54, 3) := by decide +kernel
theorem dX13_takes_12 : decode cX13_takes 12 = .ok (.aload_n 0, 1) := by decide +kernel
theorem dX13_takes_13 : decode cX13_takes 13 = .ok (.getfield 31, 3) := by decide +kernel
theorem dX13_takes_16 : decode cX13_takes 16 = .ok (.bipush 7, 2) := by decide +kernel
theorem dX13_takes_18 : decode cX13_takes 18 = .ok (.iload_n 1, 1) := by decide +kernel
theorem dX13_takes_19 : decode cX13_takes 19 = .ok (.imul, 1) := by decide +kernel
theorem dX13_takes_20 : decode cX13_takes 20 = .ok (.iload 5, 2) := by decide +kernel
theorem dX13_takes_22 : decode cX13_takes 22 = .ok (.iadd, 1) := by decide +kernel
theorem dX13_takes_23 : decode cX13_takes 23 = .ok (.aload_n 0, 1) := by decide +kernel
theorem dX13_takes_24 : decode cX13_takes 24 = .ok (.getfield 31, 3) := by decide +kernel
theorem dX13_takes_27 : decode cX13_takes 27 = .ok (.bipush 7, 2) := by decide +kernel
theorem dX13_takes_29 : decode cX13_takes 29 = .ok (.iload_n 1, 1) := by decide +kernel
theorem dX13_takes_30 : decode cX13_takes 30 = .ok (.imul, 1) := by decide +kernel
theorem dX13_takes_31 : decode cX13_takes 31 = .ok (.iload 5, 2) := by decide +kernel
theorem dX13_takes_33 : decode cX13_takes 33 = .ok (.iadd, 1) := by decide +kernel
theorem dX13_takes_34 : decode cX13_takes 34 = .ok (.iaload, 1) := by decide +kernel
theorem dX13_takes_35 : decode cX13_takes 35 = .ok (.iload 4, 2) := by decide +kernel
theorem dX13_takes_37 : decode cX13_takes 37 = .ok (.iload_n 3, 1) := by decide +kernel
theorem dX13_takes_38 : decode cX13_takes 38 = .ok (.isub, 1) := by decide +kernel
theorem dX13_takes_39 : decode cX13_takes 39 = .ok (.aload_n 0, 1) := by decide +kernel
theorem dX13_takes_40 : decode cX13_takes 40 = .ok (.getfield 31, 3) := by decide +kernel
theorem dX13_takes_43 : decode cX13_takes 43 = .ok (.bipush 7, 2) := by decide +kernel
theorem dX13_takes_45 : decode cX13_takes 45 = .ok (.iload_n 2, 1) := by decide +kernel
theorem dX13_takes_46 : decode cX13_takes 46 = .ok (.imul, 1) := by decide +kernel
theorem dX13_takes_47 : decode cX13_takes 47 = .ok (.iload 5, 2) := by decide +kernel
theorem dX13_takes_49 : decode cX13_takes 49 = .ok (.iadd, 1) := by decide +kernel
theorem dX13_takes_50 : decode cX13_takes 50 = .ok (.iaload, 1) := by decide +kernel
theorem dX13_takes_51 : decode cX13_takes 51 = .ok (.imul, 1) := by decide +kernel
theorem dX13_takes_52 : decode cX13_takes 52 = .ok (.iadd, 1) := by decide +kernel
theorem dX13_takes_53 : decode cX13_takes 53 = .ok (.iload 4, 2) := by decide +kernel
theorem dX13_takes_55 : decode cX13_takes 55 = .ok (.irem, 1) := by decide +kernel
theorem dX13_takes_56 : decode cX13_takes 56 = .ok (.iastore, 1) := by decide +kernel
theorem dX13_takes_57 : decode cX13_takes 57 = .ok (.iinc 5 1, 3) := by decide +kernel
theorem dX13_takes_60 : decode cX13_takes 60 = .ok (.goto (-57), 3) := by decide +kernel
theorem dX13_takes_63 : decode cX13_takes 63 = .ok (.return_, 1) := by decide +kernel
theorem dX13_swaps_0 : decode cX13_swaps 0 = .ok (.iconst 0, 1) := by decide +kernel
theorem dX13_swaps_1 : decode cX13_swaps 1 = .ok (.istore_n 3, 1) := by decide +kernel
theorem dX13_swaps_2 : decode cX13_swaps 2 = .ok (.iload_n 3, 1) := by decide +kernel
theorem dX13_swaps_3 : decode cX13_swaps 3 = .ok (.aload_n 0, 1) := by decide +kernel
theorem dX13_swaps_4 : decode cX13_swaps 4 = .ok (.getfield 81, 3) := by decide +kernel
theorem dX13_swaps_7 : decode cX13_swaps 7 = .ok (.if_icmp .ge 57, 3) := by decide +kernel
theorem dX13_swaps_10 : decode cX13_swaps 10 = .ok (.aload_n 0, 1) := by decide +kernel
theorem dX13_swaps_11 : decode cX13_swaps 11 = .ok (.getfield 31, 3) := by decide +kernel
theorem dX13_swaps_14 : decode cX13_swaps 14 = .ok (.bipush 7, 2) := by decide +kernel
theorem dX13_swaps_16 : decode cX13_swaps 16 = .ok (.iload_n 1, 1) := by decide +kernel
theorem dX13_swaps_17 : decode cX13_swaps 17 = .ok (.imul, 1) := by decide +kernel
theorem dX13_swaps_18 : decode cX13_swaps 18 = .ok (.iload_n 3, 1) := by decide +kernel
theorem dX13_swaps_19 : decode cX13_swaps 19 = .ok (.iadd, 1) := by decide +kernel
theorem dX13_swaps_20 : decode cX13_swaps 20 = .ok (.iaload, 1) := by decide +kernel
theorem dX13_swaps_21 : decode cX13_swaps 21 = .ok (.istore 4, 2) := by decide +kernel
theorem dX13_swaps_23 : decode cX13_swaps 23 = .ok (.aload_n 0, 1) := by decide +kernel
theorem dX13_swaps_24 : decode cX13_swaps 24 = .ok (.getfield 31, 3) := by decide +kernel
theorem dX13_swaps_27 : decode cX13_swaps 27 = .ok (.bipush 7, 2) := by decide +kernel
theorem dX13_swaps_29 : decode cX13_swaps 29 = .ok (.iload_n 1, 1) := by decide +kernel
theorem dX13_swaps_30 : decode cX13_swaps 30 = .ok (.imul, 1) := by decide +kernel
theorem dX13_swaps_31 : decode cX13_swaps 31 = .ok (.iload_n 3, 1) := by decide +kernel
theorem dX13_swaps_32 : decode cX13_swaps 32 = .ok (.iadd, 1) := by decide +kernel
theorem dX13_swaps_33 : decode cX13_swaps 33 = .ok (.aload_n 0, 1) := by decide +kernel
theorem dX13_swaps_34 : decode cX13_swaps 34 = .ok (.getfield 31, 3) := by decide +kernel
theorem dX13_swaps_37 : decode cX13_swaps 37 = .ok (.bipush 7, 2) := by decide +kernel
theorem dX13_swaps_39 : decode cX13_swaps 39 = .ok (.iload_n 2, 1) := by decide +kernel
theorem dX13_swaps_40 : decode cX13_swaps 40 = .ok (.imul, 1) := by decide +kernel
theorem dX13_swaps_41 : decode cX13_swaps 41 = .ok (.iload_n 3, 1) := by decide +kernel
theorem dX13_swaps_42 : decode cX13_swaps 42 = .ok (.iadd, 1) := by decide +kernel
theorem dX13_swaps_43 : decode cX13_swaps 43 = .ok (.iaload, 1) := by decide +kernel
theorem dX13_swaps_44 : decode cX13_swaps 44 = .ok (.iastore, 1) := by decide +kernel
theorem dX13_swaps_45 : decode cX13_swaps 45 = .ok (.aload_n 0, 1) := by decide +kernel
theorem dX13_swaps_46 : decode cX13_swaps 46 = .ok (.getfield 31, 3) := by decide +kernel
theorem dX13_swaps_49 : decode cX13_swaps 49 = .ok (.bipush 7, 2) := by decide +kernel
theorem dX13_swaps_51 : decode cX13_swaps 51 = .ok (.iload_n 2, 1) := by decide +kernel
theorem dX13_swaps_52 : decode cX13_swaps 52 = .ok (.imul, 1) := by decide +kernel
theorem dX13_swaps_53 : decode cX13_swaps 53 = .ok (.iload_n 3, 1) := by decide +kernel
theorem dX13_swaps_54 : decode cX13_swaps 54 = .ok (.iadd, 1) := by decide +kernel
theorem dX13_swaps_55 : decode cX13_swaps 55 = .ok (.iload 4, 2) := by decide +kernel
theorem dX13_swaps_57 : decode cX13_swaps 57 = .ok (.iastore, 1) := by decide +kernel
theorem dX13_swaps_58 : decode cX13_swaps 58 = .ok (.iinc 3 1, 3) := by decide +kernel
theorem dX13_swaps_61 : decode cX13_swaps 61 = .ok (.goto (-59), 3) := by decide +kernel
theorem dX13_swaps_64 : decode cX13_swaps 64 = .ok (.return_, 1) := by decide +kernel
theorem dX13_rankOf_0 : decode cX13_rankOf 0 = .ok (.aload_n 0, 1) := by decide +kernel
theorem dX13_rankOf_1 : decode cX13_rankOf 1 = .ok (.iload_n 1, 1) := by decide +kernel
theorem dX13_rankOf_2 : decode cX13_rankOf 2 = .ok (.invokevirtual 210, 3) := by decide +kernel
theorem dX13_rankOf_5 : decode cX13_rankOf 5 = .ok (.iconst 0, 1) := by decide +kernel
theorem dX13_rankOf_6 : decode cX13_rankOf 6 = .ok (.istore_n 2, 1) := by decide +kernel
theorem dX13_rankOf_7 : decode cX13_rankOf 7 = .ok (.iconst 0, 1) := by decide +kernel
theorem dX13_rankOf_8 : decode cX13_rankOf 8 = .ok (.istore_n 3, 1) := by decide +kernel
theorem dX13_rankOf_9 : decode cX13_rankOf 9 = .ok (.iload_n 3, 1) := by decide +kernel
theorem dX13_rankOf_10 : decode cX13_rankOf 10 = .ok (.aload_n 0, 1) := by decide +kernel
theorem dX13_rankOf_11 : decode cX13_rankOf 11 = .ok (.getfield 81, 3) := by decide +kernel
theorem dX13_rankOf_14 : decode cX13_rankOf 14 = .ok (.if_icmp .ge 126, 3) := by decide +kernel
theorem dX13_rankOf_17 : decode cX13_rankOf 17 = .ok (.iload_n 2, 1) := by decide +kernel
theorem dX13_rankOf_18 : decode cX13_rankOf 18 = .ok (.istore 4, 2) := by decide +kernel
theorem dX13_rankOf_20 : decode cX13_rankOf 20 = .ok (.iload 4, 2) := by decide +kernel
theorem dX13_rankOf_22 : decode cX13_rankOf 22 = .ok (.aload_n 0, 1) := by decide +kernel
theorem dX13_rankOf_23 : decode cX13_rankOf 23 = .ok (.getfield 81, 3) := by decide +kernel
theorem dX13_rankOf_26 : decode cX13_rankOf 26 = .ok (.if_icmp .ge 24, 3) := by decide +kernel
theorem dX13_rankOf_29 : decode cX13_rankOf 29 = .ok (.aload_n 0, 1) := by decide +kernel
theorem dX13_rankOf_30 : decode cX13_rankOf 30 = .ok (.getfield 31, 3) := by decide +kernel
theorem dX13_rankOf_33 : decode cX13_rankOf 33 = .ok (.bipush 7, 2) := by decide +kernel
theorem dX13_rankOf_35 : decode cX13_rankOf 35 = .ok (.iload 4, 2) := by decide +kernel
theorem dX13_rankOf_37 : decode cX13_rankOf 37 = .ok (.imul, 1) := by decide +kernel
theorem dX13_rankOf_38 : decode cX13_rankOf 38 = .ok (.iload_n 3, 1) := by decide +kernel
theorem dX13_rankOf_39 : decode cX13_rankOf 39 = .ok (.iadd, 1) := by decide +kernel
theorem dX13_rankOf_40 : decode cX13_rankOf 40 = .ok (.iaload, 1) := by decide +kernel
theorem dX13_rankOf_41 : decode cX13_rankOf 41 = .ok (.ifCond .ne 9, 3) := by decide +kernel
theorem dX13_rankOf_44 : decode cX13_rankOf 44 = .ok (.iinc 4 1, 3) := by decide +kernel
theorem dX13_rankOf_47 : decode cX13_rankOf 47 = .ok (.goto (-27), 3) := by decide +kernel
theorem dX13_rankOf_50 : decode cX13_rankOf 50 = .ok (.iload 4, 2) := by decide +kernel
theorem dX13_rankOf_52 : decode cX13_rankOf 52 = .ok (.aload_n 0, 1) := by decide +kernel
theorem dX13_rankOf_53 : decode cX13_rankOf 53 = .ok (.getfield 81, 3) := by decide +kernel
theorem dX13_rankOf_56 : decode cX13_rankOf 56 = .ok (.if_icmp .ne 6, 3) := by decide +kernel
theorem dX13_rankOf_59 : decode cX13_rankOf 59 = .ok (.goto 75, 3) := by decide +kernel
theorem dX13_rankOf_62 : decode cX13_rankOf 62 = .ok (.aload_n 0, 1) := by decide +kernel
theorem dX13_rankOf_63 : decode cX13_rankOf 63 = .ok (.iload_n 2, 1) := by decide +kernel
theorem dX13_rankOf_64 : decode cX13_rankOf 64 = .ok (.iload 4, 2) := by decide +kernel
theorem dX13_rankOf_66 : decode cX13_rankOf 66 = .ok (.invokevirtual 213, 3) := by decide +kernel
theorem dX13_rankOf_69 : decode cX13_rankOf 69 = .ok (.aload_n 0, 1) := by decide +kernel
theorem dX13_rankOf_70 : decode cX13_rankOf 70 = .ok (.getfield 31, 3) := by decide +kernel
theorem dX13_rankOf_73 : decode cX13_rankOf 73 = .ok (.bipush 7, 2) := by decide +kernel
theorem dX13_rankOf_75 : decode cX13_rankOf 75 = .ok (.iload_n 2, 1) := by decide +kernel
theorem dX13_rankOf_76 : decode cX13_rankOf 76 = .ok (.imul, 1) := by decide +kernel
theorem dX13_rankOf_77 : decode cX13_rankOf 77 = .ok (.iload_n 3, 1) := by decide +kernel
theorem dX13_rankOf_78 : decode cX13_rankOf 78 = .ok (.iadd, 1) := by decide +kernel
theorem dX13_rankOf_79 : decode cX13_rankOf 79 = .ok (.iaload, 1) := by decide +kernel
theorem dX13_rankOf_80 : decode cX13_rankOf 80 = .ok (.iload_n 1, 1) := by decide +kernel
theorem dX13_rankOf_81 : decode cX13_rankOf 81 = .ok (.invokestatic 217, 3) := by decide +kernel
theorem dX13_rankOf_84 : decode cX13_rankOf 84 = .ok (.istore 5, 2) := by decide +kernel
theorem dX13_rankOf_86 : decode cX13_rankOf 86 = .ok (.iload_n 2, 1) := by decide +kernel
theorem dX13_rankOf_87 : decode cX13_rankOf 87 = .ok (.iconst 1, 1) := by decide +kernel
theorem dX13_rankOf_88 : decode cX13_rankOf 88 = .ok (.iadd, 1) := by decide +kernel
theorem dX13_rankOf_89 : decode cX13_rankOf 89 = .ok (.istore 6, 2) := by decide +kernel
theorem dX13_rankOf_91 : decode cX13_rankOf 91 = .ok (.iload 6, 2) := by decide +kernel
theorem dX13_rankOf_93 : decode cX13_rankOf 93 = .ok (.aload_n 0, 1) := by decide +kernel
theorem dX13_rankOf_94 : decode cX13_rankOf 94 = .ok (.getfield 81, 3) := by decide +kernel
theorem dX13_rankOf_97 : decode cX13_rankOf 97 = .ok (.if_icmp .ge 34, 3) := by decide +kernel
theorem dX13_rankOf_100 : decode cX13_rankOf 100 = .ok (.aload_n 0, 1) := by decide +kernel
theorem dX13_rankOf_101 : decode cX13_rankOf 101 = .ok (.iload 6, 2) := by decide +kernel
theorem dX13_rankOf_103 : decode cX13_rankOf 103 = .ok (.iload_n 2, 1) := by decide +kernel
theorem dX13_rankOf_104 : decode cX13_rankOf 104 = .ok (.aload_n 0, 1) := by decide +kernel
theorem dX13_rankOf_105 : decode cX13_rankOf 105 = .ok (.getfield 31, 3) := by decide +kernel
theorem dX13_rankOf_108 : decode cX13_rankOf 108 = .ok (.bipush 7, 2) := by decide +kernel
theorem dX13_rankOf_110 : decode cX13_rankOf 110 = .ok (.iload 6, 2) := by decide +kernel
theorem dX13_rankOf_112 : decode cX13_rankOf 112 = .ok (.imul, 1) := by decide +kernel
theorem dX13_rankOf_113 : decode cX13_rankOf 113 = .ok (.iload_n 3, 1) := by decide +kernel
theorem dX13_rankOf_114 : decode cX13_rankOf 114 = .ok (.iadd, 1) := by decide +kernel
theorem dX13_rankOf_115 : decode cX13_rankOf 115 = .ok (.iaload, 1) := by decide +kernel
theorem dX13_rankOf_116 : decode cX13_rankOf 116 = .ok (.iload 5, 2) := by decide +kernel
theorem dX13_rankOf_118 : decode cX13_rankOf 118 = .ok (.imul, 1) := by decide +kernel
theorem dX13_rankOf_119 : decode cX13_rankOf 119 = .ok (.iload_n 1, 1) := by decide +kernel
theorem dX13_rankOf_120 : decode cX13_rankOf 120 = .ok (.irem, 1) := by decide +kernel
theorem dX13_rankOf_121 : decode cX13_rankOf 121 = .ok (.iload_n 1, 1) := by decide +kernel
theorem dX13_rankOf_122 : decode cX13_rankOf 122 = .ok (.invokevirtual 220, 3) := by decide +kernel
theorem dX13_rankOf_125 : decode cX13_rankOf 125 = .ok (.iinc 6 1, 3) := by decide +kernel
theorem dX13_rankOf_128 : decode cX13_rankOf 128 = .ok (.goto (-37), 3) := by decide +kernel
theorem dX13_rankOf_131 : decode cX13_rankOf 131 = .ok (.iinc 2 1, 3) := by decide +kernel
theorem dX13_rankOf_134 : decode cX13_rankOf 134 = .ok (.iinc 3 1, 3) := by decide +kernel
theorem dX13_rankOf_137 : decode cX13_rankOf 137 = .ok (.goto (-128), 3) := by decide +kernel
theorem dX13_rankOf_140 : decode cX13_rankOf 140 = .ok (.iload_n 2, 1) := by decide +kernel
theorem dX13_rankOf_141 : decode cX13_rankOf 141 = .ok (.ireturn, 1) := by decide +kernel
theorem dX13_coloured_0 : decode cX13_coloured 0 = .ok (.aload_n 0, 1) := by decide +kernel
theorem dX13_coloured_1 : decode cX13_coloured 1 = .ok (.invokevirtual 111, 3) := by decide +kernel
theorem dX13_coloured_4 : decode cX13_coloured 4 = .ok (.iconst 1, 1) := by decide +kernel
theorem dX13_coloured_5 : decode cX13_coloured 5 = .ok (.istore_n 2, 1) := by decide +kernel
theorem dX13_coloured_6 : decode cX13_coloured 6 = .ok (.aload_n 0, 1) := by decide +kernel
theorem dX13_coloured_7 : decode cX13_coloured 7 = .ok (.iload_n 1, 1) := by decide +kernel
theorem dX13_coloured_8 : decode cX13_coloured 8 = .ok (.invokevirtual 223, 3) := by decide +kernel
theorem dX13_coloured_11 : decode cX13_coloured 11 = .ok (.istore_n 3, 1) := by decide +kernel
theorem dX13_coloured_12 : decode cX13_coloured 12 = .ok (.iload_n 3, 1) := by decide +kernel
theorem dX13_coloured_13 : decode cX13_coloured 13 = .ok (.aload_n 0, 1) := by decide +kernel
theorem dX13_coloured_14 : decode cX13_coloured 14 = .ok (.invokevirtual 204, 3) := by decide +kernel
theorem dX13_coloured_17 : decode cX13_coloured 17 = .ok (.if_icmp .ge 13, 3) := by decide +kernel
theorem dX13_coloured_20 : decode cX13_coloured 20 = .ok (.iload_n 2, 1) := by decide +kernel
theorem dX13_coloured_21 : decode cX13_coloured 21 = .ok (.iload_n 1, 1) := by decide +kernel
theorem dX13_coloured_22 : decode cX13_coloured 22 = .ok (.imul, 1) := by decide +kernel
theorem dX13_coloured_23 : decode cX13_coloured 23 = .ok (.istore_n 2, 1) := by decide +kernel
theorem dX13_coloured_24 : decode cX13_coloured 24 = .ok (.iinc 3 1, 3) := by decide +kernel
theorem dX13_coloured_27 : decode cX13_coloured 27 = .ok (.goto (-15), 3) := by decide +kernel
theorem dX13_coloured_30 : decode cX13_coloured 30 = .ok (.iload_n 2, 1) := by decide +kernel
theorem dX13_coloured_31 : decode cX13_coloured 31 = .ok (.ireturn, 1) := by decide +kernel
theorem dX13_colourings_0 : decode cX13_colourings 0 = .ok (.aload_n 0, 1) := by decide +kernel
theorem dX13_colourings_1 : decode cX13_colourings 1 = .ok (.iconst 0, 1) := by decide +kernel
theorem dX13_colourings_2 : decode cX13_colourings 2 = .ok (.putfield 66, 3) := by decide +kernel
theorem dX13_colourings_5 : decode cX13_colourings 5 = .ok (.iload_n 1, 1) := by decide +kernel
theorem dX13_colourings_6 : decode cX13_colourings 6 = .ok (.iconst 3, 1) := by decide +kernel
theorem dX13_colourings_7 : decode cX13_colourings 7 = .ok (.if_icmp .eq 14, 3) := by decide +kernel
theorem dX13_colourings_10 : decode cX13_colourings 10 = .ok (.iload_n 1, 1) := by decide +kernel
theorem dX13_colourings_11 : decode cX13_colourings 11 = .ok (.iconst 5, 1) := by decide +kernel
theorem dX13_colourings_12 : decode cX13_colourings 12 = .ok (.if_icmp .eq 9, 3) := by decide +kernel
theorem dX13_colourings_15 : decode cX13_colourings 15 = .ok (.iload_n 1, 1) := by decide +kernel
theorem dX13_colourings_16 : decode cX13_colourings 16 = .ok (.bipush 7, 2) := by decide +kernel
theorem dX13_colourings_18 : decode cX13_colourings 18 = .ok (.if_icmp .ne 11, 3) := by decide +kernel
theorem dX13_colourings_21 : decode cX13_colourings 21 = .ok (.aload_n 0, 1) := by decide +kernel
theorem dX13_colourings_22 : decode cX13_colourings 22 = .ok (.iload_n 1, 1) := by decide +kernel
theorem dX13_colourings_23 : decode cX13_colourings 23 = .ok (.invokevirtual 226, 3) := by decide +kernel
theorem dX13_colourings_26 : decode cX13_colourings 26 = .ok (.goto 8, 3) := by decide +kernel
theorem dX13_colourings_29 : decode cX13_colourings 29 = .ok (.aload_n 0, 1) := by decide +kernel
theorem dX13_colourings_30 : decode cX13_colourings 30 = .ok (.iconst 1, 1) := by decide +kernel
theorem dX13_colourings_31 : decode cX13_colourings 31 = .ok (.invokevirtual 125, 3) := by decide +kernel
theorem dX13_colourings_34 : decode cX13_colourings 34 = .ok (.ireturn, 1) := by decide +kernel
theorem dX13_colouringsByTrying_0 : decode cX13_colouringsByTrying 0 = .ok (.aload_n 0, 1) := by decide +kernel
theorem dX13_colouringsByTrying_1 : decode cX13_colouringsByTrying 1 = .ok (.iconst 3, 1) := by decide +kernel
theorem dX13_colouringsByTrying_2 : decode cX13_colouringsByTrying 2 = .ok (.invokevirtual 229, 3) := by decide +kernel
theorem dX13_colouringsByTrying_5 : decode cX13_colouringsByTrying 5 = .ok (.ireturn, 1) := by decide +kernel
theorem dX13_leaderOf_0 : decode cX13_leaderOf 0 = .ok (.iload_n 1, 1) := by decide +kernel
theorem dX13_leaderOf_1 : decode cX13_leaderOf 1 = .ok (.istore_n 2, 1) := by decide +kernel
theorem dX13_leaderOf_2 : decode cX13_leaderOf 2 = .ok (.aload_n 0, 1) := by decide +kernel
theorem dX13_leaderOf_3 : decode cX13_leaderOf 3 = .ok (.getfield 34, 3) := by decide +kernel
theorem dX13_leaderOf_6 : decode cX13_leaderOf 6 = .ok (.iload_n 2, 1) := by decide +kernel
theorem dX13_leaderOf_7 : decode cX13_leaderOf 7 = .ok (.iaload, 1) := by decide +kernel
theorem dX13_leaderOf_8 : decode cX13_leaderOf 8 = .ok (.iload_n 2, 1) := by decide +kernel
theorem dX13_leaderOf_9 : decode cX13_leaderOf 9 = .ok (.if_icmp .eq 13, 3) := by decide +kernel
theorem dX13_leaderOf_12 : decode cX13_leaderOf 12 = .ok (.aload_n 0, 1) := by decide +kernel
theorem dX13_leaderOf_13 : decode cX13_leaderOf 13 = .ok (.getfield 34, 3) := by decide +kernel
theorem dX13_leaderOf_16 : decode cX13_leaderOf 16 = .ok (.iload_n 2, 1) := by decide +kernel
theorem dX13_leaderOf_17 : decode cX13_leaderOf 17 = .ok (.iaload, 1) := by decide +kernel
theorem dX13_leaderOf_18 : decode cX13_leaderOf 18 = .ok (.istore_n 2, 1) := by decide +kernel
theorem dX13_leaderOf_19 : decode cX13_leaderOf 19 = .ok (.goto (-17), 3) := by decide +kernel
theorem dX13_leaderOf_22 : decode cX13_leaderOf 22 = .ok (.iload_n 2, 1) := by decide +kernel
theorem dX13_leaderOf_23 : decode cX13_leaderOf 23 = .ok (.ireturn, 1) := by decide +kernel
theorem dX13_joins_0 : decode cX13_joins 0 = .ok (.aload_n 0, 1) := by decide +kernel
theorem dX13_joins_1 : decode cX13_joins 1 = .ok (.iload_n 1, 1) := by decide +kernel
theorem dX13_joins_2 : decode cX13_joins 2 = .ok (.invokevirtual 232, 3) := by decide +kernel
theorem dX13_joins_5 : decode cX13_joins 5 = .ok (.istore_n 3, 1) := by decide +kernel
theorem dX13_joins_6 : decode cX13_joins 6 = .ok (.aload_n 0, 1) := by decide +kernel
theorem dX13_joins_7 : decode cX13_joins 7 = .ok (.getfield 34, 3) := by decide +kernel
theorem dX13_joins_10 : decode cX13_joins 10 = .ok (.aload_n 0, 1) := by decide +kernel
theorem dX13_joins_11 : decode cX13_joins 11 = .ok (.iload_n 2, 1) := by decide +kernel
theorem dX13_joins_12 : decode cX13_joins 12 = .ok (.invokevirtual 232, 3) := by decide +kernel
theorem dX13_joins_15 : decode cX13_joins 15 = .ok (.iload_n 3, 1) := by decide +kernel
theorem dX13_joins_16 : decode cX13_joins 16 = .ok (.iastore, 1) := by decide +kernel
theorem dX13_joins_17 : decode cX13_joins 17 = .ok (.return_, 1) := by decide +kernel
theorem dX13_loopsOf_0 : decode cX13_loopsOf 0 = .ok (.iconst 2, 1) := by decide +kernel
theorem dX13_loopsOf_1 : decode cX13_loopsOf 1 = .ok (.aload_n 0, 1) := by decide +kernel
theorem dX13_loopsOf_2 : decode cX13_loopsOf 2 = .ok (.getfield 81, 3) := by decide +kernel
theorem dX13_loopsOf_5 : decode cX13_loopsOf 5 = .ok (.imul, 1) := by decide +kernel
theorem dX13_loopsOf_6 : decode cX13_loopsOf 6 = .ok (.istore_n 2, 1) := by decide +kernel
theorem dX13_loopsOf_7 : decode cX13_loopsOf 7 = .ok (.iconst 0, 1) := by decide +kernel
theorem dX13_loopsOf_8 : decode cX13_loopsOf 8 = .ok (.istore_n 3, 1) := by decide +kernel
theorem dX13_loopsOf_9 : decode cX13_loopsOf 9 = .ok (.iload_n 3, 1) := by decide +kernel
theorem dX13_loopsOf_10 : decode cX13_loopsOf 10 = .ok (.iload_n 2, 1) := by decide +kernel
theorem dX13_loopsOf_11 : decode cX13_loopsOf 11 = .ok (.if_icmp .ge 16, 3) := by decide +kernel
theorem dX13_loopsOf_14 : decode cX13_loopsOf 14 = .ok (.aload_n 0, 1) := by decide +kernel
theorem dX13_loopsOf_15 : decode cX13_loopsOf 15 = .ok (.getfield 34, 3) := by decide +kernel
theorem dX13_loopsOf_18 : decode cX13_loopsOf 18 = .ok (.iload_n 3, 1) := by decide +kernel
theorem dX13_loopsOf_19 : decode cX13_loopsOf 19 = .ok (.iload_n 3, 1) := by decide +kernel
theorem dX13_loopsOf_20 : decode cX13_loopsOf 20 = .ok (.iastore, 1) := by decide +kernel
theorem dX13_loopsOf_21 : decode cX13_loopsOf 21 = .ok (.iinc 3 1, 3) := by decide +kernel
theorem dX13_loopsOf_24 : decode cX13_loopsOf 24 = .ok (.goto (-15), 3) := by decide +kernel
theorem dX13_loopsOf_27 : decode cX13_loopsOf 27 = .ok (.iconst 0, 1) := by decide +kernel
theorem dX13_loopsOf_28 : decode cX13_loopsOf 28 = .ok (.istore_n 3, 1) := by decide +kernel
theorem dX13_loopsOf_29 : decode cX13_loopsOf 29 = .ok (.iload_n 3, 1) := by decide +kernel
theorem dX13_loopsOf_30 : decode cX13_loopsOf 30 = .ok (.aload_n 0, 1) := by decide +kernel
theorem dX13_loopsOf_31 : decode cX13_loopsOf 31 = .ok (.getfield 81, 3) := by decide +kernel
theorem dX13_loopsOf_34 : decode cX13_loopsOf 34 = .ok (.if_icmp .ge 97, 3) := by decide +kernel
theorem dX13_loopsOf_37 : decode cX13_loopsOf 37 = .ok (.aload_n 0, 1) := by decide +kernel
theorem dX13_loopsOf_38 : decode cX13_loopsOf 38 = .ok (.iload_n 3, 1) := by decide +kernel
theorem dX13_loopsOf_39 : decode cX13_loopsOf 39 = .ok (.iconst 1, 1) := by decide +kernel
theorem dX13_loopsOf_40 : decode cX13_loopsOf 40 = .ok (.invokevirtual 84, 3) := by decide +kernel
theorem dX13_loopsOf_43 : decode cX13_loopsOf 43 = .ok (.istore 4, 2) := by decide +kernel
theorem dX13_loopsOf_45 : decode cX13_loopsOf 45 = .ok (.aload_n 0, 1) := by decide +kernel
theorem dX13_loopsOf_46 : decode cX13_loopsOf 46 = .ok (.iload_n 3, 1) := by decide +kernel
theorem dX13_loopsOf_47 : decode cX13_loopsOf 47 = .ok (.iconst 0, 1) := by decide +kernel
theorem dX13_loopsOf_48 : decode cX13_loopsOf 48 = .ok (.invokevirtual 84, 3) := by decide +kernel
theorem dX13_loopsOf_51 : decode cX13_loopsOf 51 = .ok (.istore 5, 2) := by decide +kernel
theorem dX13_loopsOf_53 : decode cX13_loopsOf 53 = .ok (.iload 4, 2) := by decide +kernel
theorem dX13_loopsOf_55 : decode cX13_loopsOf 55 = .ok (.iload_n 2, 1) := by decide +kernel
theorem dX13_loopsOf_56 : decode cX13_loopsOf 56 = .ok (.iadd, 1) := by decide +kernel
theorem dX13_loopsOf_57 : decode cX13_loopsOf 57 = .ok (.iconst 1, 1) := by decide +kernel
theorem dX13_loopsOf_58 : decode cX13_loopsOf 58 = .ok (.isub, 1) := by decide +kernel
theorem dX13_loopsOf_59 : decode cX13_loopsOf 59 = .ok (.iload_n 2, 1) := by decide +kernel
theorem dX13_loopsOf_60 : decode cX13_loopsOf 60 = .ok (.irem, 1) := by decide +kernel
theorem dX13_loopsOf_61 : decode cX13_loopsOf 61 = .ok (.istore 6, 2) := by decide +kernel
theorem dX13_loopsOf_63 : decode cX13_loopsOf 63 = .ok (.iload 5, 2) := by decide +kernel
theorem dX13_loopsOf_65 : decode cX13_loopsOf 65 = .ok (.iload_n 2, 1) := by decide +kernel
theorem dX13_loopsOf_66 : decode cX13_loopsOf 66 = .ok (.iadd, 1) := by decide +kernel
theorem dX13_loopsOf_67 : decode cX13_loopsOf 67 = .ok (.iconst 1, 1) := by decide +kernel
theorem dX13_loopsOf_68 : decode cX13_loopsOf 68 = .ok (.isub, 1) := by decide +kernel
theorem dX13_loopsOf_69 : decode cX13_loopsOf 69 = .ok (.iload_n 2, 1) := by decide +kernel
theorem dX13_loopsOf_70 : decode cX13_loopsOf 70 = .ok (.irem, 1) := by decide +kernel
theorem dX13_loopsOf_71 : decode cX13_loopsOf 71 = .ok (.istore 7, 2) := by decide +kernel
theorem dX13_loopsOf_73 : decode cX13_loopsOf 73 = .ok (.iload_n 1, 1) := by decide +kernel
theorem dX13_loopsOf_74 : decode cX13_loopsOf 74 = .ok (.iload_n 3, 1) := by decide +kernel
theorem dX13_loopsOf_75 : decode cX13_loopsOf 75 = .ok (.ishr, 1) := by decide +kernel
theorem dX13_loopsOf_76 : decode cX13_loopsOf 76 = .ok (.iconst 1, 1) := by decide +kernel
theorem dX13_loopsOf_77 : decode cX13_loopsOf 77 = .ok (.iand, 1) := by decide +kernel
theorem dX13_loopsOf_78 : decode cX13_loopsOf 78 = .ok (.iconst 1, 1) := by decide +kernel
theorem dX13_loopsOf_79 : decode cX13_loopsOf 79 = .ok (.if_icmp .ne 7, 3) := by decide +kernel
theorem dX13_loopsOf_82 : decode cX13_loopsOf 82 = .ok (.iconst 1, 1) := by decide +kernel
theorem dX13_loopsOf_83 : decode cX13_loopsOf 83 = .ok (.goto 4, 3) := by decide +kernel
theorem dX13_loopsOf_86 : decode cX13_loopsOf 86 = .ok (.iconst 0, 1) := by decide +kernel
theorem dX13_loopsOf_87 : decode cX13_loopsOf 87 = .ok (.istore 8, 2) := by decide +kernel
theorem dX13_loopsOf_89 : decode cX13_loopsOf 89 = .ok (.aload_n 0, 1) := by decide +kernel
theorem dX13_loopsOf_90 : decode cX13_loopsOf 90 = .ok (.iload 6, 2) := by decide +kernel
theorem dX13_loopsOf_92 : decode cX13_loopsOf 92 = .ok (.iload 8, 2) := by decide +kernel
theorem dX13_loopsOf_94 : decode cX13_loopsOf 94 = .ok (.ifCond .eq 8, 3) := by decide +kernel
theorem dX13_loopsOf_97 : decode cX13_loopsOf 97 = .ok (.iload 5, 2) := by decide +kernel
theorem dX13_loopsOf_99 : decode cX13_loopsOf 99 = .ok (.goto 5, 3) := by decide +kernel
theorem dX13_loopsOf_102 : decode cX13_loopsOf 102 = .ok (.iload 7, 2) := by decide +kernel
theorem dX13_loopsOf_104 : decode cX13_loopsOf 104 = .ok (.invokevirtual 235, 3) := by decide +kernel
theorem dX13_loopsOf_107 : decode cX13_loopsOf 107 = .ok (.aload_n 0, 1) := by decide +kernel
theorem dX13_loopsOf_108 : decode cX13_loopsOf 108 = .ok (.iload 8, 2) := by decide +kernel
theorem dX13_loopsOf_110 : decode cX13_loopsOf 110 = .ok (.ifCond .eq 8, 3) := by decide +kernel
theorem dX13_loopsOf_113 : decode cX13_loopsOf 113 = .ok (.iload 7, 2) := by decide +kernel
theorem dX13_loopsOf_115 : decode cX13_loopsOf 115 = .ok (.goto 5, 3) := by decide +kernel
theorem dX13_loopsOf_118 : decode cX13_loopsOf 118 = .ok (.iload 5, 2) := by decide +kernel
theorem dX13_loopsOf_120 : decode cX13_loopsOf 120 = .ok (.iload 4, 2) := by decide +kernel
theorem dX13_loopsOf_122 : decode cX13_loopsOf 122 = .ok (.invokevirtual 235, 3) := by decide +kernel
theorem dX13_loopsOf_125 : decode cX13_loopsOf 125 = .ok (.iinc 3 1, 3) := by decide +kernel
theorem dX13_loopsOf_128 : decode cX13_loopsOf 128 = .ok (.goto (-99), 3) := by decide +kernel
theorem dX13_loopsOf_131 : decode cX13_loopsOf 131 = .ok (.iconst 0, 1) := by decide +kernel
theorem dX13_loopsOf_132 : decode cX13_loopsOf 132 = .ok (.istore_n 3, 1) := by decide +kernel
theorem dX13_loopsOf_133 : decode cX13_loopsOf 133 = .ok (.iconst 0, 1) := by decide +kernel
theorem dX13_loopsOf_134 : decode cX13_loopsOf 134 = .ok (.istore 4, 2) := by decide +kernel
theorem dX13_loopsOf_136 : decode cX13_loopsOf 136 = .ok (.iload 4, 2) := by decide +kernel
theorem dX13_loopsOf_138 : decode cX13_loopsOf 138 = .ok (.iload_n 2, 1) := by decide +kernel
theorem dX13_loopsOf_139 : decode cX13_loopsOf 139 = .ok (.if_icmp .ge 29, 3) := by decide +kernel
theorem dX13_loopsOf_142 : decode cX13_loopsOf 142 = .ok (.iload_n 3, 1) := by decide +kernel
theorem dX13_loopsOf_143 : decode cX13_loopsOf 143 = .ok (.aload_n 0, 1) := by decide +kernel
theorem dX13_loopsOf_144 : decode cX13_loopsOf 144 = .ok (.getfield 34, 3) := by decide +kernel
theorem dX13_loopsOf_147 : decode cX13_loopsOf 147 = .ok (.iload 4, 2) := by decide +kernel
theorem dX13_loopsOf_149 : decode cX13_loopsOf 149 = .ok (.iaload, 1) := by decide +kernel
theorem dX13_loopsOf_150 : decode cX13_loopsOf 150 = .ok (.iload 4, 2) := by decide +kernel
theorem dX13_loopsOf_152 : decode cX13_loopsOf 152 = .ok (.if_icmp .ne 7, 3) := by decide +kernel
theorem dX13_loopsOf_155 : decode cX13_loopsOf 155 = .ok (.iconst 1, 1) := by decide +kernel
theorem dX13_loopsOf_156 : decode cX13_loopsOf 156 = .ok (.goto 4, 3) := by decide +kernel
theorem dX13_loopsOf_159 : decode cX13_loopsOf 159 = .ok (.iconst 0, 1) := by decide +kernel
theorem dX13_loopsOf_160 : decode cX13_loopsOf 160 = .ok (.iadd, 1) := by decide +kernel
theorem dX13_loopsOf_161 : decode cX13_loopsOf 161 = .ok (.istore_n 3, 1) := by decide +kernel
theorem dX13_loopsOf_162 : decode cX13_loopsOf 162 = .ok (.iinc 4 1, 3) := by decide +kernel
theorem dX13_loopsOf_165 : decode cX13_loopsOf 165 = .ok (.goto (-29), 3) := by decide +kernel
theorem dX13_loopsOf_168 : decode cX13_loopsOf 168 = .ok (.aload_n 0, 1) := by decide +kernel
theorem dX13_loopsOf_169 : decode cX13_loopsOf 169 = .ok (.getfield 81, 3) := by decide +kernel
theorem dX13_loopsOf_172 : decode cX13_loopsOf 172 = .ok (.ifCond .ne 7, 3) := by decide +kernel
theorem dX13_loopsOf_175 : decode cX13_loopsOf 175 = .ok (.iconst 1, 1) := by decide +kernel
theorem dX13_loopsOf_176 : decode cX13_loopsOf 176 = .ok (.goto 4, 3) := by decide +kernel
theorem dX13_loopsOf_179 : decode cX13_loopsOf 179 = .ok (.iload_n 3, 1) := by decide +kernel
theorem dX13_loopsOf_180 : decode cX13_loopsOf 180 = .ok (.ireturn, 1) := by decide +kernel
theorem dX13_loops_0 : decode cX13_loops 0 = .ok (.aload_n 0, 1) := by decide +kernel
theorem dX13_loops_1 : decode cX13_loops 1 = .ok (.iconst 0, 1) := by decide +kernel
theorem dX13_loops_2 : decode cX13_loops 2 = .ok (.putfield 66, 3) := by decide +kernel
theorem dX13_loops_5 : decode cX13_loops 5 = .ok (.iload_n 1, 1) := by decide +kernel
theorem dX13_loops_6 : decode cX13_loops 6 = .ok (.iconst 0, 1) := by decide +kernel
theorem dX13_loops_7 : decode cX13_loops 7 = .ok (.iconst 1, 1) := by decide +kernel
theorem dX13_loops_8 : decode cX13_loops 8 = .ok (.aload_n 0, 1) := by decide +kernel
theorem dX13_loops_9 : decode cX13_loops 9 = .ok (.getfield 7, 3) := by decide +kernel
theorem dX13_loops_12 : decode cX13_loops 12 = .ok (.iconst 0, 1) := by decide +kernel
theorem dX13_loops_13 : decode cX13_loops 13 = .ok (.iaload, 1) := by decide +kernel
theorem dX13_loops_14 : decode cX13_loops 14 = .ok (.ishl, 1) := by decide +kernel
theorem dX13_loops_15 : decode cX13_loops 15 = .ok (.iconst 1, 1) := by decide +kernel
theorem dX13_loops_16 : decode cX13_loops 16 = .ok (.isub, 1) := by decide +kernel
theorem dX13_loops_17 : decode cX13_loops 17 = .ok (.invokestatic 107, 3) := by decide +kernel
theorem dX13_loops_20 : decode cX13_loops 20 = .ok (.ifCond .ne 9, 3) := by decide +kernel
theorem dX13_loops_23 : decode cX13_loops 23 = .ok (.aload_n 0, 1) := by decide +kernel
theorem dX13_loops_24 : decode cX13_loops 24 = .ok (.iconst 1, 1) := by decide +kernel
theorem dX13_loops_25 : decode cX13_loops 25 = .ok (.invokevirtual 125, 3) := by decide +kernel
theorem dX13_loops_28 : decode cX13_loops 28 = .ok (.ireturn, 1) := by decide +kernel
theorem dX13_loops_29 : decode cX13_loops 29 = .ok (.aload_n 0, 1) := by decide +kernel
theorem dX13_loops_30 : decode cX13_loops 30 = .ok (.invokevirtual 111, 3) := by decide +kernel
theorem dX13_loops_33 : decode cX13_loops 33 = .ok (.aload_n 0, 1) := by decide +kernel
theorem dX13_loops_34 : decode cX13_loops 34 = .ok (.iload_n 1, 1) := by decide +kernel
theorem dX13_loops_35 : decode cX13_loops 35 = .ok (.invokevirtual 238, 3) := by decide +kernel
theorem dX13_loops_38 : decode cX13_loops 38 = .ok (.ireturn, 1) := by decide +kernel
theorem dX13_multiplies_0 : decode cX13_multiplies 0 = .ok (.iconst 0, 1) := by decide +kernel
theorem dX13_multiplies_1 : decode cX13_multiplies 1 = .ok (.istore_n 1, 1) := by decide +kernel
theorem dX13_multiplies_2 : decode cX13_multiplies 2 = .ok (.iload_n 1, 1) := by decide +kernel
theorem dX13_multiplies_3 : decode cX13_multiplies 3 = .ok (.bipush 101, 2) := by decide +kernel
theorem dX13_multiplies_5 : decode cX13_multiplies 5 = .ok (.if_icmp .ge 16, 3) := by decide +kernel
theorem dX13_multiplies_8 : decode cX13_multiplies 8 = .ok (.aload_n 0, 1) := by decide +kernel
theorem dX13_multiplies_9 : decode cX13_multiplies 9 = .ok (.getfield 46, 3) := by decide +kernel
theorem dX13_multiplies_12 : decode cX13_multiplies 12 = .ok (.iload_n 1, 1) := by decide +kernel
theorem dX13_multiplies_13 : decode cX13_multiplies 13 = .ok (.iconst 0, 1) := by decide +kernel
theorem dX13_multiplies_14 : decode cX13_multiplies 14 = .ok (.iastore, 1) := by decide +kernel
theorem dX13_multiplies_15 : decode cX13_multiplies 15 = .ok (.iinc 1 1, 3) := by decide +kernel
theorem dX13_multiplies_18 : decode cX13_multiplies 18 = .ok (.goto (-16), 3) := by decide +kernel
theorem dX13_multiplies_21 : decode cX13_multiplies 21 = .ok (.iconst 2, 1) := by decide +kernel
theorem dX13_multiplies_22 : decode cX13_multiplies 22 = .ok (.istore_n 1, 1) := by decide +kernel
theorem dX13_multiplies_23 : decode cX13_multiplies 23 = .ok (.iload_n 1, 1) := by decide +kernel
theorem dX13_multiplies_24 : decode cX13_multiplies 24 = .ok (.bipush 99, 2) := by decide +kernel
theorem dX13_multiplies_26 : decode cX13_multiplies 26 = .ok (.if_icmp .ge 43, 3) := by decide +kernel
theorem dX13_multiplies_29 : decode cX13_multiplies 29 = .ok (.aload_n 0, 1) := by decide +kernel
theorem dX13_multiplies_30 : decode cX13_multiplies 30 = .ok (.getfield 46, 3) := by decide +kernel
theorem dX13_multiplies_33 : decode cX13_multiplies 33 = .ok (.iload_n 1, 1) := by decide +kernel
theorem dX13_multiplies_34 : decode cX13_multiplies 34 = .ok (.iconst 2, 1) := by decide +kernel
theorem dX13_multiplies_35 : decode cX13_multiplies 35 = .ok (.iadd, 1) := by decide +kernel
theorem dX13_multiplies_36 : decode cX13_multiplies 36 = .ok (.dup2, 1) := by decide +kernel
theorem dX13_multiplies_37 : decode cX13_multiplies 37 = .ok (.iaload, 1) := by decide +kernel
theorem dX13_multiplies_38 : decode cX13_multiplies 38 = .ok (.aload_n 0, 1) := by decide +kernel
theorem dX13_multiplies_39 : decode cX13_multiplies 39 = .ok (.getfield 43, 3) := by decide +kernel
theorem dX13_multiplies_42 : decode cX13_multiplies 42 = .ok (.iload_n 1, 1) := by decide +kernel
theorem dX13_multiplies_43 : decode cX13_multiplies 43 = .ok (.iaload, 1) := by decide +kernel
theorem dX13_multiplies_44 : decode cX13_multiplies 44 = .ok (.isub, 1) := by decide +kernel
theorem dX13_multiplies_45 : decode cX13_multiplies 45 = .ok (.iastore, 1) := by decide +kernel
theorem dX13_multiplies_46 : decode cX13_multiplies 46 = .ok (.aload_n 0, 1) := by decide +kernel
theorem dX13_multiplies_47 : decode cX13_multiplies 47 = .ok (.getfield 46, 3) := by decide +kernel
theorem dX13_multiplies_50 : decode cX13_multiplies 50 = .ok (.iload_n 1, 1) := by decide +kernel
theorem dX13_multiplies_51 : decode cX13_multiplies 51 = .ok (.iconst 2, 1) := by decide +kernel
theorem dX13_multiplies_52 : decode cX13_multiplies 52 = .ok (.isub, 1) := by decide +kernel
theorem dX13_multiplies_53 : decode cX13_multiplies 53 = .ok (.dup2, 1) := by decide +kernel
theorem dX13_multiplies_54 : decode cX13_multiplies 54 = .ok (.iaload, 1) := by decide +kernel
theorem dX13_multiplies_55 : decode cX13_multiplies 55 = .ok (.aload_n 0, 1) := by decide +kernel
theorem dX13_multiplies_56 : decode cX13_multiplies 56 = .ok (.getfield 43, 3) := by decide +kernel
theorem dX13_multiplies_59 : decode cX13_multiplies 59 = .ok (.iload_n 1, 1) := by decide +kernel
theorem dX13_multiplies_60 : decode cX13_multiplies 60 = .ok (.iaload, 1) := by decide +kernel
theorem dX13_multiplies_61 : decode cX13_multiplies 61 = .ok (.isub, 1) := by decide +kernel
theorem dX13_multiplies_62 : decode cX13_multiplies 62 = .ok (.iastore, 1) := by decide +kernel
theorem dX13_multiplies_63 : decode cX13_multiplies 63 = .ok (.iinc 1 1, 3) := by decide +kernel
theorem dX13_multiplies_66 : decode cX13_multiplies 66 = .ok (.goto (-43), 3) := by decide +kernel
theorem dX13_multiplies_69 : decode cX13_multiplies 69 = .ok (.iconst 0, 1) := by decide +kernel
theorem dX13_multiplies_70 : decode cX13_multiplies 70 = .ok (.istore_n 1, 1) := by decide +kernel
theorem dX13_multiplies_71 : decode cX13_multiplies 71 = .ok (.iload_n 1, 1) := by decide +kernel
theorem dX13_multiplies_72 : decode cX13_multiplies 72 = .ok (.bipush 101, 2) := by decide +kernel
theorem dX13_multiplies_74 : decode cX13_multiplies 74 = .ok (.if_icmp .ge 21, 3) := by decide +kernel
theorem dX13_multiplies_77 : decode cX13_multiplies 77 = .ok (.aload_n 0, 1) := by decide +kernel
theorem dX13_multiplies_78 : decode cX13_multiplies 78 = .ok (.getfield 43, 3) := by decide +kernel
theorem dX13_multiplies_81 : decode cX13_multiplies 81 = .ok (.iload_n 1, 1) := by decide +kernel
theorem dX13_multiplies_82 : decode cX13_multiplies 82 = .ok (.aload_n 0, 1) := by decide +kernel
theorem dX13_multiplies_83 : decode cX13_multiplies 83 = .ok (.getfield 46, 3) := by decide +kernel
theorem dX13_multiplies_86 : decode cX13_multiplies 86 = .ok (.iload_n 1, 1) := by decide +kernel
theorem dX13_multiplies_87 : decode cX13_multiplies 87 = .ok (.iaload, 1) := by decide +kernel
theorem dX13_multiplies_88 : decode cX13_multiplies 88 = .ok (.iastore, 1) := by decide +kernel
theorem dX13_multiplies_89 : decode cX13_multiplies 89 = .ok (.iinc 1 1, 3) := by decide +kernel
theorem dX13_multiplies_92 : decode cX13_multiplies 92 = .ok (.goto (-21), 3) := by decide +kernel
theorem dX13_multiplies_95 : decode cX13_multiplies 95 = .ok (.return_, 1) := by decide +kernel
theorem dX13_findsBracket_0 : decode cX13_findsBracket 0 = .ok (.aload_n 0, 1) := by decide +kernel
theorem dX13_findsBracket_1 : decode cX13_findsBracket 1 = .ok (.invokevirtual 111, 3) := by decide +kernel
theorem dX13_findsBracket_4 : decode cX13_findsBracket 4 = .ok (.iconst 0, 1) := by decide +kernel
theorem dX13_findsBracket_5 : decode cX13_findsBracket 5 = .ok (.istore_n 1, 1) := by decide +kernel
theorem dX13_findsBracket_6 : decode cX13_findsBracket 6 = .ok (.iload_n 1, 1) := by decide +kernel
theorem dX13_findsBracket_7 : decode cX13_findsBracket 7 = .ok (.bipush 101, 2) := by decide +kernel
theorem dX13_findsBracket_9 : decode cX13_findsBracket 9 = .ok (.if_icmp .ge 16, 3) := by decide +kernel
theorem dX13_findsBracket_12 : decode cX13_findsBracket 12 = .ok (.aload_n 0, 1) := by decide +kernel
theorem dX13_findsBracket_13 : decode cX13_findsBracket 13 = .ok (.getfield 37, 3) := by decide +kernel
theorem dX13_findsBracket_16 : decode cX13_findsBracket 16 = .ok (.iload_n 1, 1) := by decide +kernel
theorem dX13_findsBracket_17 : decode cX13_findsBracket 17 = .ok (.iconst 0, 1) := by decide +kernel
theorem dX13_findsBracket_18 : decode cX13_findsBracket 18 = .ok (.iastore, 1) := by decide +kernel
theorem dX13_findsBracket_19 : decode cX13_findsBracket 19 = .ok (.iinc 1 1, 3) := by decide +kernel
theorem dX13_findsBracket_22 : decode cX13_findsBracket 22 = .ok (.goto (-16), 3) := by decide +kernel
theorem dX13_findsBracket_25 : decode cX13_findsBracket 25 = .ok (.iconst 0, 1) := by decide +kernel
theorem dX13_findsBracket_26 : decode cX13_findsBracket 26 = .ok (.istore_n 1, 1) := by decide +kernel
theorem dX13_findsBracket_27 : decode cX13_findsBracket 27 = .ok (.iload_n 1, 1) := by decide +kernel
theorem dX13_findsBracket_28 : decode cX13_findsBracket 28 = .ok (.iconst 1, 1) := by decide +kernel
theorem dX13_findsBracket_29 : decode cX13_findsBracket 29 = .ok (.aload_n 0, 1) := by decide +kernel
theorem dX13_findsBracket_30 : decode cX13_findsBracket 30 = .ok (.getfield 81, 3) := by decide +kernel
theorem dX13_findsBracket_33 : decode cX13_findsBracket 33 = .ok (.ishl, 1) := by decide +kernel
theorem dX13_findsBracket_34 : decode cX13_findsBracket 34 = .ok (.if_icmp .ge 132, 3) := by decide +kernel
theorem dX13_findsBracket_37 : decode cX13_findsBracket 37 = .ok (.iconst 0, 1) := by decide +kernel
theorem dX13_findsBracket_38 : decode cX13_findsBracket 38 = .ok (.istore_n 2, 1) := by decide +kernel
theorem dX13_findsBracket_39 : decode cX13_findsBracket 39 = .ok (.iconst 0, 1) := by decide +kernel
theorem dX13_findsBracket_40 : decode cX13_findsBracket 40 = .ok (.istore_n 3, 1) := by decide +kernel
theorem dX13_findsBracket_41 : decode cX13_findsBracket 41 = .ok (.iload_n 3, 1) := by decide +kernel
theorem dX13_findsBracket_42 : decode cX13_findsBracket 42 = .ok (.aload_n 0, 1) := by decide +kernel
theorem dX13_findsBracket_43 : decode cX13_findsBracket 43 = .ok (.getfield 81, 3) := by decide +kernel
theorem dX13_findsBracket_46 : decode cX13_findsBracket 46 = .ok (.if_icmp .ge 31, 3) := by decide +kernel
theorem dX13_findsBracket_49 : decode cX13_findsBracket 49 = .ok (.iload_n 2, 1) := by decide +kernel
theorem dX13_findsBracket_50 : decode cX13_findsBracket 50 = .ok (.iload_n 1, 1) := by decide +kernel
theorem dX13_findsBracket_51 : decode cX13_findsBracket 51 = .ok (.iload_n 3, 1) := by decide +kernel
theorem dX13_findsBracket_52 : decode cX13_findsBracket 52 = .ok (.ishr, 1) := by decide +kernel
theorem dX13_findsBracket_53 : decode cX13_findsBracket 53 = .ok (.iconst 1, 1) := by decide +kernel
theorem dX13_findsBracket_54 : decode cX13_findsBracket 54 = .ok (.iand, 1) := by decide +kernel
theorem dX13_findsBracket_55 : decode cX13_findsBracket 55 = .ok (.aload_n 0, 1) := by decide +kernel
theorem dX13_findsBracket_56 : decode cX13_findsBracket 56 = .ok (.getfield 28, 3) := by decide +kernel
theorem dX13_findsBracket_59 : decode cX13_findsBracket 59 = .ok (.iload_n 3, 1) := by decide +kernel
theorem dX13_findsBracket_60 : decode cX13_findsBracket 60 = .ok (.iaload, 1) := by decide +kernel
theorem dX13_findsBracket_61 : decode cX13_findsBracket 61 = .ok (.if_icmp .ne 7, 3) := by decide +kernel
theorem dX13_findsBracket_64 : decode cX13_findsBracket 64 = .ok (.iconst 1, 1) := by decide +kernel
theorem dX13_findsBracket_65 : decode cX13_findsBracket 65 = .ok (.goto 4, 3) := by decide +kernel
theorem dX13_findsBracket_68 : decode cX13_findsBracket 68 = .ok (.iconst (-1), 1) := by decide +kernel
theorem dX13_findsBracket_69 : decode cX13_findsBracket 69 = .ok (.iadd, 1) := by decide +kernel
theorem dX13_findsBracket_70 : decode cX13_findsBracket 70 = .ok (.istore_n 2, 1) := by decide +kernel
theorem dX13_findsBracket_71 : decode cX13_findsBracket 71 = .ok (.iinc 3 1, 3) := by decide +kernel
theorem dX13_findsBracket_74 : decode cX13_findsBracket 74 = .ok (.goto (-33), 3) := by decide +kernel
theorem dX13_findsBracket_77 : decode cX13_findsBracket 77 = .ok (.iconst 0, 1) := by decide +kernel
theorem dX13_findsBracket_78 : decode cX13_findsBracket 78 = .ok (.istore_n 3, 1) := by decide +kernel
theorem dX13_findsBracket_79 : decode cX13_findsBracket 79 = .ok (.iload_n 3, 1) := by decide +kernel
theorem dX13_findsBracket_80 : decode cX13_findsBracket 80 = .ok (.bipush 101, 2) := by decide +kernel
theorem dX13_findsBracket_82 : decode cX13_findsBracket 82 = .ok (.if_icmp .ge 28, 3) := by decide +kernel
theorem dX13_findsBracket_85 : decode cX13_findsBracket 85 = .ok (.aload_n 0, 1) := by decide +kernel
theorem dX13_findsBracket_86 : decode cX13_findsBracket 86 = .ok (.getfield 43, 3) := by decide +kernel
theorem dX13_findsBracket_89 : decode cX13_findsBracket 89 = .ok (.iload_n 3, 1) := by decide +kernel
theorem dX13_findsBracket_90 : decode cX13_findsBracket 90 = .ok (.iload_n 3, 1) := by decide +kernel
theorem dX13_findsBracket_91 : decode cX13_findsBracket 91 = .ok (.bipush 50, 2) := by decide +kernel
theorem dX13_findsBracket_93 : decode cX13_findsBracket 93 = .ok (.iload_n 2, 1) := by decide +kernel
theorem dX13_findsBracket_94 : decode cX13_findsBracket 94 = .ok (.iadd, 1) := by decide +kernel
theorem dX13_findsBracket_95 : decode cX13_findsBracket 95 = .ok (.if_icmp .ne 7, 3) := by decide +kernel
theorem dX13_findsBracket_98 : decode cX13_findsBracket 98 = .ok (.iconst 1, 1) := by decide +kernel
theorem dX13_findsBracket_99 : decode cX13_findsBracket 99 = .ok (.goto 4, 3) := by decide +kernel
theorem dX13_findsBracket_102 : decode cX13_findsBracket 102 = .ok (.iconst 0, 1) := by decide +kernel
theorem dX13_findsBracket_103 : decode cX13_findsBracket 103 = .ok (.iastore, 1) := by decide +kernel
theorem dX13_findsBracket_104 : decode cX13_findsBracket 104 = .ok (.iinc 3 1, 3) := by decide +kernel
theorem dX13_findsBracket_107 : decode cX13_findsBracket 107 = .ok (.goto (-28), 3) := by decide +kernel
theorem dX13_findsBracket_110 : decode cX13_findsBracket 110 = .ok (.aload_n 0, 1) := by decide +kernel
theorem dX13_findsBracket_111 : decode cX13_findsBracket 111 = .ok (.iload_n 1, 1) := by decide +kernel
theorem dX13_findsBracket_112 : decode cX13_findsBracket 112 = .ok (.invokevirtual 238, 3) := by decide +kernel
theorem dX13_findsBracket_115 : decode cX13_findsBracket 115 = .ok (.istore_n 3, 1) := by decide +kernel
theorem dX13_findsBracket_116 : decode cX13_findsBracket 116 = .ok (.iload_n 3, 1) := by decide +kernel
theorem dX13_findsBracket_117 : decode cX13_findsBracket 117 = .ok (.iconst 1, 1) := by decide +kernel
theorem dX13_findsBracket_118 : decode cX13_findsBracket 118 = .ok (.if_icmp .le 13, 3) := by decide +kernel
theorem dX13_findsBracket_121 : decode cX13_findsBracket 121 = .ok (.aload_n 0, 1) := by decide +kernel
theorem dX13_findsBracket_122 : decode cX13_findsBracket 122 = .ok (.invokevirtual 241, 3) := by decide +kernel
theorem dX13_findsBracket_125 : decode cX13_findsBracket 125 = .ok (.iinc 3 (-1), 3) := by decide +kernel
theorem dX13_findsBracket_128 : decode cX13_findsBracket 128 = .ok (.goto (-12), 3) := by decide +kernel
theorem dX13_findsBracket_131 : decode cX13_findsBracket 131 = .ok (.iconst 0, 1) := by decide +kernel
theorem dX13_findsBracket_132 : decode cX13_findsBracket 132 = .ok (.istore_n 3, 1) := by decide +kernel
theorem dX13_findsBracket_133 : decode cX13_findsBracket 133 = .ok (.iload_n 3, 1) := by decide +kernel
theorem dX13_findsBracket_134 : decode cX13_findsBracket 134 = .ok (.bipush 101, 2) := by decide +kernel
theorem dX13_findsBracket_136 : decode cX13_findsBracket 136 = .ok (.if_icmp .ge 24, 3) := by decide +kernel
theorem dX13_findsBracket_139 : decode cX13_findsBracket 139 = .ok (.aload_n 0, 1) := by decide +kernel
theorem dX13_findsBracket_140 : decode cX13_findsBracket 140 = .ok (.getfield 37, 3) := by decide +kernel
theorem dX13_findsBracket_143 : decode cX13_findsBracket 143 = .ok (.iload_n 3, 1) := by decide +kernel
theorem dX13_findsBracket_144 : decode cX13_findsBracket 144 = .ok (.dup2, 1) := by decide +kernel
theorem dX13_findsBracket_145 : decode cX13_findsBracket 145 = .ok (.iaload, 1) := by decide +kernel
theorem dX13_findsBracket_146 : decode cX13_findsBracket 146 = .ok (.aload_n 0, 1) := by decide +kernel
theorem dX13_findsBracket_147 : decode cX13_findsBracket 147 = .ok (.getfield 43, 3) := by decide +kernel
theorem dX13_findsBracket_150 : decode cX13_findsBracket 150 = .ok (.iload_n 3, 1) := by decide +kernel
theorem dX13_findsBracket_151 : decode cX13_findsBracket 151 = .ok (.iaload, 1) := by decide +kernel
theorem dX13_findsBracket_152 : decode cX13_findsBracket 152 = .ok (.iadd, 1) := by decide +kernel
theorem dX13_findsBracket_153 : decode cX13_findsBracket 153 = .ok (.iastore, 1) := by decide +kernel
theorem dX13_findsBracket_154 : decode cX13_findsBracket 154 = .ok (.iinc 3 1, 3) := by decide +kernel
theorem dX13_findsBracket_157 : decode cX13_findsBracket 157 = .ok (.goto (-24), 3) := by decide +kernel
theorem dX13_findsBracket_160 : decode cX13_findsBracket 160 = .ok (.iinc 1 1, 3) := by decide +kernel
theorem dX13_findsBracket_163 : decode cX13_findsBracket 163 = .ok (.goto (-136), 3) := by decide +kernel
theorem dX13_findsBracket_166 : decode cX13_findsBracket 166 = .ok (.return_, 1) := by decide +kernel
theorem dX13_findsNormal_0 : decode cX13_findsNormal 0 = .ok (.aload_n 0, 1) := by decide +kernel
theorem dX13_findsNormal_1 : decode cX13_findsNormal 1 = .ok (.invokevirtual 244, 3) := by decide +kernel
theorem dX13_findsNormal_4 : decode cX13_findsNormal 4 = .ok (.iconst 3, 1) := by decide +kernel
theorem dX13_findsNormal_5 : decode cX13_findsNormal 5 = .ok (.aload_n 0, 1) := by decide +kernel
theorem dX13_findsNormal_6 : decode cX13_findsNormal 6 = .ok (.invokevirtual 170, 3) := by decide +kernel
theorem dX13_findsNormal_9 : decode cX13_findsNormal 9 = .ok (.imul, 1) := by decide +kernel
theorem dX13_findsNormal_10 : decode cX13_findsNormal 10 = .ok (.istore_n 1, 1) := by decide +kernel
theorem dX13_findsNormal_11 : decode cX13_findsNormal 11 = .ok (.iconst 0, 1) := by decide +kernel
theorem dX13_findsNormal_12 : decode cX13_findsNormal 12 = .ok (.istore_n 2, 1) := by decide +kernel
theorem dX13_findsNormal_13 : decode cX13_findsNormal 13 = .ok (.iload_n 2, 1) := by decide +kernel
theorem dX13_findsNormal_14 : decode cX13_findsNormal 14 = .ok (.bipush 101, 2) := by decide +kernel
theorem dX13_findsNormal_16 : decode cX13_findsNormal 16 = .ok (.if_icmp .ge 58, 3) := by decide +kernel
theorem dX13_findsNormal_19 : decode cX13_findsNormal 19 = .ok (.iload_n 2, 1) := by decide +kernel
theorem dX13_findsNormal_20 : decode cX13_findsNormal 20 = .ok (.iload_n 1, 1) := by decide +kernel
theorem dX13_findsNormal_21 : decode cX13_findsNormal 21 = .ok (.iadd, 1) := by decide +kernel
theorem dX13_findsNormal_22 : decode cX13_findsNormal 22 = .ok (.istore_n 3, 1) := by decide +kernel
theorem dX13_findsNormal_23 : decode cX13_findsNormal 23 = .ok (.iload_n 3, 1) := by decide +kernel
theorem dX13_findsNormal_24 : decode cX13_findsNormal 24 = .ok (.iconst 0, 1) := by decide +kernel
theorem dX13_findsNormal_25 : decode cX13_findsNormal 25 = .ok (.bipush 100, 2) := by decide +kernel
theorem dX13_findsNormal_27 : decode cX13_findsNormal 27 = .ok (.invokestatic 107, 3) := by decide +kernel
theorem dX13_findsNormal_30 : decode cX13_findsNormal 30 = .ok (.ifCond .eq 12, 3) := by decide +kernel
theorem dX13_findsNormal_33 : decode cX13_findsNormal 33 = .ok (.aload_n 0, 1) := by decide +kernel
theorem dX13_findsNormal_34 : decode cX13_findsNormal 34 = .ok (.getfield 37, 3) := by decide +kernel
theorem dX13_findsNormal_37 : decode cX13_findsNormal 37 = .ok (.iload_n 3, 1) := by decide +kernel
theorem dX13_findsNormal_38 : decode cX13_findsNormal 38 = .ok (.iaload, 1) := by decide +kernel
theorem dX13_findsNormal_39 : decode cX13_findsNormal 39 = .ok (.goto 4, 3) := by decide +kernel
theorem dX13_findsNormal_42 : decode cX13_findsNormal 42 = .ok (.iconst 0, 1) := by decide +kernel
theorem dX13_findsNormal_43 : decode cX13_findsNormal 43 = .ok (.istore 4, 2) := by decide +kernel
theorem dX13_findsNormal_45 : decode cX13_findsNormal 45 = .ok (.aload_n 0, 1) := by decide +kernel
theorem dX13_findsNormal_46 : decode cX13_findsNormal 46 = .ok (.getfield 40, 3) := by decide +kernel
theorem dX13_findsNormal_49 : decode cX13_findsNormal 49 = .ok (.iload_n 2, 1) := by decide +kernel
theorem dX13_findsNormal_50 : decode cX13_findsNormal 50 = .ok (.aload_n 0, 1) := by decide +kernel
theorem dX13_findsNormal_51 : decode cX13_findsNormal 51 = .ok (.invokevirtual 170, 3) := by decide +kernel
theorem dX13_findsNormal_54 : decode cX13_findsNormal 54 = .ok (.iconst 2, 1) := by decide +kernel
theorem dX13_findsNormal_55 : decode cX13_findsNormal 55 = .ok (.irem, 1) := by decide +kernel
theorem dX13_findsNormal_56 : decode cX13_findsNormal 56 = .ok (.ifCond .ne 8, 3) := by decide +kernel
theorem dX13_findsNormal_59 : decode cX13_findsNormal 59 = .ok (.iload 4, 2) := by decide +kernel
theorem dX13_findsNormal_61 : decode cX13_findsNormal 61 = .ok (.goto 6, 3) := by decide +kernel
theorem dX13_findsNormal_64 : decode cX13_findsNormal 64 = .ok (.iload 4, 2) := by decide +kernel
theorem dX13_findsNormal_66 : decode cX13_findsNormal 66 = .ok (.ineg, 1) := by decide +kernel
theorem dX13_findsNormal_67 : decode cX13_findsNormal 67 = .ok (.iastore, 1) := by decide +kernel
theorem dX13_findsNormal_68 : decode cX13_findsNormal 68 = .ok (.iinc 2 1, 3) := by decide +kernel
theorem dX13_findsNormal_71 : decode cX13_findsNormal 71 = .ok (.goto (-58), 3) := by decide +kernel
theorem dX13_findsNormal_74 : decode cX13_findsNormal 74 = .ok (.return_, 1) := by decide +kernel
theorem dX13_isExponent_0 : decode cX13_isExponent 0 = .ok (.iload_n 0, 1) := by decide +kernel
theorem dX13_isExponent_1 : decode cX13_isExponent 1 = .ok (.bipush (-50), 2) := by decide +kernel
theorem dX13_isExponent_3 : decode cX13_isExponent 3 = .ok (.bipush 50, 2) := by decide +kernel
theorem dX13_isExponent_5 : decode cX13_isExponent 5 = .ok (.invokestatic 107, 3) := by decide +kernel
theorem dX13_isExponent_8 : decode cX13_isExponent 8 = .ok (.ireturn, 1) := by decide +kernel
theorem dX13_bracketCoefficient_0 : decode cX13_bracketCoefficient 0 = .ok (.aload_n 0, 1) := by decide +kernel
theorem dX13_bracketCoefficient_1 : decode cX13_bracketCoefficient 1 = .ok (.iconst 0, 1) := by decide +kernel
theorem dX13_bracketCoefficient_2 : decode cX13_bracketCoefficient 2 = .ok (.putfield 66, 3) := by decide +kernel
theorem dX13_bracketCoefficient_5 : decode cX13_bracketCoefficient 5 = .ok (.iload_n 1, 1) := by decide +kernel
theorem dX13_bracketCoefficient_6 : decode cX13_bracketCoefficient 6 = .ok (.invokestatic 247, 3) := by decide +kernel
theorem dX13_bracketCoefficient_9 : decode cX13_bracketCoefficient 9 = .ok (.ifCond .ne 9, 3) := by decide +kernel
theorem dX13_bracketCoefficient_12 : decode cX13_bracketCoefficient 12 = .ok (.aload_n 0, 1) := by decide +kernel
theorem dX13_bracketCoefficient_13 : decode cX13_bracketCoefficient 13 = .ok (.iconst 1, 1) := by decide +kernel
theorem dX13_bracketCoefficient_14 : decode cX13_bracketCoefficient 14 = .ok (.invokevirtual 125, 3) := by decide +kernel
theorem dX13_bracketCoefficient_17 : decode cX13_bracketCoefficient 17 = .ok (.ireturn, 1) := by decide +kernel
theorem dX13_bracketCoefficient_18 : decode cX13_bracketCoefficient 18 = .ok (.aload_n 0, 1) := by decide +kernel
theorem dX13_bracketCoefficient_19 : decode cX13_bracketCoefficient 19 = .ok (.invokevirtual 244, 3) := by decide +kernel
theorem dX13_bracketCoefficient_22 : decode cX13_bracketCoefficient 22 = .ok (.aload_n 0, 1) := by decide +kernel
theorem dX13_bracketCoefficient_23 : decode cX13_bracketCoefficient 23 = .ok (.getfield 37, 3) := by decide +kernel
theorem dX13_bracketCoefficient_26 : decode cX13_bracketCoefficient 26 = .ok (.bipush 50, 2) := by decide +kernel
theorem dX13_bracketCoefficient_28 : decode cX13_bracketCoefficient 28 = .ok (.iload_n 1, 1) := by decide +kernel
theorem dX13_bracketCoefficient_29 : decode cX13_bracketCoefficient 29 = .ok (.iadd, 1) := by decide +kernel
theorem dX13_bracketCoefficient_30 : decode cX13_bracketCoefficient 30 = .ok (.iaload, 1) := by decide +kernel
theorem dX13_bracketCoefficient_31 : decode cX13_bracketCoefficient 31 = .ok (.ireturn, 1) := by decide +kernel
theorem dX13_bracketCoefficientByResolving_0 : decode cX13_bracketCoefficientByResolving 0 = .ok (.aload_n 0, 1) := by decide +kernel
theorem dX13_bracketCoefficientByResolving_1 : decode cX13_bracketCoefficientByResolving 1 = .ok (.iload_n 1, 1) := by decide +kernel
theorem dX13_bracketCoefficientByResolving_2 : decode cX13_bracketCoefficientByResolving 2 = .ok (.invokevirtual 250, 3) := by decide +kernel
theorem dX13_bracketCoefficientByResolving_5 : decode cX13_bracketCoefficientByResolving 5 = .ok (.ireturn, 1) := by decide +kernel
theorem dX13_coefficient_0 : decode cX13_coefficient 0 = .ok (.aload_n 0, 1) := by decide +kernel
theorem dX13_coefficient_1 : decode cX13_coefficient 1 = .ok (.iconst 0, 1) := by decide +kernel
theorem dX13_coefficient_2 : decode cX13_coefficient 2 = .ok (.putfield 66, 3) := by decide +kernel
theorem dX13_coefficient_5 : decode cX13_coefficient 5 = .ok (.iload_n 1, 1) := by decide +kernel
theorem dX13_coefficient_6 : decode cX13_coefficient 6 = .ok (.invokestatic 247, 3) := by decide +kernel
theorem dX13_coefficient_9 : decode cX13_coefficient 9 = .ok (.ifCond .ne 9, 3) := by decide +kernel
theorem dX13_coefficient_12 : decode cX13_coefficient 12 = .ok (.aload_n 0, 1) := by decide +kernel
theorem dX13_coefficient_13 : decode cX13_coefficient 13 = .ok (.iconst 1, 1) := by decide +kernel
theorem dX13_coefficient_14 : decode cX13_coefficient 14 = .ok (.invokevirtual 125, 3) := by decide +kernel
theorem dX13_coefficient_17 : decode cX13_coefficient 17 = .ok (.ireturn, 1) := by decide +kernel
theorem dX13_coefficient_18 : decode cX13_coefficient 18 = .ok (.aload_n 0, 1) := by decide +kernel
theorem dX13_coefficient_19 : decode cX13_coefficient 19 = .ok (.invokevirtual 253, 3) := by decide +kernel
theorem dX13_coefficient_22 : decode cX13_coefficient 22 = .ok (.aload_n 0, 1) := by decide +kernel
theorem dX13_coefficient_23 : decode cX13_coefficient 23 = .ok (.getfield 40, 3) := by decide +kernel
theorem dX13_coefficient_26 : decode cX13_coefficient 26 = .ok (.bipush 50, 2) := by decide +kernel
theorem dX13_coefficient_28 : decode cX13_coefficient 28 = .ok (.iload_n 1, 1) := by decide +kernel
theorem dX13_coefficient_29 : decode cX13_coefficient 29 = .ok (.iadd, 1) := by decide +kernel
theorem dX13_coefficient_30 : decode cX13_coefficient 30 = .ok (.iaload, 1) := by decide +kernel
theorem dX13_coefficient_31 : decode cX13_coefficient 31 = .ok (.ireturn, 1) := by decide +kernel
theorem dX13_lowestExponent_0 : decode cX13_lowestExponent 0 = .ok (.aload_n 0, 1) := by decide +kernel
theorem dX13_lowestExponent_1 : decode cX13_lowestExponent 1 = .ok (.iconst 0, 1) := by decide +kernel
theorem dX13_lowestExponent_2 : decode cX13_lowestExponent 2 = .ok (.putfield 66, 3) := by decide +kernel
theorem dX13_lowestExponent_5 : decode cX13_lowestExponent 5 = .ok (.aload_n 0, 1) := by decide +kernel
theorem dX13_lowestExponent_6 : decode cX13_lowestExponent 6 = .ok (.invokevirtual 253, 3) := by decide +kernel
theorem dX13_lowestExponent_9 : decode cX13_lowestExponent 9 = .ok (.iconst 0, 1) := by decide +kernel
theorem dX13_lowestExponent_10 : decode cX13_lowestExponent 10 = .ok (.istore_n 1, 1) := by decide +kernel
theorem dX13_lowestExponent_11 : decode cX13_lowestExponent 11 = .ok (.aload_n 0, 1) := by decide +kernel
theorem dX13_lowestExponent_12 : decode cX13_lowestExponent 12 = .ok (.getfield 40, 3) := by decide +kernel
theorem dX13_lowestExponent_15 : decode cX13_lowestExponent 15 = .ok (.iload_n 1, 1) := by decide +kernel
theorem dX13_lowestExponent_16 : decode cX13_lowestExponent 16 = .ok (.iaload, 1) := by decide +kernel
theorem dX13_lowestExponent_17 : decode cX13_lowestExponent 17 = .ok (.ifCond .ne 9, 3) := by decide +kernel
theorem dX13_lowestExponent_20 : decode cX13_lowestExponent 20 = .ok (.iinc 1 1, 3) := by decide +kernel
theorem dX13_lowestExponent_23 : decode cX13_lowestExponent 23 = .ok (.goto (-12), 3) := by decide +kernel
theorem dX13_lowestExponent_26 : decode cX13_lowestExponent 26 = .ok (.iload_n 1, 1) := by decide +kernel
theorem dX13_lowestExponent_27 : decode cX13_lowestExponent 27 = .ok (.bipush 50, 2) := by decide +kernel
theorem dX13_lowestExponent_29 : decode cX13_lowestExponent 29 = .ok (.isub, 1) := by decide +kernel
theorem dX13_lowestExponent_30 : decode cX13_lowestExponent 30 = .ok (.ireturn, 1) := by decide +kernel
theorem dX13_highestExponent_0 : decode cX13_highestExponent 0 = .ok (.aload_n 0, 1) := by decide +kernel
theorem dX13_highestExponent_1 : decode cX13_highestExponent 1 = .ok (.iconst 0, 1) := by decide +kernel
theorem dX13_highestExponent_2 : decode cX13_highestExponent 2 = .ok (.putfield 66, 3) := by decide +kernel
theorem dX13_highestExponent_5 : decode cX13_highestExponent 5 = .ok (.aload_n 0, 1) := by decide +kernel
theorem dX13_highestExponent_6 : decode cX13_highestExponent 6 = .ok (.invokevirtual 253, 3) := by decide +kernel
theorem dX13_highestExponent_9 : decode cX13_highestExponent 9 = .ok (.bipush 100, 2) := by decide +kernel
theorem dX13_highestExponent_11 : decode cX13_highestExponent 11 = .ok (.istore_n 1, 1) := by decide +kernel
theorem dX13_highestExponent_12 : decode cX13_highestExponent 12 = .ok (.aload_n 0, 1) := by decide +kernel
theorem dX13_highestExponent_13 : decode cX13_highestExponent 13 = .ok (.getfield 40, 3) := by decide +kernel
theorem dX13_highestExponent_16 : decode cX13_highestExponent 16 = .ok (.iload_n 1, 1) := by decide +kernel
theorem dX13_highestExponent_17 : decode cX13_highestExponent 17 = .ok (.iaload, 1) := by decide +kernel
theorem dX13_highestExponent_18 : decode cX13_highestExponent 18 = .ok (.ifCond .ne 9, 3) := by decide +kernel
theorem dX13_highestExponent_21 : decode cX13_highestExponent 21 = .ok (.iinc 1 (-1), 3) := by decide +kernel
theorem dX13_highestExponent_24 : decode cX13_highestExponent 24 = .ok (.goto (-12), 3) := by decide +kernel
theorem dX13_highestExponent_27 : decode cX13_highestExponent 27 = .ok (.iload_n 1, 1) := by decide +kernel
theorem dX13_highestExponent_28 : decode cX13_highestExponent 28 = .ok (.bipush 50, 2) := by decide +kernel
theorem dX13_highestExponent_30 : decode cX13_highestExponent 30 = .ok (.isub, 1) := by decide +kernel
theorem dX13_highestExponent_31 : decode cX13_highestExponent 31 = .ok (.ireturn, 1) := by decide +kernel
theorem dX13_isPolynomialTrivial_0 : decode cX13_isPolynomialTrivial 0 = .ok (.aload_n 0, 1) := by decide +kernel
theorem dX13_isPolynomialTrivial_1 : decode cX13_isPolynomialTrivial 1 = .ok (.iconst 0, 1) := by decide +kernel
theorem dX13_isPolynomialTrivial_2 : decode cX13_isPolynomialTrivial 2 = .ok (.putfield 66, 3) := by decide +kernel
theorem dX13_isPolynomialTrivial_5 : decode cX13_isPolynomialTrivial 5 = .ok (.aload_n 0, 1) := by decide +kernel
theorem dX13_isPolynomialTrivial_6 : decode cX13_isPolynomialTrivial 6 = .ok (.invokevirtual 253, 3) := by decide +kernel
theorem dX13_isPolynomialTrivial_9 : decode cX13_isPolynomialTrivial 9 = .ok (.iconst 0, 1) := by decide +kernel
theorem dX13_isPolynomialTrivial_10 : decode cX13_isPolynomialTrivial 10 = .ok (.istore_n 1, 1) := by decide +kernel
theorem dX13_isPolynomialTrivial_11 : decode cX13_isPolynomialTrivial 11 = .ok (.iload_n 1, 1) := by decide +kernel
theorem dX13_isPolynomialTrivial_12 : decode cX13_isPolynomialTrivial 12 = .ok (.bipush 101, 2) := by decide +kernel
theorem dX13_isPolynomialTrivial_14 : decode cX13_isPolynomialTrivial 14 = .ok (.if_icmp .ge 31, 3) := by decide +kernel
theorem dX13_isPolynomialTrivial_17 : decode cX13_isPolynomialTrivial 17 = .ok (.aload_n 0, 1) := by decide +kernel
theorem dX13_isPolynomialTrivial_18 : decode cX13_isPolynomialTrivial 18 = .ok (.getfield 40, 3) := by decide +kernel
theorem dX13_isPolynomialTrivial_21 : decode cX13_isPolynomialTrivial 21 = .ok (.iload_n 1, 1) := by decide +kernel
theorem dX13_isPolynomialTrivial_22 : decode cX13_isPolynomialTrivial 22 = .ok (.iaload, 1) := by decide +kernel
theorem dX13_isPolynomialTrivial_23 : decode cX13_isPolynomialTrivial 23 = .ok (.iload_n 1, 1) := by decide +kernel
theorem dX13_isPolynomialTrivial_24 : decode cX13_isPolynomialTrivial 24 = .ok (.bipush 50, 2) := by decide +kernel
theorem dX13_isPolynomialTrivial_26 : decode cX13_isPolynomialTrivial 26 = .ok (.if_icmp .ne 7, 3) := by decide +kernel
theorem dX13_isPolynomialTrivial_29 : decode cX13_isPolynomialTrivial 29 = .ok (.iconst 1, 1) := by decide +kernel
theorem dX13_isPolynomialTrivial_30 : decode cX13_isPolynomialTrivial 30 = .ok (.goto 4, 3) := by decide +kernel
theorem dX13_isPolynomialTrivial_33 : decode cX13_isPolynomialTrivial 33 = .ok (.iconst 0, 1) := by decide +kernel
theorem dX13_isPolynomialTrivial_34 : decode cX13_isPolynomialTrivial 34 = .ok (.if_icmp .eq 5, 3) := by decide +kernel
theorem dX13_isPolynomialTrivial_37 : decode cX13_isPolynomialTrivial 37 = .ok (.iconst 0, 1) := by decide +kernel
theorem dX13_isPolynomialTrivial_38 : decode cX13_isPolynomialTrivial 38 = .ok (.ireturn, 1) := by decide +kernel
theorem dX13_isPolynomialTrivial_39 : decode cX13_isPolynomialTrivial 39 = .ok (.iinc 1 1, 3) := by decide +kernel
theorem dX13_isPolynomialTrivial_42 : decode cX13_isPolynomialTrivial 42 = .ok (.goto (-31), 3) := by decide +kernel
theorem dX13_isPolynomialTrivial_45 : decode cX13_isPolynomialTrivial 45 = .ok (.iconst 1, 1) := by decide +kernel
theorem dX13_isPolynomialTrivial_46 : decode cX13_isPolynomialTrivial 46 = .ok (.ireturn, 1) := by decide +kernel
theorem dX13_power_0 : decode cX13_power 0 = .ok (.dconst 1, 1) := by decide +kernel
theorem dX13_power_1 : decode cX13_power 1 = .ok (.dstore_n 1, 1) := by decide +kernel
theorem dX13_power_2 : decode cX13_power 2 = .ok (.iconst 0, 1) := by decide +kernel
theorem dX13_power_3 : decode cX13_power 3 = .ok (.istore_n 3, 1) := by decide +kernel
theorem dX13_power_4 : decode cX13_power 4 = .ok (.iload_n 3, 1) := by decide +kernel
theorem dX13_power_5 : decode cX13_power 5 = .ok (.iload_n 0, 1) := by decide +kernel
theorem dX13_power_6 : decode cX13_power 6 = .ok (.if_icmp .ge 15, 3) := by decide +kernel
theorem dX13_power_9 : decode cX13_power 9 = .ok (.dload_n 1, 1) := by decide +kernel
theorem dX13_power_10 : decode cX13_power 10 = .ok (.ldc2_w 256, 3) := by decide +kernel
theorem dX13_power_13 : decode cX13_power 13 = .ok (.dmul, 1) := by decide +kernel
theorem dX13_power_14 : decode cX13_power 14 = .ok (.dstore_n 1, 1) := by decide +kernel
theorem dX13_power_15 : decode cX13_power 15 = .ok (.iinc 3 1, 3) := by decide +kernel
theorem dX13_power_18 : decode cX13_power 18 = .ok (.goto (-14), 3) := by decide +kernel
theorem dX13_power_21 : decode cX13_power 21 = .ok (.iload_n 0, 1) := by decide +kernel
theorem dX13_power_22 : decode cX13_power 22 = .ok (.istore_n 3, 1) := by decide +kernel
theorem dX13_power_23 : decode cX13_power 23 = .ok (.iload_n 3, 1) := by decide +kernel
theorem dX13_power_24 : decode cX13_power 24 = .ok (.ifCond .ge 15, 3) := by decide +kernel
theorem dX13_power_27 : decode cX13_power 27 = .ok (.dload_n 1, 1) := by decide +kernel
theorem dX13_power_28 : decode cX13_power 28 = .ok (.ldc2_w 258, 3) := by decide +kernel
theorem dX13_power_31 : decode cX13_power 31 = .ok (.dmul, 1) := by decide +kernel
theorem dX13_power_32 : decode cX13_power 32 = .ok (.dstore_n 1, 1) := by decide +kernel
theorem dX13_power_33 : decode cX13_power 33 = .ok (.iinc 3 1, 3) := by decide +kernel
theorem dX13_power_36 : decode cX13_power 36 = .ok (.goto (-13), 3) := by decide +kernel
theorem dX13_power_39 : decode cX13_power 39 = .ok (.dload_n 1, 1) := by decide +kernel
theorem dX13_power_40 : decode cX13_power 40 = .ok (.dreturn, 1) := by decide +kernel
theorem dX13_value_0 : decode cX13_value 0 = .ok (.aload_n 0, 1) := by decide +kernel
theorem dX13_value_1 : decode cX13_value 1 = .ok (.iconst 0, 1) := by decide +kernel
theorem dX13_value_2 : decode cX13_value 2 = .ok (.putfield 66, 3) := by decide +kernel
theorem dX13_value_5 : decode cX13_value 5 = .ok (.aload_n 0, 1) := by decide +kernel
theorem dX13_value_6 : decode cX13_value 6 = .ok (.invokevirtual 253, 3) := by decide +kernel
theorem dX13_value_9 : decode cX13_value 9 = .ok (.dconst 0, 1) := by decide +kernel
theorem dX13_value_10 : decode cX13_value 10 = .ok (.dstore_n 2, 1) := by decide +kernel
theorem dX13_value_11 : decode cX13_value 11 = .ok (.iconst 0, 1) := by decide +kernel
theorem dX13_value_12 : decode cX13_value 12 = .ok (.istore 4, 2) := by decide +kernel
theorem dX13_value_14 : decode cX13_value 14 = .ok (.iload 4, 2) := by decide +kernel
theorem dX13_value_16 : decode cX13_value 16 = .ok (.bipush 101, 2) := by decide +kernel
theorem dX13_value_18 : decode cX13_value 18 = .ok (.if_icmp .ge 51, 3) := by decide +kernel
theorem dX13_value_21 : decode cX13_value 21 = .ok (.aload_n 0, 1) := by decide +kernel
theorem dX13_value_22 : decode cX13_value 22 = .ok (.getfield 40, 3) := by decide +kernel
theorem dX13_value_25 : decode cX13_value 25 = .ok (.iload 4, 2) := by decide +kernel
theorem dX13_value_27 : decode cX13_value 27 = .ok (.iaload, 1) := by decide +kernel
theorem dX13_value_28 : decode cX13_value 28 = .ok (.ifCond .eq 35, 3) := by decide +kernel
theorem dX13_value_31 : decode cX13_value 31 = .ok (.dload_n 2, 1) := by decide +kernel
theorem dX13_value_32 : decode cX13_value 32 = .ok (.aload_n 0, 1) := by decide +kernel
theorem dX13_value_33 : decode cX13_value 33 = .ok (.getfield 40, 3) := by decide +kernel
theorem dX13_value_36 : decode cX13_value 36 = .ok (.iload 4, 2) := by decide +kernel
theorem dX13_value_38 : decode cX13_value 38 = .ok (.iaload, 1) := by decide +kernel
theorem dX13_value_39 : decode cX13_value 39 = .ok (.i2d, 1) := by decide +kernel
theorem dX13_value_40 : decode cX13_value 40 = .ok (.iload_n 1, 1) := by decide +kernel
theorem dX13_value_41 : decode cX13_value 41 = .ok (.ifCond .eq 11, 3) := by decide +kernel
theorem dX13_value_44 : decode cX13_value 44 = .ok (.iload 4, 2) := by decide +kernel
theorem dX13_value_46 : decode cX13_value 46 = .ok (.bipush 50, 2) := by decide +kernel
theorem dX13_value_48 : decode cX13_value 48 = .ok (.isub, 1) := by decide +kernel
theorem dX13_value_49 : decode cX13_value 49 = .ok (.goto 8, 3) := by decide +kernel
theorem dX13_value_52 : decode cX13_value 52 = .ok (.bipush 50, 2) := by decide +kernel
theorem dX13_value_54 : decode cX13_value 54 = .ok (.iload 4, 2) := by decide +kernel
theorem dX13_value_56 : decode cX13_value 56 = .ok (.isub, 1) := by decide +kernel
theorem dX13_value_57 : decode cX13_value 57 = .ok (.invokestatic 260, 3) := by decide +kernel
theorem dX13_value_60 : decode cX13_value 60 = .ok (.dmul, 1) := by decide +kernel
theorem dX13_value_61 : decode cX13_value 61 = .ok (.dadd, 1) := by decide +kernel
theorem dX13_value_62 : decode cX13_value 62 = .ok (.dstore_n 2, 1) := by decide +kernel
theorem dX13_value_63 : decode cX13_value 63 = .ok (.iinc 4 1, 3) := by decide +kernel
theorem dX13_value_66 : decode cX13_value 66 = .ok (.goto (-52), 3) := by decide +kernel
theorem dX13_value_69 : decode cX13_value 69 = .ok (.dload_n 2, 1) := by decide +kernel
theorem dX13_value_70 : decode cX13_value 70 = .ok (.dreturn, 1) := by decide +kernel
theorem dX13_unknots_0 : decode cX13_unknots 0 = .ok (.aload_n 0, 1) := by decide +kernel
theorem dX13_unknots_1 : decode cX13_unknots 1 = .ok (.invokevirtual 111, 3) := by decide +kernel
theorem dX13_unknots_4 : decode cX13_unknots 4 = .ok (.iconst 0, 1) := by decide +kernel
theorem dX13_unknots_5 : decode cX13_unknots 5 = .ok (.istore_n 2, 1) := by decide +kernel
theorem dX13_unknots_6 : decode cX13_unknots 6 = .ok (.iload_n 2, 1) := by decide +kernel
theorem dX13_unknots_7 : decode cX13_unknots 7 = .ok (.aload_n 0, 1) := by decide +kernel
theorem dX13_unknots_8 : decode cX13_unknots 8 = .ok (.getfield 81, 3) := by decide +kernel
theorem dX13_unknots_11 : decode cX13_unknots 11 = .ok (.if_icmp .ge 23, 3) := by decide +kernel
theorem dX13_unknots_14 : decode cX13_unknots 14 = .ok (.iload_n 1, 1) := by decide +kernel
theorem dX13_unknots_15 : decode cX13_unknots 15 = .ok (.iload_n 2, 1) := by decide +kernel
theorem dX13_unknots_16 : decode cX13_unknots 16 = .ok (.ishr, 1) := by decide +kernel
theorem dX13_unknots_17 : decode cX13_unknots 17 = .ok (.iconst 1, 1) := by decide +kernel
theorem dX13_unknots_18 : decode cX13_unknots 18 = .ok (.iand, 1) := by decide +kernel
theorem dX13_unknots_19 : decode cX13_unknots 19 = .ok (.iconst 1, 1) := by decide +kernel
theorem dX13_unknots_20 : decode cX13_unknots 20 = .ok (.if_icmp .ne 8, 3) := by decide +kernel
theorem dX13_unknots_23 : decode cX13_unknots 23 = .ok (.aload_n 0, 1) := by decide +kernel
theorem dX13_unknots_24 : decode cX13_unknots 24 = .ok (.iload_n 2, 1) := by decide +kernel
theorem dX13_unknots_25 : decode cX13_unknots 25 = .ok (.invokevirtual 161, 3) := by decide +kernel
theorem dX13_unknots_28 : decode cX13_unknots 28 = .ok (.iinc 2 1, 3) := by decide +kernel
theorem dX13_unknots_31 : decode cX13_unknots 31 = .ok (.goto (-25), 3) := by decide +kernel
theorem dX13_unknots_34 : decode cX13_unknots 34 = .ok (.aload_n 0, 1) := by decide +kernel
theorem dX13_unknots_35 : decode cX13_unknots 35 = .ok (.invokevirtual 189, 3) := by decide +kernel
theorem dX13_unknots_38 : decode cX13_unknots 38 = .ok (.aload_n 0, 1) := by decide +kernel
theorem dX13_unknots_39 : decode cX13_unknots 39 = .ok (.getfield 81, 3) := by decide +kernel
theorem dX13_unknots_42 : decode cX13_unknots 42 = .ok (.ifCond .ne 7, 3) := by decide +kernel
theorem dX13_unknots_45 : decode cX13_unknots 45 = .ok (.iconst 1, 1) := by decide +kernel
theorem dX13_unknots_46 : decode cX13_unknots 46 = .ok (.goto 4, 3) := by decide +kernel
theorem dX13_unknots_49 : decode cX13_unknots 49 = .ok (.iconst 0, 1) := by decide +kernel
theorem dX13_unknots_50 : decode cX13_unknots 50 = .ok (.ireturn, 1) := by decide +kernel
theorem dX13_many_0 : decode cX13_many 0 = .ok (.iconst 0, 1) := by decide +kernel
theorem dX13_many_1 : decode cX13_many 1 = .ok (.istore_n 1, 1) := by decide +kernel
theorem dX13_many_2 : decode cX13_many 2 = .ok (.iload_n 0, 1) := by decide +kernel
theorem dX13_many_3 : decode cX13_many 3 = .ok (.istore_n 2, 1) := by decide +kernel
theorem dX13_many_4 : decode cX13_many 4 = .ok (.iload_n 2, 1) := by decide +kernel
theorem dX13_many_5 : decode cX13_many 5 = .ok (.ifCond .le 16, 3) := by decide +kernel
theorem dX13_many_8 : decode cX13_many 8 = .ok (.iload_n 1, 1) := by decide +kernel
theorem dX13_many_9 : decode cX13_many 9 = .ok (.iload_n 2, 1) := by decide +kernel
theorem dX13_many_10 : decode cX13_many 10 = .ok (.iconst 2, 1) := by decide +kernel
theorem dX13_many_11 : decode cX13_many 11 = .ok (.irem, 1) := by decide +kernel
theorem dX13_many_12 : decode cX13_many 12 = .ok (.iadd, 1) := by decide +kernel
theorem dX13_many_13 : decode cX13_many 13 = .ok (.istore_n 1, 1) := by decide +kernel
theorem dX13_many_14 : decode cX13_many 14 = .ok (.iload_n 2, 1) := by decide +kernel
theorem dX13_many_15 : decode cX13_many 15 = .ok (.iconst 2, 1) := by decide +kernel
theorem dX13_many_16 : decode cX13_many 16 = .ok (.idiv, 1) := by decide +kernel
theorem dX13_many_17 : decode cX13_many 17 = .ok (.istore_n 2, 1) := by decide +kernel
theorem dX13_many_18 : decode cX13_many 18 = .ok (.goto (-14), 3) := by decide +kernel
theorem dX13_many_21 : decode cX13_many 21 = .ok (.iload_n 1, 1) := by decide +kernel
theorem dX13_many_22 : decode cX13_many 22 = .ok (.ireturn, 1) := by decide +kernel
theorem dX13_smallest_0 : decode cX13_smallest 0 = .ok (.iconst (-1), 1) := by decide +kernel
theorem dX13_smallest_1 : decode cX13_smallest 1 = .ok (.istore_n 1, 1) := by decide +kernel
theorem dX13_smallest_2 : decode cX13_smallest 2 = .ok (.iconst 1, 1) := by decide +kernel
theorem dX13_smallest_3 : decode cX13_smallest 3 = .ok (.aload_n 0, 1) := by decide +kernel
theorem dX13_smallest_4 : decode cX13_smallest 4 = .ok (.getfield 7, 3) := by decide +kernel
theorem dX13_smallest_7 : decode cX13_smallest 7 = .ok (.iconst 0, 1) := by decide +kernel
theorem dX13_smallest_8 : decode cX13_smallest 8 = .ok (.iaload, 1) := by decide +kernel
theorem dX13_smallest_9 : decode cX13_smallest 9 = .ok (.ishl, 1) := by decide +kernel
theorem dX13_smallest_10 : decode cX13_smallest 10 = .ok (.istore_n 2, 1) := by decide +kernel
theorem dX13_smallest_11 : decode cX13_smallest 11 = .ok (.iconst 0, 1) := by decide +kernel
theorem dX13_smallest_12 : decode cX13_smallest 12 = .ok (.istore_n 3, 1) := by decide +kernel
theorem dX13_smallest_13 : decode cX13_smallest 13 = .ok (.iload_n 3, 1) := by decide +kernel
theorem dX13_smallest_14 : decode cX13_smallest 14 = .ok (.iload_n 2, 1) := by decide +kernel
theorem dX13_smallest_15 : decode cX13_smallest 15 = .ok (.if_icmp .ge 34, 3) := by decide +kernel
theorem dX13_smallest_18 : decode cX13_smallest 18 = .ok (.iload_n 1, 1) := by decide +kernel
theorem dX13_smallest_19 : decode cX13_smallest 19 = .ok (.ifCond .lt 14, 3) := by decide +kernel
theorem dX13_smallest_22 : decode cX13_smallest 22 = .ok (.iload_n 3, 1) := by decide +kernel
theorem dX13_smallest_23 : decode cX13_smallest 23 = .ok (.invokestatic 264, 3) := by decide +kernel
theorem dX13_smallest_26 : decode cX13_smallest 26 = .ok (.iload_n 1, 1) := by decide +kernel
theorem dX13_smallest_27 : decode cX13_smallest 27 = .ok (.invokestatic 264, 3) := by decide +kernel
theorem dX13_smallest_30 : decode cX13_smallest 30 = .ok (.if_icmp .ge 13, 3) := by decide +kernel
theorem dX13_smallest_33 : decode cX13_smallest 33 = .ok (.aload_n 0, 1) := by decide +kernel
theorem dX13_smallest_34 : decode cX13_smallest 34 = .ok (.iload_n 3, 1) := by decide +kernel
theorem dX13_smallest_35 : decode cX13_smallest 35 = .ok (.invokevirtual 267, 3) := by decide +kernel
theorem dX13_smallest_38 : decode cX13_smallest 38 = .ok (.ifCond .eq 5, 3) := by decide +kernel
theorem dX13_smallest_41 : decode cX13_smallest 41 = .ok (.iload_n 3, 1) := by decide +kernel
theorem dX13_smallest_42 : decode cX13_smallest 42 = .ok (.istore_n 1, 1) := by decide +kernel
theorem dX13_smallest_43 : decode cX13_smallest 43 = .ok (.iinc 3 1, 3) := by decide +kernel
theorem dX13_smallest_46 : decode cX13_smallest 46 = .ok (.goto (-33), 3) := by decide +kernel
theorem dX13_smallest_49 : decode cX13_smallest 49 = .ok (.iload_n 1, 1) := by decide +kernel
theorem dX13_smallest_50 : decode cX13_smallest 50 = .ok (.ireturn, 1) := by decide +kernel
theorem dX13_isPlainlyUnknotted_0 : decode cX13_isPlainlyUnknotted 0 = .ok (.aload_n 0, 1) := by decide +kernel
theorem dX13_isPlainlyUnknotted_1 : decode cX13_isPlainlyUnknotted 1 = .ok (.iconst 0, 1) := by decide +kernel
theorem dX13_isPlainlyUnknotted_2 : decode cX13_isPlainlyUnknotted 2 = .ok (.putfield 66, 3) := by decide +kernel
theorem dX13_isPlainlyUnknotted_5 : decode cX13_isPlainlyUnknotted 5 = .ok (.aload_n 0, 1) := by decide +kernel
theorem dX13_isPlainlyUnknotted_6 : decode cX13_isPlainlyUnknotted 6 = .ok (.iconst 0, 1) := by decide +kernel
theorem dX13_isPlainlyUnknotted_7 : decode cX13_isPlainlyUnknotted 7 = .ok (.invokevirtual 267, 3) := by decide +kernel
theorem dX13_isPlainlyUnknotted_10 : decode cX13_isPlainlyUnknotted 10 = .ok (.ireturn, 1) := by decide +kernel
theorem dX13_switches_0 : decode cX13_switches 0 = .ok (.aload_n 0, 1) := by decide +kernel
theorem dX13_switches_1 : decode cX13_switches 1 = .ok (.iconst 0, 1) := by decide +kernel
theorem dX13_switches_2 : decode cX13_switches 2 = .ok (.putfield 66, 3) := by decide +kernel
theorem dX13_switches_5 : decode cX13_switches 5 = .ok (.aload_n 0, 1) := by decide +kernel
theorem dX13_switches_6 : decode cX13_switches 6 = .ok (.invokevirtual 270, 3) := by decide +kernel
theorem dX13_switches_9 : decode cX13_switches 9 = .ok (.istore_n 1, 1) := by decide +kernel
theorem dX13_switches_10 : decode cX13_switches 10 = .ok (.iload_n 1, 1) := by decide +kernel
theorem dX13_switches_11 : decode cX13_switches 11 = .ok (.ifCond .ge 11, 3) := by decide +kernel
theorem dX13_switches_14 : decode cX13_switches 14 = .ok (.aload_n 0, 1) := by decide +kernel
theorem dX13_switches_15 : decode cX13_switches 15 = .ok (.iconst 1, 1) := by decide +kernel
theorem dX13_switches_16 : decode cX13_switches 16 = .ok (.invokevirtual 125, 3) := by decide +kernel
theorem dX13_switches_19 : decode cX13_switches 19 = .ok (.goto 7, 3) := by decide +kernel
theorem dX13_switches_22 : decode cX13_switches 22 = .ok (.iload_n 1, 1) := by decide +kernel
theorem dX13_switches_23 : decode cX13_switches 23 = .ok (.invokestatic 264, 3) := by decide +kernel
theorem dX13_switches_26 : decode cX13_switches 26 = .ok (.ireturn, 1) := by decide +kernel
theorem dX13_switchesByDepth_0 : decode cX13_switchesByDepth 0 = .ok (.aload_n 0, 1) := by decide +kernel
theorem dX13_switchesByDepth_1 : decode cX13_switchesByDepth 1 = .ok (.invokevirtual 273, 3) := by decide +kernel
theorem dX13_switchesByDepth_4 : decode cX13_switchesByDepth 4 = .ok (.ireturn, 1) := by decide +kernel
theorem dX13_firstSwitch_0 : decode cX13_firstSwitch 0 = .ok (.aload_n 0, 1) := by decide +kernel
theorem dX13_firstSwitch_1 : decode cX13_firstSwitch 1 = .ok (.iconst 0, 1) := by decide +kernel
theorem dX13_firstSwitch_2 : decode cX13_firstSwitch 2 = .ok (.putfield 66, 3) := by decide +kernel
theorem dX13_firstSwitch_5 : decode cX13_firstSwitch 5 = .ok (.aload_n 0, 1) := by decide +kernel
theorem dX13_firstSwitch_6 : decode cX13_firstSwitch 6 = .ok (.invokevirtual 270, 3) := by decide +kernel
theorem dX13_firstSwitch_9 : decode cX13_firstSwitch 9 = .ok (.istore_n 1, 1) := by decide +kernel
theorem dX13_firstSwitch_10 : decode cX13_firstSwitch 10 = .ok (.iload_n 1, 1) := by decide +kernel
theorem dX13_firstSwitch_11 : decode cX13_firstSwitch 11 = .ok (.ifCond .ge 9, 3) := by decide +kernel
theorem dX13_firstSwitch_14 : decode cX13_firstSwitch 14 = .ok (.aload_n 0, 1) := by decide +kernel
theorem dX13_firstSwitch_15 : decode cX13_firstSwitch 15 = .ok (.iconst 1, 1) := by decide +kernel
theorem dX13_firstSwitch_16 : decode cX13_firstSwitch 16 = .ok (.invokevirtual 125, 3) := by decide +kernel
theorem dX13_firstSwitch_19 : decode cX13_firstSwitch 19 = .ok (.ireturn, 1) := by decide +kernel
theorem dX13_firstSwitch_20 : decode cX13_firstSwitch 20 = .ok (.iconst 0, 1) := by decide +kernel
theorem dX13_firstSwitch_21 : decode cX13_firstSwitch 21 = .ok (.istore_n 2, 1) := by decide +kernel
theorem dX13_firstSwitch_22 : decode cX13_firstSwitch 22 = .ok (.iload_n 1, 1) := by decide +kernel
theorem dX13_firstSwitch_23 : decode cX13_firstSwitch 23 = .ok (.ifCond .le 17, 3) := by decide +kernel
theorem dX13_firstSwitch_26 : decode cX13_firstSwitch 26 = .ok (.iload_n 1, 1) := by decide +kernel
theorem dX13_firstSwitch_27 : decode cX13_firstSwitch 27 = .ok (.iload_n 2, 1) := by decide +kernel
theorem dX13_firstSwitch_28 : decode cX13_firstSwitch 28 = .ok (.ishr, 1) := by decide +kernel
theorem dX13_firstSwitch_29 : decode cX13_firstSwitch 29 = .ok (.iconst 1, 1) := by decide +kernel
theorem dX13_firstSwitch_30 : decode cX13_firstSwitch 30 = .ok (.iand, 1) := by decide +kernel
theorem dX13_firstSwitch_31 : decode cX13_firstSwitch 31 = .ok (.ifCond .ne 9, 3) := by decide +kernel
theorem dX13_firstSwitch_34 : decode cX13_firstSwitch 34 = .ok (.iinc 2 1, 3) := by decide +kernel
theorem dX13_firstSwitch_37 : decode cX13_firstSwitch 37 = .ok (.goto (-15), 3) := by decide +kernel
theorem dX13_firstSwitch_40 : decode cX13_firstSwitch 40 = .ok (.iload_n 1, 1) := by decide +kernel
theorem dX13_firstSwitch_41 : decode cX13_firstSwitch 41 = .ok (.ifCond .ne 7, 3) := by decide +kernel
theorem dX13_firstSwitch_44 : decode cX13_firstSwitch 44 = .ok (.iconst (-1), 1) := by decide +kernel
theorem dX13_firstSwitch_45 : decode cX13_firstSwitch 45 = .ok (.goto 4, 3) := by decide +kernel
theorem dX13_firstSwitch_48 : decode cX13_firstSwitch 48 = .ok (.iload_n 2, 1) := by decide +kernel
theorem dX13_firstSwitch_49 : decode cX13_firstSwitch 49 = .ok (.ireturn, 1) := by decide +kernel
theorem dX13_isPlayer_0 : decode cX13_isPlayer 0 = .ok (.iload_n 1, 1) := by decide +kernel
theorem dX13_isPlayer_1 : decode cX13_isPlayer 1 = .ok (.iconst 0, 1) := by decide +kernel
theorem dX13_isPlayer_2 : decode cX13_isPlayer 2 = .ok (.aload_n 0, 1) := by decide +kernel
theorem dX13_isPlayer_3 : decode cX13_isPlayer 3 = .ok (.getfield 7, 3) := by decide +kernel
theorem dX13_isPlayer_6 : decode cX13_isPlayer 6 = .ok (.iconst 1, 1) := by decide +kernel
theorem dX13_isPlayer_7 : decode cX13_isPlayer 7 = .ok (.iaload, 1) := by decide +kernel
theorem dX13_isPlayer_8 : decode cX13_isPlayer 8 = .ok (.iconst 1, 1) := by decide +kernel
theorem dX13_isPlayer_9 : decode cX13_isPlayer 9 = .ok (.isub, 1) := by decide +kernel
theorem dX13_isPlayer_10 : decode cX13_isPlayer 10 = .ok (.invokestatic 107, 3) := by decide +kernel
theorem dX13_isPlayer_13 : decode cX13_isPlayer 13 = .ok (.ireturn, 1) := by decide +kernel
theorem dX13_notPlayer_0 : decode cX13_notPlayer 0 = .ok (.aload_n 0, 1) := by decide +kernel
theorem dX13_notPlayer_1 : decode cX13_notPlayer 1 = .ok (.getfield 7, 3) := by decide +kernel
theorem dX13_notPlayer_4 : decode cX13_notPlayer 4 = .ok (.iconst 1, 1) := by decide +kernel
theorem dX13_notPlayer_5 : decode cX13_notPlayer 5 = .ok (.iaload, 1) := by decide +kernel
theorem dX13_notPlayer_6 : decode cX13_notPlayer 6 = .ok (.iconst 4, 1) := by decide +kernel
theorem dX13_notPlayer_7 : decode cX13_notPlayer 7 = .ok (.if_icmp .ne 7, 3) := by decide +kernel
theorem dX13_notPlayer_10 : decode cX13_notPlayer 10 = .ok (.iconst 1, 1) := by decide +kernel
theorem dX13_notPlayer_11 : decode cX13_notPlayer 11 = .ok (.goto 4, 3) := by decide +kernel
theorem dX13_notPlayer_14 : decode cX13_notPlayer 14 = .ok (.iconst 0, 1) := by decide +kernel
theorem dX13_notPlayer_15 : decode cX13_notPlayer 15 = .ok (.ireturn, 1) := by decide +kernel
theorem dX13_addsPlayer_0 : decode cX13_addsPlayer 0 = .ok (.aload_n 0, 1) := by decide +kernel
theorem dX13_addsPlayer_1 : decode cX13_addsPlayer 1 = .ok (.getfield 7, 3) := by decide +kernel
theorem dX13_addsPlayer_4 : decode cX13_addsPlayer 4 = .ok (.iconst 1, 1) := by decide +kernel
theorem dX13_addsPlayer_5 : decode cX13_addsPlayer 5 = .ok (.iaload, 1) := by decide +kernel
theorem dX13_addsPlayer_6 : decode cX13_addsPlayer 6 = .ok (.istore_n 1, 1) := by decide +kernel
theorem dX13_addsPlayer_7 : decode cX13_addsPlayer 7 = .ok (.aload_n 0, 1) := by decide +kernel
theorem dX13_addsPlayer_8 : decode cX13_addsPlayer 8 = .ok (.getfield 7, 3) := by decide +kernel
theorem dX13_addsPlayer_11 : decode cX13_addsPlayer 11 = .ok (.iconst 1, 1) := by decide +kernel
theorem dX13_addsPlayer_12 : decode cX13_addsPlayer 12 = .ok (.dup2, 1) := by decide +kernel
theorem dX13_addsPlayer_13 : decode cX13_addsPlayer 13 = .ok (.iaload, 1) := by decide +kernel
theorem dX13_addsPlayer_14 : decode cX13_addsPlayer 14 = .ok (.iconst 1, 1) := by decide +kernel
theorem dX13_addsPlayer_15 : decode cX13_addsPlayer 15 = .ok (.iadd, 1) := by decide +kernel
theorem dX13_addsPlayer_16 : decode cX13_addsPlayer 16 = .ok (.iastore, 1) := by decide +kernel
theorem dX13_addsPlayer_17 : decode cX13_addsPlayer 17 = .ok (.aload_n 0, 1) := by decide +kernel
theorem dX13_addsPlayer_18 : decode cX13_addsPlayer 18 = .ok (.getfield 7, 3) := by decide +kernel
theorem dX13_addsPlayer_21 : decode cX13_addsPlayer 21 = .ok (.iconst 3, 1) := by decide +kernel
theorem dX13_addsPlayer_22 : decode cX13_addsPlayer 22 = .ok (.iload_n 1, 1) := by decide +kernel
theorem dX13_addsPlayer_23 : decode cX13_addsPlayer 23 = .ok (.iadd, 1) := by decide +kernel
theorem dX13_addsPlayer_24 : decode cX13_addsPlayer 24 = .ok (.bipush 100, 2) := by decide +kernel
theorem dX13_addsPlayer_26 : decode cX13_addsPlayer 26 = .ok (.iastore, 1) := by decide +kernel
theorem dX13_addsPlayer_27 : decode cX13_addsPlayer 27 = .ok (.iload_n 1, 1) := by decide +kernel
theorem dX13_addsPlayer_28 : decode cX13_addsPlayer 28 = .ok (.ireturn, 1) := by decide +kernel
theorem dX13_addPlayer_0 : decode cX13_addPlayer 0 = .ok (.aload_n 0, 1) := by decide +kernel
theorem dX13_addPlayer_1 : decode cX13_addPlayer 1 = .ok (.iconst 0, 1) := by decide +kernel
theorem dX13_addPlayer_2 : decode cX13_addPlayer 2 = .ok (.putfield 66, 3) := by decide +kernel
theorem dX13_addPlayer_5 : decode cX13_addPlayer 5 = .ok (.aload_n 0, 1) := by decide +kernel
theorem dX13_addPlayer_6 : decode cX13_addPlayer 6 = .ok (.invokevirtual 276, 3) := by decide +kernel
theorem dX13_addPlayer_9 : decode cX13_addPlayer 9 = .ok (.ifCond .eq 9, 3) := by decide +kernel
theorem dX13_addPlayer_12 : decode cX13_addPlayer 12 = .ok (.aload_n 0, 1) := by decide +kernel
theorem dX13_addPlayer_13 : decode cX13_addPlayer 13 = .ok (.iconst 1, 1) := by decide +kernel
theorem dX13_addPlayer_14 : decode cX13_addPlayer 14 = .ok (.invokevirtual 125, 3) := by decide +kernel
theorem dX13_addPlayer_17 : decode cX13_addPlayer 17 = .ok (.ireturn, 1) := by decide +kernel
theorem dX13_addPlayer_18 : decode cX13_addPlayer 18 = .ok (.aload_n 0, 1) := by decide +kernel
theorem dX13_addPlayer_19 : decode cX13_addPlayer 19 = .ok (.invokevirtual 128, 3) := by decide +kernel
theorem dX13_addPlayer_22 : decode cX13_addPlayer 22 = .ok (.aload_n 0, 1) := by decide +kernel
theorem dX13_addPlayer_23 : decode cX13_addPlayer 23 = .ok (.invokevirtual 279, 3) := by decide +kernel
theorem dX13_addPlayer_26 : decode cX13_addPlayer 26 = .ok (.ireturn, 1) := by decide +kernel
theorem dX13_notBet_0 : decode cX13_notBet 0 = .ok (.aload_n 0, 1) := by decide +kernel
theorem dX13_notBet_1 : decode cX13_notBet 1 = .ok (.iload_n 1, 1) := by decide +kernel
theorem dX13_notBet_2 : decode cX13_notBet 2 = .ok (.invokevirtual 282, 3) := by decide +kernel
theorem dX13_notBet_5 : decode cX13_notBet 5 = .ok (.ifCond .ne 5, 3) := by decide +kernel
theorem dX13_notBet_8 : decode cX13_notBet 8 = .ok (.iconst 1, 1) := by decide +kernel
theorem dX13_notBet_9 : decode cX13_notBet 9 = .ok (.ireturn, 1) := by decide +kernel
theorem dX13_notBet_10 : decode cX13_notBet 10 = .ok (.iload_n 2, 1) := by decide +kernel
theorem dX13_notBet_11 : decode cX13_notBet 11 = .ok (.iconst 0, 1) := by decide +kernel
theorem dX13_notBet_12 : decode cX13_notBet 12 = .ok (.bipush 7, 2) := by decide +kernel
theorem dX13_notBet_14 : decode cX13_notBet 14 = .ok (.invokestatic 107, 3) := by decide +kernel
theorem dX13_notBet_17 : decode cX13_notBet 17 = .ok (.ifCond .eq 13, 3) := by decide +kernel
theorem dX13_notBet_20 : decode cX13_notBet 20 = .ok (.iload_n 3, 1) := by decide +kernel
theorem dX13_notBet_21 : decode cX13_notBet 21 = .ok (.iconst 1, 1) := by decide +kernel
theorem dX13_notBet_22 : decode cX13_notBet 22 = .ok (.bipush 99, 2) := by decide +kernel
theorem dX13_notBet_24 : decode cX13_notBet 24 = .ok (.invokestatic 107, 3) := by decide +kernel
theorem dX13_notBet_27 : decode cX13_notBet 27 = .ok (.ifCond .ne 5, 3) := by decide +kernel
theorem dX13_notBet_30 : decode cX13_notBet 30 = .ok (.iconst 2, 1) := by decide +kernel
theorem dX13_notBet_31 : decode cX13_notBet 31 = .ok (.ireturn, 1) := by decide +kernel
theorem dX13_notBet_32 : decode cX13_notBet 32 = .ok (.aload_n 0, 1) := by decide +kernel
theorem dX13_notBet_33 : decode cX13_notBet 33 = .ok (.getfield 7, 3) := by decide +kernel
theorem dX13_notBet_36 : decode cX13_notBet 36 = .ok (.bipush 11, 2) := by decide +kernel
theorem dX13_notBet_38 : decode cX13_notBet 38 = .ok (.iload_n 1, 1) := by decide +kernel
theorem dX13_notBet_39 : decode cX13_notBet 39 = .ok (.iadd, 1) := by decide +kernel
theorem dX13_notBet_40 : decode cX13_notBet 40 = .ok (.iaload, 1) := by decide +kernel
theorem dX13_notBet_41 : decode cX13_notBet 41 = .ok (.ifCond .le 5, 3) := by decide +kernel
theorem dX13_notBet_44 : decode cX13_notBet 44 = .ok (.iconst 3, 1) := by decide +kernel
theorem dX13_notBet_45 : decode cX13_notBet 45 = .ok (.ireturn, 1) := by decide +kernel
theorem dX13_notBet_46 : decode cX13_notBet 46 = .ok (.aload_n 0, 1) := by decide +kernel
theorem dX13_notBet_47 : decode cX13_notBet 47 = .ok (.getfield 7, 3) := by decide +kernel
theorem dX13_notBet_50 : decode cX13_notBet 50 = .ok (.iconst 3, 1) := by decide +kernel
theorem dX13_notBet_51 : decode cX13_notBet 51 = .ok (.iload_n 1, 1) := by decide +kernel
theorem dX13_notBet_52 : decode cX13_notBet 52 = .ok (.iadd, 1) := by decide +kernel
theorem dX13_notBet_53 : decode cX13_notBet 53 = .ok (.iaload, 1) := by decide +kernel
theorem dX13_notBet_54 : decode cX13_notBet 54 = .ok (.iload_n 3, 1) := by decide +kernel
theorem dX13_notBet_55 : decode cX13_notBet 55 = .ok (.if_icmp .ge 7, 3) := by decide +kernel
theorem dX13_notBet_58 : decode cX13_notBet 58 = .ok (.iconst 4, 1) := by decide +kernel
theorem dX13_notBet_59 : decode cX13_notBet 59 = .ok (.goto 4, 3) := by decide +kernel
theorem dX13_notBet_62 : decode cX13_notBet 62 = .ok (.iconst 0, 1) := by decide +kernel
theorem dX13_notBet_63 : decode cX13_notBet 63 = .ok (.ireturn, 1) := by decide +kernel
theorem dX13_bets_0 : decode cX13_bets 0 = .ok (.aload_n 0, 1) := by decide +kernel
theorem dX13_bets_1 : decode cX13_bets 1 = .ok (.getfield 7, 3) := by decide +kernel
theorem dX13_bets_4 : decode cX13_bets 4 = .ok (.iconst 3, 1) := by decide +kernel
theorem dX13_bets_5 : decode cX13_bets 5 = .ok (.iload_n 1, 1) := by decide +kernel
theorem dX13_bets_6 : decode cX13_bets 6 = .ok (.iadd, 1) := by decide +kernel
theorem dX13_bets_7 : decode cX13_bets 7 = .ok (.dup2, 1) := by decide +kernel
theorem dX13_bets_8 : decode cX13_bets 8 = .ok (.iaload, 1) := by decide +kernel
theorem dX13_bets_9 : decode cX13_bets 9 = .ok (.iload_n 3, 1) := by decide +kernel
theorem dX13_bets_10 : decode cX13_bets 10 = .ok (.isub, 1) := by decide +kernel
theorem dX13_bets_11 : decode cX13_bets 11 = .ok (.iastore, 1) := by decide +kernel
theorem dX13_bets_12 : decode cX13_bets 12 = .ok (.aload_n 0, 1) := by decide +kernel
theorem dX13_bets_13 : decode cX13_bets 13 = .ok (.getfield 7, 3) := by decide +kernel
theorem dX13_bets_16 : decode cX13_bets 16 = .ok (.bipush 11, 2) := by decide +kernel
theorem dX13_bets_18 : decode cX13_bets 18 = .ok (.iload_n 1, 1) := by decide +kernel
theorem dX13_bets_19 : decode cX13_bets 19 = .ok (.iadd, 1) := by decide +kernel
theorem dX13_bets_20 : decode cX13_bets 20 = .ok (.iload_n 3, 1) := by decide +kernel
theorem dX13_bets_21 : decode cX13_bets 21 = .ok (.iastore, 1) := by decide +kernel
theorem dX13_bets_22 : decode cX13_bets 22 = .ok (.aload_n 0, 1) := by decide +kernel
theorem dX13_bets_23 : decode cX13_bets 23 = .ok (.getfield 7, 3) := by decide +kernel
theorem dX13_bets_26 : decode cX13_bets 26 = .ok (.bipush 7, 2) := by decide +kernel
theorem dX13_bets_28 : decode cX13_bets 28 = .ok (.iload_n 1, 1) := by decide +kernel
theorem dX13_bets_29 : decode cX13_bets 29 = .ok (.iadd, 1) := by decide +kernel
theorem dX13_bets_30 : decode cX13_bets 30 = .ok (.iload_n 2, 1) := by decide +kernel
theorem dX13_bets_31 : decode cX13_bets 31 = .ok (.iastore, 1) := by decide +kernel
theorem dX13_bets_32 : decode cX13_bets 32 = .ok (.aload_n 0, 1) := by decide +kernel
theorem dX13_bets_33 : decode cX13_bets 33 = .ok (.getfield 7, 3) := by decide +kernel
theorem dX13_bets_36 : decode cX13_bets 36 = .ok (.iconst 3, 1) := by decide +kernel
theorem dX13_bets_37 : decode cX13_bets 37 = .ok (.iload_n 1, 1) := by decide +kernel
theorem dX13_bets_38 : decode cX13_bets 38 = .ok (.iadd, 1) := by decide +kernel
theorem dX13_bets_39 : decode cX13_bets 39 = .ok (.iaload, 1) := by decide +kernel
theorem dX13_bets_40 : decode cX13_bets 40 = .ok (.ireturn, 1) := by decide +kernel
theorem dX13_bet_0 : decode cX13_bet 0 = .ok (.aload_n 0, 1) := by decide +kernel
theorem dX13_bet_1 : decode cX13_bet 1 = .ok (.iconst 0, 1) := by decide +kernel
theorem dX13_bet_2 : decode cX13_bet 2 = .ok (.putfield 66, 3) := by decide +kernel
theorem dX13_bet_5 : decode cX13_bet 5 = .ok (.aload_n 0, 1) := by decide +kernel
theorem dX13_bet_6 : decode cX13_bet 6 = .ok (.iload_n 1, 1) := by decide +kernel
theorem dX13_bet_7 : decode cX13_bet 7 = .ok (.iload_n 2, 1) := by decide +kernel
theorem dX13_bet_8 : decode cX13_bet 8 = .ok (.iload_n 3, 1) := by decide +kernel
theorem dX13_bet_9 : decode cX13_bet 9 = .ok (.invokevirtual 285, 3) := by decide +kernel
theorem dX13_bet_12 : decode cX13_bet 12 = .ok (.istore 4, 2) := by decide +kernel
theorem dX13_bet_14 : decode cX13_bet 14 = .ok (.iload 4, 2) := by decide +kernel
theorem dX13_bet_16 : decode cX13_bet 16 = .ok (.ifCond .eq 10, 3) := by decide +kernel
theorem dX13_bet_19 : decode cX13_bet 19 = .ok (.aload_n 0, 1) := by decide +kernel
theorem dX13_bet_20 : decode cX13_bet 20 = .ok (.iload 4, 2) := by decide +kernel
theorem dX13_bet_22 : decode cX13_bet 22 = .ok (.invokevirtual 125, 3) := by decide +kernel
theorem dX13_bet_25 : decode cX13_bet 25 = .ok (.ireturn, 1) := by decide +kernel
theorem dX13_bet_26 : decode cX13_bet 26 = .ok (.aload_n 0, 1) := by decide +kernel
theorem dX13_bet_27 : decode cX13_bet 27 = .ok (.invokevirtual 128, 3) := by decide +kernel
theorem dX13_bet_30 : decode cX13_bet 30 = .ok (.aload_n 0, 1) := by decide +kernel
theorem dX13_bet_31 : decode cX13_bet 31 = .ok (.iload_n 1, 1) := by decide +kernel
theorem dX13_bet_32 : decode cX13_bet 32 = .ok (.iload_n 2, 1) := by decide +kernel
theorem dX13_bet_33 : decode cX13_bet 33 = .ok (.iload_n 3, 1) := by decide +kernel
theorem dX13_bet_34 : decode cX13_bet 34 = .ok (.invokevirtual 288, 3) := by decide +kernel
theorem dX13_bet_37 : decode cX13_bet 37 = .ok (.ireturn, 1) := by decide +kernel
theorem dX13_stakes_0 : decode cX13_stakes 0 = .ok (.iconst 0, 1) := by decide +kernel
theorem dX13_stakes_1 : decode cX13_stakes 1 = .ok (.istore_n 1, 1) := by decide +kernel
theorem dX13_stakes_2 : decode cX13_stakes 2 = .ok (.iconst 0, 1) := by decide +kernel
theorem dX13_stakes_3 : decode cX13_stakes 3 = .ok (.istore_n 2, 1) := by decide +kernel
theorem dX13_stakes_4 : decode cX13_stakes 4 = .ok (.iload_n 2, 1) := by decide +kernel
theorem dX13_stakes_5 : decode cX13_stakes 5 = .ok (.aload_n 0, 1) := by decide +kernel
theorem dX13_stakes_6 : decode cX13_stakes 6 = .ok (.getfield 7, 3) := by decide +kernel
theorem dX13_stakes_9 : decode cX13_stakes 9 = .ok (.iconst 1, 1) := by decide +kernel
theorem dX13_stakes_10 : decode cX13_stakes 10 = .ok (.iaload, 1) := by decide +kernel
theorem dX13_stakes_11 : decode cX13_stakes 11 = .ok (.if_icmp .ge 21, 3) := by decide +kernel
theorem dX13_stakes_14 : decode cX13_stakes 14 = .ok (.iload_n 1, 1) := by decide +kernel
theorem dX13_stakes_15 : decode cX13_stakes 15 = .ok (.aload_n 0, 1) := by decide +kernel
theorem dX13_stakes_16 : decode cX13_stakes 16 = .ok (.getfield 7, 3) := by decide +kernel
theorem dX13_stakes_19 : decode cX13_stakes 19 = .ok (.bipush 11, 2) := by decide +kernel
theorem dX13_stakes_21 : decode cX13_stakes 21 = .ok (.iload_n 2, 1) := by decide +kernel
theorem dX13_stakes_22 : decode cX13_stakes 22 = .ok (.iadd, 1) := by decide +kernel
theorem dX13_stakes_23 : decode cX13_stakes 23 = .ok (.iaload, 1) := by decide +kernel
theorem dX13_stakes_24 : decode cX13_stakes 24 = .ok (.iadd, 1) := by decide +kernel
theorem dX13_stakes_25 : decode cX13_stakes 25 = .ok (.istore_n 1, 1) := by decide +kernel
theorem dX13_stakes_26 : decode cX13_stakes 26 = .ok (.iinc 2 1, 3) := by decide +kernel
theorem dX13_stakes_29 : decode cX13_stakes 29 = .ok (.goto (-25), 3) := by decide +kernel
theorem dX13_stakes_32 : decode cX13_stakes 32 = .ok (.iload_n 1, 1) := by decide +kernel
theorem dX13_stakes_33 : decode cX13_stakes 33 = .ok (.ireturn, 1) := by decide +kernel
theorem dX13_notSettle_0 : decode cX13_notSettle 0 = .ok (.aload_n 0, 1) := by decide +kernel
theorem dX13_notSettle_1 : decode cX13_notSettle 1 = .ok (.invokevirtual 291, 3) := by decide +kernel
theorem dX13_notSettle_4 : decode cX13_notSettle 4 = .ok (.ifCond .ne 5, 3) := by decide +kernel
theorem dX13_notSettle_7 : decode cX13_notSettle 7 = .ok (.iconst 1, 1) := by decide +kernel
theorem dX13_notSettle_8 : decode cX13_notSettle 8 = .ok (.ireturn, 1) := by decide +kernel
theorem dX13_notSettle_9 : decode cX13_notSettle 9 = .ok (.aload_n 0, 1) := by decide +kernel
theorem dX13_notSettle_10 : decode cX13_notSettle 10 = .ok (.invokevirtual 270, 3) := by decide +kernel
theorem dX13_notSettle_13 : decode cX13_notSettle 13 = .ok (.ifCond .ge 7, 3) := by decide +kernel
theorem dX13_notSettle_16 : decode cX13_notSettle 16 = .ok (.iconst 2, 1) := by decide +kernel
theorem dX13_notSettle_17 : decode cX13_notSettle 17 = .ok (.goto 4, 3) := by decide +kernel
theorem dX13_notSettle_20 : decode cX13_notSettle 20 = .ok (.iconst 0, 1) := by decide +kernel
theorem dX13_notSettle_21 : decode cX13_notSettle 21 = .ok (.ireturn, 1) := by decide +kernel
theorem dX13_settles_0 : decode cX13_settles 0 = .ok (.aload_n 0, 1) := by decide +kernel
theorem dX13_settles_1 : decode cX13_settles 1 = .ok (.invokevirtual 270, 3) := by decide +kernel
theorem dX13_settles_4 : decode cX13_settles 4 = .ok (.invokestatic 264, 3) := by decide +kernel
theorem dX13_settles_7 : decode cX13_settles 7 = .ok (.istore_n 1, 1) := by decide +kernel
theorem dX13_settles_8 : decode cX13_settles 8 = .ok (.aload_n 0, 1) := by decide +kernel
theorem dX13_settles_9 : decode cX13_settles 9 = .ok (.invokevirtual 291, 3) := by decide +kernel
theorem dX13_settles_12 : decode cX13_settles 12 = .ok (.istore_n 2, 1) := by decide +kernel
theorem dX13_settles_13 : decode cX13_settles 13 = .ok (.iconst 0, 1) := by decide +kernel
theorem dX13_settles_14 : decode cX13_settles 14 = .ok (.istore_n 3, 1) := by decide +kernel
theorem dX13_settles_15 : decode cX13_settles 15 = .ok (.iconst 0, 1) := by decide +kernel
theorem dX13_settles_16 : decode cX13_settles 16 = .ok (.istore 4, 2) := by decide +kernel
theorem dX13_settles_18 : decode cX13_settles 18 = .ok (.iload 4, 2) := by decide +kernel
theorem dX13_settles_20 : decode cX13_settles 20 = .ok (.aload_n 0, 1) := by decide +kernel
theorem dX13_settles_21 : decode cX13_settles 21 = .ok (.getfield 7, 3) := by decide +kernel
theorem dX13_settles_24 : decode cX13_settles 24 = .ok (.iconst 1, 1) := by decide +kernel
theorem dX13_settles_25 : decode cX13_settles 25 = .ok (.iaload, 1) := by decide +kernel
theorem dX13_settles_26 : decode cX13_settles 26 = .ok (.if_icmp .ge 44, 3) := by decide +kernel
theorem dX13_settles_29 : decode cX13_settles 29 = .ok (.iload_n 3, 1) := by decide +kernel
theorem dX13_settles_30 : decode cX13_settles 30 = .ok (.aload_n 0, 1) := by decide +kernel
theorem dX13_settles_31 : decode cX13_settles 31 = .ok (.getfield 7, 3) := by decide +kernel
theorem dX13_settles_34 : decode cX13_settles 34 = .ok (.bipush 11, 2) := by decide +kernel
theorem dX13_settles_36 : decode cX13_settles 36 = .ok (.iload 4, 2) := by decide +kernel
theorem dX13_settles_38 : decode cX13_settles 38 = .ok (.iadd, 1) := by decide +kernel
theorem dX13_settles_39 : decode cX13_settles 39 = .ok (.iaload, 1) := by decide +kernel
theorem dX13_settles_40 : decode cX13_settles 40 = .ok (.ifCond .le 21, 3) := by decide +kernel
theorem dX13_settles_43 : decode cX13_settles 43 = .ok (.aload_n 0, 1) := by decide +kernel
theorem dX13_settles_44 : decode cX13_settles 44 = .ok (.getfield 7, 3) := by decide +kernel
theorem dX13_settles_47 : decode cX13_settles 47 = .ok (.bipush 7, 2) := by decide +kernel
theorem dX13_settles_49 : decode cX13_settles 49 = .ok (.iload 4, 2) := by decide +kernel
theorem dX13_settles_51 : decode cX13_settles 51 = .ok (.iadd, 1) := by decide +kernel
theorem dX13_settles_52 : decode cX13_settles 52 = .ok (.iaload, 1) := by decide +kernel
theorem dX13_settles_53 : decode cX13_settles 53 = .ok (.iload_n 1, 1) := by decide +kernel
theorem dX13_settles_54 : decode cX13_settles 54 = .ok (.if_icmp .ne 7, 3) := by decide +kernel
theorem dX13_settles_57 : decode cX13_settles 57 = .ok (.iconst 1, 1) := by decide +kernel
theorem dX13_settles_58 : decode cX13_settles 58 = .ok (.goto 4, 3) := by decide +kernel
theorem dX13_settles_61 : decode cX13_settles 61 = .ok (.iconst 0, 1) := by decide +kernel
theorem dX13_settles_62 : decode cX13_settles 62 = .ok (.iadd, 1) := by decide +kernel
theorem dX13_settles_63 : decode cX13_settles 63 = .ok (.istore_n 3, 1) := by decide +kernel
theorem dX13_settles_64 : decode cX13_settles 64 = .ok (.iinc 4 1, 3) := by decide +kernel
theorem dX13_settles_67 : decode cX13_settles 67 = .ok (.goto (-49), 3) := by decide +kernel
theorem dX13_settles_70 : decode cX13_settles 70 = .ok (.iload_n 3, 1) := by decide +kernel
theorem dX13_settles_71 : decode cX13_settles 71 = .ok (.ifCond .ne 7, 3) := by decide +kernel
theorem dX13_settles_74 : decode cX13_settles 74 = .ok (.iconst 0, 1) := by decide +kernel
theorem dX13_settles_75 : decode cX13_settles 75 = .ok (.goto 6, 3) := by decide +kernel
theorem dX13_settles_78 : decode cX13_settles 78 = .ok (.iload_n 2, 1) := by decide +kernel
theorem dX13_settles_79 : decode cX13_settles 79 = .ok (.iload_n 3, 1) := by decide +kernel
theorem dX13_settles_80 : decode cX13_settles 80 = .ok (.idiv, 1) := by decide +kernel
theorem dX13_settles_81 : decode cX13_settles 81 = .ok (.istore 4, 2) := by decide +kernel
theorem dX13_settles_83 : decode cX13_settles 83 = .ok (.iconst 0, 1) := by decide +kernel
theorem dX13_settles_84 : decode cX13_settles 84 = .ok (.istore 5, 2) := by decide +kernel
theorem dX13_settles_86 : decode cX13_settles 86 = .ok (.iload 5, 2) := by decide +kernel
theorem dX13_settles_88 : decode cX13_settles 88 = .ok (.aload_n 0, 1) := by decide +kernel
theorem dX13_settles_89 : decode cX13_settles 89 = .ok (.getfield 7, 3) := by decide +kernel
theorem dX13_settles_92 : decode cX13_settles 92 = .ok (.iconst 1, 1) := by decide +kernel
theorem dX13_settles_93 : decode cX13_settles 93 = .ok (.iaload, 1) := by decide +kernel
theorem dX13_settles_94 : decode cX13_settles 94 = .ok (.if_icmp .ge 72, 3) := by decide +kernel
theorem dX13_settles_97 : decode cX13_settles 97 = .ok (.aload_n 0, 1) := by decide +kernel
theorem dX13_settles_98 : decode cX13_settles 98 = .ok (.getfield 7, 3) := by decide +kernel
theorem dX13_settles_101 : decode cX13_settles 101 = .ok (.bipush 11, 2) := by decide +kernel
theorem dX13_settles_103 : decode cX13_settles 103 = .ok (.iload 5, 2) := by decide +kernel
theorem dX13_settles_105 : decode cX13_settles 105 = .ok (.iadd, 1) := by decide +kernel
theorem dX13_settles_106 : decode cX13_settles 106 = .ok (.iaload, 1) := by decide +kernel
theorem dX13_settles_107 : decode cX13_settles 107 = .ok (.ifCond .le 31, 3) := by decide +kernel
theorem dX13_settles_110 : decode cX13_settles 110 = .ok (.aload_n 0, 1) := by decide +kernel
theorem dX13_settles_111 : decode cX13_settles 111 = .ok (.getfield 7, 3) := by decide +kernel
theorem dX13_settles_114 : decode cX13_settles 114 = .ok (.bipush 7, 2) := by decide +kernel
theorem dX13_settles_116 : decode cX13_settles 116 = .ok (.iload 5, 2) := by decide +kernel
theorem dX13_settles_118 : decode cX13_settles 118 = .ok (.iadd, 1) := by decide +kernel
theorem dX13_settles_119 : decode cX13_settles 119 = .ok (.iaload, 1) := by decide +kernel
theorem dX13_settles_120 : decode cX13_settles 120 = .ok (.iload_n 1, 1) := by decide +kernel
theorem dX13_settles_121 : decode cX13_settles 121 = .ok (.if_icmp .ne 17, 3) := by decide +kernel
theorem dX13_settles_124 : decode cX13_settles 124 = .ok (.aload_n 0, 1) := by decide +kernel
theorem dX13_settles_125 : decode cX13_settles 125 = .ok (.getfield 7, 3) := by decide +kernel
theorem dX13_settles_128 : decode cX13_settles 128 = .ok (.iconst 3, 1) := by decide +kernel
theorem dX13_settles_129 : decode cX13_settles 129 = .ok (.iload 5, 2) := by decide +kernel
theorem dX13_settles_131 : decode cX13_settles 131 = .ok (.iadd, 1) := by decide +kernel
theorem dX13_settles_132 : decode cX13_settles 132 = .ok (.dup2, 1) := by decide +kernel
theorem dX13_settles_133 : decode cX13_settles 133 = .ok (.iaload, 1) := by decide +kernel
theorem dX13_settles_134 : decode cX13_settles 134 = .ok (.iload 4, 2) := by decide +kernel
theorem dX13_settles_136 : decode cX13_settles 136 = .ok (.iadd, 1) := by decide +kernel
theorem dX13_settles_137 : decode cX13_settles 137 = .ok (.iastore, 1) := by decide +kernel
theorem dX13_settles_138 : decode cX13_settles 138 = .ok (.aload_n 0, 1) := by decide +kernel
theorem dX13_settles_139 : decode cX13_settles 139 = .ok (.getfield 7, 3) := by decide +kernel
theorem dX13_settles_142 : decode cX13_settles 142 = .ok (.bipush 11, 2) := by decide +kernel
theorem dX13_settles_144 : decode cX13_settles 144 = .ok (.iload 5, 2) := by decide +kernel
theorem dX13_settles_146 : decode cX13_settles 146 = .ok (.iadd, 1) := by decide +kernel
theorem dX13_settles_147 : decode cX13_settles 147 = .ok (.iconst 0, 1) := by decide +kernel
theorem dX13_settles_148 : decode cX13_settles 148 = .ok (.iastore, 1) := by decide +kernel
theorem dX13_settles_149 : decode cX13_settles 149 = .ok (.aload_n 0, 1) := by decide +kernel
theorem dX13_settles_150 : decode cX13_settles 150 = .ok (.getfield 7, 3) := by decide +kernel
theorem dX13_settles_153 : decode cX13_settles 153 = .ok (.bipush 7, 2) := by decide +kernel
theorem dX13_settles_155 : decode cX13_settles 155 = .ok (.iload 5, 2) := by decide +kernel
theorem dX13_settles_157 : decode cX13_settles 157 = .ok (.iadd, 1) := by decide +kernel
theorem dX13_settles_158 : decode cX13_settles 158 = .ok (.iconst 0, 1) := by decide +kernel
theorem dX13_settles_159 : decode cX13_settles 159 = .ok (.iastore, 1) := by decide +kernel
theorem dX13_settles_160 : decode cX13_settles 160 = .ok (.iinc 5 1, 3) := by decide +kernel
theorem dX13_settles_163 : decode cX13_settles 163 = .ok (.goto (-77), 3) := by decide +kernel
theorem dX13_settles_166 : decode cX13_settles 166 = .ok (.aload_n 0, 1) := by decide +kernel
theorem dX13_settles_167 : decode cX13_settles 167 = .ok (.getfield 7, 3) := by decide +kernel
theorem dX13_settles_170 : decode cX13_settles 170 = .ok (.iconst 2, 1) := by decide +kernel
theorem dX13_settles_171 : decode cX13_settles 171 = .ok (.dup2, 1) := by decide +kernel
theorem dX13_settles_172 : decode cX13_settles 172 = .ok (.iaload, 1) := by decide +kernel
theorem dX13_settles_173 : decode cX13_settles 173 = .ok (.iload_n 2, 1) := by decide +kernel
theorem dX13_settles_174 : decode cX13_settles 174 = .ok (.iload_n 3, 1) := by decide +kernel
theorem dX13_settles_175 : decode cX13_settles 175 = .ok (.iload 4, 2) := by decide +kernel
theorem dX13_settles_177 : decode cX13_settles 177 = .ok (.imul, 1) := by decide +kernel
theorem dX13_settles_178 : decode cX13_settles 178 = .ok (.isub, 1) := by decide +kernel
theorem dX13_settles_179 : decode cX13_settles 179 = .ok (.iadd, 1) := by decide +kernel
theorem dX13_settles_180 : decode cX13_settles 180 = .ok (.iastore, 1) := by decide +kernel
theorem dX13_settles_181 : decode cX13_settles 181 = .ok (.iload_n 3, 1) := by decide +kernel
theorem dX13_settles_182 : decode cX13_settles 182 = .ok (.ireturn, 1) := by decide +kernel
theorem dX13_settle_0 : decode cX13_settle 0 = .ok (.aload_n 0, 1) := by decide +kernel
theorem dX13_settle_1 : decode cX13_settle 1 = .ok (.iconst 0, 1) := by decide +kernel
theorem dX13_settle_2 : decode cX13_settle 2 = .ok (.putfield 66, 3) := by decide +kernel
theorem dX13_settle_5 : decode cX13_settle 5 = .ok (.aload_n 0, 1) := by decide +kernel
theorem dX13_settle_6 : decode cX13_settle 6 = .ok (.invokevirtual 294, 3) := by decide +kernel
theorem dX13_settle_9 : decode cX13_settle 9 = .ok (.istore_n 1, 1) := by decide +kernel
theorem dX13_settle_10 : decode cX13_settle 10 = .ok (.iload_n 1, 1) := by decide +kernel
theorem dX13_settle_11 : decode cX13_settle 11 = .ok (.ifCond .eq 9, 3) := by decide +kernel
theorem dX13_settle_14 : decode cX13_settle 14 = .ok (.aload_n 0, 1) := by decide +kernel
theorem dX13_settle_15 : decode cX13_settle 15 = .ok (.iload_n 1, 1) := by decide +kernel
theorem dX13_settle_16 : decode cX13_settle 16 = .ok (.invokevirtual 125, 3) := by decide +kernel
theorem dX13_settle_19 : decode cX13_settle 19 = .ok (.ireturn, 1) := by decide +kernel
theorem dX13_settle_20 : decode cX13_settle 20 = .ok (.aload_n 0, 1) := by decide +kernel
theorem dX13_settle_21 : decode cX13_settle 21 = .ok (.invokevirtual 128, 3) := by decide +kernel
theorem dX13_settle_24 : decode cX13_settle 24 = .ok (.aload_n 0, 1) := by decide +kernel
theorem dX13_settle_25 : decode cX13_settle 25 = .ok (.invokevirtual 297, 3) := by decide +kernel
theorem dX13_settle_28 : decode cX13_settle 28 = .ok (.ireturn, 1) := by decide +kernel
theorem dX13_playerCount_0 : decode cX13_playerCount 0 = .ok (.aload_n 0, 1) := by decide +kernel
theorem dX13_playerCount_1 : decode cX13_playerCount 1 = .ok (.iconst 1, 1) := by decide +kernel
theorem dX13_playerCount_2 : decode cX13_playerCount 2 = .ok (.invokevirtual 195, 3) := by decide +kernel
theorem dX13_playerCount_5 : decode cX13_playerCount 5 = .ok (.ireturn, 1) := by decide +kernel
theorem dX13_coins_0 : decode cX13_coins 0 = .ok (.aload_n 0, 1) := by decide +kernel
theorem dX13_coins_1 : decode cX13_coins 1 = .ok (.iconst 0, 1) := by decide +kernel
theorem dX13_coins_2 : decode cX13_coins 2 = .ok (.putfield 66, 3) := by decide +kernel
theorem dX13_coins_5 : decode cX13_coins 5 = .ok (.aload_n 0, 1) := by decide +kernel
theorem dX13_coins_6 : decode cX13_coins 6 = .ok (.iload_n 1, 1) := by decide +kernel
theorem dX13_coins_7 : decode cX13_coins 7 = .ok (.invokevirtual 282, 3) := by decide +kernel
theorem dX13_coins_10 : decode cX13_coins 10 = .ok (.ifCond .eq 14, 3) := by decide +kernel
theorem dX13_coins_13 : decode cX13_coins 13 = .ok (.aload_n 0, 1) := by decide +kernel
theorem dX13_coins_14 : decode cX13_coins 14 = .ok (.getfield 7, 3) := by decide +kernel
theorem dX13_coins_17 : decode cX13_coins 17 = .ok (.iconst 3, 1) := by decide +kernel
theorem dX13_coins_18 : decode cX13_coins 18 = .ok (.iload_n 1, 1) := by decide +kernel
theorem dX13_coins_19 : decode cX13_coins 19 = .ok (.iadd, 1) := by decide +kernel
theorem dX13_coins_20 : decode cX13_coins 20 = .ok (.iaload, 1) := by decide +kernel
theorem dX13_coins_21 : decode cX13_coins 21 = .ok (.goto 8, 3) := by decide +kernel
theorem dX13_coins_24 : decode cX13_coins 24 = .ok (.aload_n 0, 1) := by decide +kernel
theorem dX13_coins_25 : decode cX13_coins 25 = .ok (.iconst 1, 1) := by decide +kernel
theorem dX13_coins_26 : decode cX13_coins 26 = .ok (.invokevirtual 125, 3) := by decide +kernel
theorem dX13_coins_29 : decode cX13_coins 29 = .ok (.ireturn, 1) := by decide +kernel
theorem dX13_guess_0 : decode cX13_guess 0 = .ok (.aload_n 0, 1) := by decide +kernel
theorem dX13_guess_1 : decode cX13_guess 1 = .ok (.iconst 0, 1) := by decide +kernel
theorem dX13_guess_2 : decode cX13_guess 2 = .ok (.putfield 66, 3) := by decide +kernel
theorem dX13_guess_5 : decode cX13_guess 5 = .ok (.aload_n 0, 1) := by decide +kernel
theorem dX13_guess_6 : decode cX13_guess 6 = .ok (.iload_n 1, 1) := by decide +kernel
theorem dX13_guess_7 : decode cX13_guess 7 = .ok (.invokevirtual 282, 3) := by decide +kernel
theorem dX13_guess_10 : decode cX13_guess 10 = .ok (.ifCond .ne 9, 3) := by decide +kernel
theorem dX13_guess_13 : decode cX13_guess 13 = .ok (.aload_n 0, 1) := by decide +kernel
theorem dX13_guess_14 : decode cX13_guess 14 = .ok (.iconst 1, 1) := by decide +kernel
theorem dX13_guess_15 : decode cX13_guess 15 = .ok (.invokevirtual 125, 3) := by decide +kernel
theorem dX13_guess_18 : decode cX13_guess 18 = .ok (.ireturn, 1) := by decide +kernel
theorem dX13_guess_19 : decode cX13_guess 19 = .ok (.aload_n 0, 1) := by decide +kernel
theorem dX13_guess_20 : decode cX13_guess 20 = .ok (.getfield 7, 3) := by decide +kernel
theorem dX13_guess_23 : decode cX13_guess 23 = .ok (.bipush 11, 2) := by decide +kernel
theorem dX13_guess_25 : decode cX13_guess 25 = .ok (.iload_n 1, 1) := by decide +kernel
theorem dX13_guess_26 : decode cX13_guess 26 = .ok (.iadd, 1) := by decide +kernel
theorem dX13_guess_27 : decode cX13_guess 27 = .ok (.iaload, 1) := by decide +kernel
theorem dX13_guess_28 : decode cX13_guess 28 = .ok (.ifCond .le 15, 3) := by decide +kernel
theorem dX13_guess_31 : decode cX13_guess 31 = .ok (.aload_n 0, 1) := by decide +kernel
theorem dX13_guess_32 : decode cX13_guess 32 = .ok (.getfield 7, 3) := by decide +kernel
theorem dX13_guess_35 : decode cX13_guess 35 = .ok (.bipush 7, 2) := by decide +kernel
theorem dX13_guess_37 : decode cX13_guess 37 = .ok (.iload_n 1, 1) := by decide +kernel
theorem dX13_guess_38 : decode cX13_guess 38 = .ok (.iadd, 1) := by decide +kernel
theorem dX13_guess_39 : decode cX13_guess 39 = .ok (.iaload, 1) := by decide +kernel
theorem dX13_guess_40 : decode cX13_guess 40 = .ok (.goto 8, 3) := by decide +kernel
theorem dX13_guess_43 : decode cX13_guess 43 = .ok (.aload_n 0, 1) := by decide +kernel
theorem dX13_guess_44 : decode cX13_guess 44 = .ok (.iconst 2, 1) := by decide +kernel
theorem dX13_guess_45 : decode cX13_guess 45 = .ok (.invokevirtual 125, 3) := by decide +kernel
theorem dX13_guess_48 : decode cX13_guess 48 = .ok (.ireturn, 1) := by decide +kernel
theorem dX13_pot_0 : decode cX13_pot 0 = .ok (.aload_n 0, 1) := by decide +kernel
theorem dX13_pot_1 : decode cX13_pot 1 = .ok (.iconst 0, 1) := by decide +kernel
theorem dX13_pot_2 : decode cX13_pot 2 = .ok (.putfield 66, 3) := by decide +kernel
theorem dX13_pot_5 : decode cX13_pot 5 = .ok (.aload_n 0, 1) := by decide +kernel
theorem dX13_pot_6 : decode cX13_pot 6 = .ok (.invokevirtual 291, 3) := by decide +kernel
theorem dX13_pot_9 : decode cX13_pot 9 = .ok (.ireturn, 1) := by decide +kernel
theorem dX13_house_0 : decode cX13_house 0 = .ok (.aload_n 0, 1) := by decide +kernel
theorem dX13_house_1 : decode cX13_house 1 = .ok (.iconst 2, 1) := by decide +kernel
theorem dX13_house_2 : decode cX13_house 2 = .ok (.invokevirtual 195, 3) := by decide +kernel
theorem dX13_house_5 : decode cX13_house 5 = .ok (.ireturn, 1) := by decide +kernel
theorem dX13_playerByCoins_0 : decode cX13_playerByCoins 0 = .ok (.aload_n 0, 1) := by decide +kernel
theorem dX13_playerByCoins_1 : decode cX13_playerByCoins 1 = .ok (.iconst 0, 1) := by decide +kernel
theorem dX13_playerByCoins_2 : decode cX13_playerByCoins 2 = .ok (.putfield 66, 3) := by decide +kernel
theorem dX13_playerByCoins_5 : decode cX13_playerByCoins 5 = .ok (.iconst 0, 1) := by decide +kernel
theorem dX13_playerByCoins_6 : decode cX13_playerByCoins 6 = .ok (.istore_n 2, 1) := by decide +kernel
theorem dX13_playerByCoins_7 : decode cX13_playerByCoins 7 = .ok (.iload_n 2, 1) := by decide +kernel
theorem dX13_playerByCoins_8 : decode cX13_playerByCoins 8 = .ok (.aload_n 0, 1) := by decide +kernel
theorem dX13_playerByCoins_9 : decode cX13_playerByCoins 9 = .ok (.getfield 7, 3) := by decide +kernel
theorem dX13_playerByCoins_12 : decode cX13_playerByCoins 12 = .ok (.iconst 1, 1) := by decide +kernel
theorem dX13_playerByCoins_13 : decode cX13_playerByCoins 13 = .ok (.iaload, 1) := by decide +kernel
theorem dX13_playerByCoins_14 : decode cX13_playerByCoins 14 = .ok (.if_icmp .ge 82, 3) := by decide +kernel
theorem dX13_playerByCoins_17 : decode cX13_playerByCoins 17 = .ok (.iconst 0, 1) := by decide +kernel
theorem dX13_playerByCoins_18 : decode cX13_playerByCoins 18 = .ok (.istore_n 3, 1) := by decide +kernel
theorem dX13_playerByCoins_19 : decode cX13_playerByCoins 19 = .ok (.iconst 0, 1) := by decide +kernel
theorem dX13_playerByCoins_20 : decode cX13_playerByCoins 20 = .ok (.istore 4, 2) := by decide +kernel
theorem dX13_playerByCoins_22 : decode cX13_playerByCoins 22 = .ok (.iload 4, 2) := by decide +kernel
theorem dX13_playerByCoins_24 : decode cX13_playerByCoins 24 = .ok (.aload_n 0, 1) := by decide +kernel
theorem dX13_playerByCoins_25 : decode cX13_playerByCoins 25 = .ok (.getfield 7, 3) := by decide +kernel
theorem dX13_playerByCoins_28 : decode cX13_playerByCoins 28 = .ok (.iconst 1, 1) := by decide +kernel
theorem dX13_playerByCoins_29 : decode cX13_playerByCoins 29 = .ok (.iaload, 1) := by decide +kernel
theorem dX13_playerByCoins_30 : decode cX13_playerByCoins 30 = .ok (.if_icmp .ge 53, 3) := by decide +kernel
theorem dX13_playerByCoins_33 : decode cX13_playerByCoins 33 = .ok (.aload_n 0, 1) := by decide +kernel
theorem dX13_playerByCoins_34 : decode cX13_playerByCoins 34 = .ok (.getfield 7, 3) := by decide +kernel
theorem dX13_playerByCoins_37 : decode cX13_playerByCoins 37 = .ok (.iconst 3, 1) := by decide +kernel
theorem dX13_playerByCoins_38 : decode cX13_playerByCoins 38 = .ok (.iload 4, 2) := by decide +kernel
theorem dX13_playerByCoins_40 : decode cX13_playerByCoins 40 = .ok (.iadd, 1) := by decide +kernel
theorem dX13_playerByCoins_41 : decode cX13_playerByCoins 41 = .ok (.iaload, 1) := by decide +kernel
theorem dX13_playerByCoins_42 : decode cX13_playerByCoins 42 = .ok (.aload_n 0, 1) := by decide +kernel
theorem dX13_playerByCoins_43 : decode cX13_playerByCoins 43 = .ok (.getfield 7, 3) := by decide +kernel
theorem dX13_playerByCoins_46 : decode cX13_playerByCoins 46 = .ok (.iconst 3, 1) := by decide +kernel
theorem dX13_playerByCoins_47 : decode cX13_playerByCoins 47 = .ok (.iload_n 2, 1) := by decide +kernel
theorem dX13_playerByCoins_48 : decode cX13_playerByCoins 48 = .ok (.iadd, 1) := by decide +kernel
theorem dX13_playerByCoins_49 : decode cX13_playerByCoins 49 = .ok (.iaload, 1) := by decide +kernel
theorem dX13_playerByCoins_50 : decode cX13_playerByCoins 50 = .ok (.isub, 1) := by decide +kernel
theorem dX13_playerByCoins_51 : decode cX13_playerByCoins 51 = .ok (.istore 5, 2) := by decide +kernel
theorem dX13_playerByCoins_53 : decode cX13_playerByCoins 53 = .ok (.iload_n 3, 1) := by decide +kernel
theorem dX13_playerByCoins_54 : decode cX13_playerByCoins 54 = .ok (.iload 5, 2) := by decide +kernel
theorem dX13_playerByCoins_56 : decode cX13_playerByCoins 56 = .ok (.ifCond .gt 14, 3) := by decide +kernel
theorem dX13_playerByCoins_59 : decode cX13_playerByCoins 59 = .ok (.iload 5, 2) := by decide +kernel
theorem dX13_playerByCoins_61 : decode cX13_playerByCoins 61 = .ok (.ifCond .ne 13, 3) := by decide +kernel
theorem dX13_playerByCoins_64 : decode cX13_playerByCoins 64 = .ok (.iload 4, 2) := by decide +kernel
theorem dX13_playerByCoins_66 : decode cX13_playerByCoins 66 = .ok (.iload_n 2, 1) := by decide +kernel
theorem dX13_playerByCoins_67 : decode cX13_playerByCoins 67 = .ok (.if_icmp .ge 7, 3) := by decide +kernel
theorem dX13_playerByCoins_70 : decode cX13_playerByCoins 70 = .ok (.iconst 1, 1) := by decide +kernel
theorem dX13_playerByCoins_71 : decode cX13_playerByCoins 71 = .ok (.goto 4, 3) := by decide +kernel
theorem dX13_playerByCoins_74 : decode cX13_playerByCoins 74 = .ok (.iconst 0, 1) := by decide +kernel
theorem dX13_playerByCoins_75 : decode cX13_playerByCoins 75 = .ok (.iadd, 1) := by decide +kernel
theorem dX13_playerByCoins_76 : decode cX13_playerByCoins 76 = .ok (.istore_n 3, 1) := by decide +kernel
theorem dX13_playerByCoins_77 : decode cX13_playerByCoins 77 = .ok (.iinc 4 1, 3) := by decide +kernel
theorem dX13_playerByCoins_80 : decode cX13_playerByCoins 80 = .ok (.goto (-58), 3) := by decide +kernel
theorem dX13_playerByCoins_83 : decode cX13_playerByCoins 83 = .ok (.iload_n 3, 1) := by decide +kernel
theorem dX13_playerByCoins_84 : decode cX13_playerByCoins 84 = .ok (.iload_n 1, 1) := by decide +kernel
theorem dX13_playerByCoins_85 : decode cX13_playerByCoins 85 = .ok (.if_icmp .ne 5, 3) := by decide +kernel
theorem dX13_playerByCoins_88 : decode cX13_playerByCoins 88 = .ok (.iload_n 2, 1) := by decide +kernel
theorem dX13_playerByCoins_89 : decode cX13_playerByCoins 89 = .ok (.ireturn, 1) := by decide +kernel
theorem dX13_playerByCoins_90 : decode cX13_playerByCoins 90 = .ok (.iinc 2 1, 3) := by decide +kernel
theorem dX13_playerByCoins_93 : decode cX13_playerByCoins 93 = .ok (.goto (-86), 3) := by decide +kernel
theorem dX13_playerByCoins_96 : decode cX13_playerByCoins 96 = .ok (.aload_n 0, 1) := by decide +kernel
theorem dX13_playerByCoins_97 : decode cX13_playerByCoins 97 = .ok (.iconst 1, 1) := by decide +kernel
theorem dX13_playerByCoins_98 : decode cX13_playerByCoins 98 = .ok (.invokevirtual 125, 3) := by decide +kernel
theorem dX13_playerByCoins_101 : decode cX13_playerByCoins 101 = .ok (.ireturn, 1) := by decide +kernel
theorem dX13_stakeShare_0 : decode cX13_stakeShare 0 = .ok (.aload_n 0, 1) := by decide +kernel
theorem dX13_stakeShare_1 : decode cX13_stakeShare 1 = .ok (.iconst 0, 1) := by decide +kernel
theorem dX13_stakeShare_2 : decode cX13_stakeShare 2 = .ok (.putfield 66, 3) := by decide +kernel
theorem dX13_stakeShare_5 : decode cX13_stakeShare 5 = .ok (.aload_n 0, 1) := by decide +kernel
theorem dX13_stakeShare_6 : decode cX13_stakeShare 6 = .ok (.iload_n 1, 1) := by decide +kernel
theorem dX13_stakeShare_7 : decode cX13_stakeShare 7 = .ok (.invokevirtual 282, 3) := by decide +kernel
theorem dX13_stakeShare_10 : decode cX13_stakeShare 10 = .ok (.ifCond .ne 10, 3) := by decide +kernel
theorem dX13_stakeShare_13 : decode cX13_stakeShare 13 = .ok (.aload_n 0, 1) := by decide +kernel
theorem dX13_stakeShare_14 : decode cX13_stakeShare 14 = .ok (.iconst 1, 1) := by decide +kernel
theorem dX13_stakeShare_15 : decode cX13_stakeShare 15 = .ok (.invokevirtual 125, 3) := by decide +kernel
theorem dX13_stakeShare_18 : decode cX13_stakeShare 18 = .ok (.i2f, 1) := by decide +kernel
theorem dX13_stakeShare_19 : decode cX13_stakeShare 19 = .ok (.freturn, 1) := by decide +kernel
theorem dX13_stakeShare_20 : decode cX13_stakeShare 20 = .ok (.aload_n 0, 1) := by decide +kernel
theorem dX13_stakeShare_21 : decode cX13_stakeShare 21 = .ok (.invokevirtual 291, 3) := by decide +kernel
theorem dX13_stakeShare_24 : decode cX13_stakeShare 24 = .ok (.ifCond .ne 12, 3) := by decide +kernel
theorem dX13_stakeShare_27 : decode cX13_stakeShare 27 = .ok (.aload_n 0, 1) := by decide +kernel
theorem dX13_stakeShare_28 : decode cX13_stakeShare 28 = .ok (.iconst 2, 1) := by decide +kernel
theorem dX13_stakeShare_29 : decode cX13_stakeShare 29 = .ok (.invokevirtual 125, 3) := by decide +kernel
theorem dX13_stakeShare_32 : decode cX13_stakeShare 32 = .ok (.i2f, 1) := by decide +kernel
theorem dX13_stakeShare_33 : decode cX13_stakeShare 33 = .ok (.goto 19, 3) := by decide +kernel
theorem dX13_stakeShare_36 : decode cX13_stakeShare 36 = .ok (.aload_n 0, 1) := by decide +kernel
theorem dX13_stakeShare_37 : decode cX13_stakeShare 37 = .ok (.getfield 7, 3) := by decide +kernel
theorem dX13_stakeShare_40 : decode cX13_stakeShare 40 = .ok (.bipush 11, 2) := by decide +kernel
theorem dX13_stakeShare_42 : decode cX13_stakeShare 42 = .ok (.iload_n 1, 1) := by decide +kernel
theorem dX13_stakeShare_43 : decode cX13_stakeShare 43 = .ok (.iadd, 1) := by decide +kernel
theorem dX13_stakeShare_44 : decode cX13_stakeShare 44 = .ok (.iaload, 1) := by decide +kernel
theorem dX13_stakeShare_45 : decode cX13_stakeShare 45 = .ok (.i2f, 1) := by decide +kernel
theorem dX13_stakeShare_46 : decode cX13_stakeShare 46 = .ok (.aload_n 0, 1) := by decide +kernel
theorem dX13_stakeShare_47 : decode cX13_stakeShare 47 = .ok (.invokevirtual 291, 3) := by decide +kernel
theorem dX13_stakeShare_50 : decode cX13_stakeShare 50 = .ok (.i2f, 1) := by decide +kernel
theorem dX13_stakeShare_51 : decode cX13_stakeShare 51 = .ok (.fdiv, 1) := by decide +kernel
theorem dX13_stakeShare_52 : decode cX13_stakeShare 52 = .ok (.freturn, 1) := by decide +kernel
theorem dX13_isConsistent_0 : decode cX13_isConsistent 0 = .ok (.aload_n 0, 1) := by decide +kernel
theorem dX13_isConsistent_1 : decode cX13_isConsistent 1 = .ok (.iconst 0, 1) := by decide +kernel
theorem dX13_isConsistent_2 : decode cX13_isConsistent 2 = .ok (.putfield 66, 3) := by decide +kernel
theorem dX13_isConsistent_5 : decode cX13_isConsistent 5 = .ok (.aload_n 0, 1) := by decide +kernel
theorem dX13_isConsistent_6 : decode cX13_isConsistent 6 = .ok (.invokevirtual 291, 3) := by decide +kernel
theorem dX13_isConsistent_9 : decode cX13_isConsistent 9 = .ok (.aload_n 0, 1) := by decide +kernel
theorem dX13_isConsistent_10 : decode cX13_isConsistent 10 = .ok (.getfield 7, 3) := by decide +kernel
theorem dX13_isConsistent_13 : decode cX13_isConsistent 13 = .ok (.iconst 2, 1) := by decide +kernel
theorem dX13_isConsistent_14 : decode cX13_isConsistent 14 = .ok (.iaload, 1) := by decide +kernel
theorem dX13_isConsistent_15 : decode cX13_isConsistent 15 = .ok (.iadd, 1) := by decide +kernel
theorem dX13_isConsistent_16 : decode cX13_isConsistent 16 = .ok (.istore_n 1, 1) := by decide +kernel
theorem dX13_isConsistent_17 : decode cX13_isConsistent 17 = .ok (.iconst 0, 1) := by decide +kernel
theorem dX13_isConsistent_18 : decode cX13_isConsistent 18 = .ok (.istore_n 2, 1) := by decide +kernel
theorem dX13_isConsistent_19 : decode cX13_isConsistent 19 = .ok (.iload_n 2, 1) := by decide +kernel
theorem dX13_isConsistent_20 : decode cX13_isConsistent 20 = .ok (.aload_n 0, 1) := by decide +kernel
theorem dX13_isConsistent_21 : decode cX13_isConsistent 21 = .ok (.getfield 7, 3) := by decide +kernel
theorem dX13_isConsistent_24 : decode cX13_isConsistent 24 = .ok (.iconst 1, 1) := by decide +kernel
theorem dX13_isConsistent_25 : decode cX13_isConsistent 25 = .ok (.iaload, 1) := by decide +kernel
theorem dX13_isConsistent_26 : decode cX13_isConsistent 26 = .ok (.if_icmp .ge 20, 3) := by decide +kernel
theorem dX13_isConsistent_29 : decode cX13_isConsistent 29 = .ok (.iload_n 1, 1) := by decide +kernel
theorem dX13_isConsistent_30 : decode cX13_isConsistent 30 = .ok (.aload_n 0, 1) := by decide +kernel
theorem dX13_isConsistent_31 : decode cX13_isConsistent 31 = .ok (.getfield 7, 3) := by decide +kernel
theorem dX13_isConsistent_34 : decode cX13_isConsistent 34 = .ok (.iconst 3, 1) := by decide +kernel
theorem dX13_isConsistent_35 : decode cX13_isConsistent 35 = .ok (.iload_n 2, 1) := by decide +kernel
theorem dX13_isConsistent_36 : decode cX13_isConsistent 36 = .ok (.iadd, 1) := by decide +kernel
theorem dX13_isConsistent_37 : decode cX13_isConsistent 37 = .ok (.iaload, 1) := by decide +kernel
theorem dX13_isConsistent_38 : decode cX13_isConsistent 38 = .ok (.iadd, 1) := by decide +kernel
theorem dX13_isConsistent_39 : decode cX13_isConsistent 39 = .ok (.istore_n 1, 1) := by decide +kernel
theorem dX13_isConsistent_40 : decode cX13_isConsistent 40 = .ok (.iinc 2 1, 3) := by decide +kernel
theorem dX13_isConsistent_43 : decode cX13_isConsistent 43 = .ok (.goto (-24), 3) := by decide +kernel
theorem dX13_isConsistent_46 : decode cX13_isConsistent 46 = .ok (.iload_n 1, 1) := by decide +kernel
theorem dX13_isConsistent_47 : decode cX13_isConsistent 47 = .ok (.bipush 100, 2) := by decide +kernel
theorem dX13_isConsistent_49 : decode cX13_isConsistent 49 = .ok (.aload_n 0, 1) := by decide +kernel
theorem dX13_isConsistent_50 : decode cX13_isConsistent 50 = .ok (.getfield 7, 3) := by decide +kernel
theorem dX13_isConsistent_53 : decode cX13_isConsistent 53 = .ok (.iconst 1, 1) := by decide +kernel
theorem dX13_isConsistent_54 : decode cX13_isConsistent 54 = .ok (.iaload, 1) := by decide +kernel
theorem dX13_isConsistent_55 : decode cX13_isConsistent 55 = .ok (.imul, 1) := by decide +kernel
theorem dX13_isConsistent_56 : decode cX13_isConsistent 56 = .ok (.if_icmp .ne 17, 3) := by decide +kernel
theorem dX13_isConsistent_59 : decode cX13_isConsistent 59 = .ok (.aload_n 0, 1) := by decide +kernel
theorem dX13_isConsistent_60 : decode cX13_isConsistent 60 = .ok (.iconst 3, 1) := by decide +kernel
theorem dX13_isConsistent_61 : decode cX13_isConsistent 61 = .ok (.invokevirtual 226, 3) := by decide +kernel
theorem dX13_isConsistent_64 : decode cX13_isConsistent 64 = .ok (.iconst 3, 1) := by decide +kernel
theorem dX13_isConsistent_65 : decode cX13_isConsistent 65 = .ok (.irem, 1) := by decide +kernel
theorem dX13_isConsistent_66 : decode cX13_isConsistent 66 = .ok (.ifCond .ne 7, 3) := by decide +kernel
theorem dX13_isConsistent_69 : decode cX13_isConsistent 69 = .ok (.iconst 1, 1) := by decide +kernel
theorem dX13_isConsistent_70 : decode cX13_isConsistent 70 = .ok (.goto 4, 3) := by decide +kernel
theorem dX13_isConsistent_73 : decode cX13_isConsistent 73 = .ok (.iconst 0, 1) := by decide +kernel
theorem dX13_isConsistent_74 : decode cX13_isConsistent 74 = .ok (.ireturn, 1) := by decide +kernel
theorem dX13_writes_0 : decode cX13_writes 0 = .ok (.aload_n 0, 1) := by decide +kernel
theorem dX13_writes_1 : decode cX13_writes 1 = .ok (.getfield 49, 3) := by decide +kernel
theorem dX13_writes_4 : decode cX13_writes 4 = .ok (.aload_n 0, 1) := by decide +kernel
theorem dX13_writes_5 : decode cX13_writes 5 = .ok (.getfield 300, 3) := by decide +kernel
theorem dX13_writes_8 : decode cX13_writes 8 = .ok (.iload_n 1, 1) := by decide +kernel
theorem dX13_writes_9 : decode cX13_writes 9 = .ok (.i2c, 1) := by decide +kernel
theorem dX13_writes_10 : decode cX13_writes 10 = .ok (.castore, 1) := by decide +kernel
theorem dX13_writes_11 : decode cX13_writes 11 = .ok (.aload_n 0, 1) := by decide +kernel
theorem dX13_writes_12 : decode cX13_writes 12 = .ok (.dup, 1) := by decide +kernel
theorem dX13_writes_13 : decode cX13_writes 13 = .ok (.getfield 300, 3) := by decide +kernel
theorem dX13_writes_16 : decode cX13_writes 16 = .ok (.iconst 1, 1) := by decide +kernel
theorem dX13_writes_17 : decode cX13_writes 17 = .ok (.iadd, 1) := by decide +kernel
theorem dX13_writes_18 : decode cX13_writes 18 = .ok (.putfield 300, 3) := by decide +kernel
theorem dX13_writes_21 : decode cX13_writes 21 = .ok (.return_, 1) := by decide +kernel
theorem dX13_writesNumber_0 : decode cX13_writesNumber 0 = .ok (.iload_n 1, 1) := by decide +kernel
theorem dX13_writesNumber_1 : decode cX13_writesNumber 1 = .ok (.ifCond .ge 9, 3) := by decide +kernel
theorem dX13_writesNumber_4 : decode cX13_writesNumber 4 = .ok (.aload_n 0, 1) := by decide +kernel
theorem dX13_writesNumber_5 : decode cX13_writesNumber 5 = .ok (.bipush 45, 2) := by decide +kernel
theorem dX13_writesNumber_7 : decode cX13_writesNumber 7 = .ok (.invokevirtual 303, 3) := by decide +kernel
theorem dX13_writesNumber_10 : decode cX13_writesNumber 10 = .ok (.iload_n 1, 1) := by decide +kernel
theorem dX13_writesNumber_11 : decode cX13_writesNumber 11 = .ok (.ifCond .ge 8, 3) := by decide +kernel
theorem dX13_writesNumber_14 : decode cX13_writesNumber 14 = .ok (.iload_n 1, 1) := by decide +kernel
theorem dX13_writesNumber_15 : decode cX13_writesNumber 15 = .ok (.ineg, 1) := by decide +kernel
theorem dX13_writesNumber_16 : decode cX13_writesNumber 16 = .ok (.goto 4, 3) := by decide +kernel
theorem dX13_writesNumber_19 : decode cX13_writesNumber 19 = .ok (.iload_n 1, 1) := by decide +kernel
theorem dX13_writesNumber_20 : decode cX13_writesNumber 20 = .ok (.istore_n 2, 1) := by decide +kernel
theorem dX13_writesNumber_21 : decode cX13_writesNumber 21 = .ok (.iconst 1, 1) := by decide +kernel
theorem dX13_writesNumber_22 : decode cX13_writesNumber 22 = .ok (.istore_n 3, 1) := by decide +kernel
theorem dX13_writesNumber_23 : decode cX13_writesNumber 23 = .ok (.iload_n 2, 1) := by decide +kernel
theorem dX13_writesNumber_24 : decode cX13_writesNumber 24 = .ok (.iload_n 3, 1) := by decide +kernel
theorem dX13_writesNumber_25 : decode cX13_writesNumber 25 = .ok (.idiv, 1) := by decide +kernel
theorem dX13_writesNumber_26 : decode cX13_writesNumber 26 = .ok (.bipush 9, 2) := by decide +kernel
theorem dX13_writesNumber_28 : decode cX13_writesNumber 28 = .ok (.if_icmp .le 11, 3) := by decide +kernel
theorem dX13_writesNumber_31 : decode cX13_writesNumber 31 = .ok (.iload_n 3, 1) := by decide +kernel
theorem dX13_writesNumber_32 : decode cX13_writesNumber 32 = .ok (.bipush 10, 2) := by decide +kernel
theorem dX13_writesNumber_34 : decode cX13_writesNumber 34 = .ok (.imul, 1) := by decide +kernel
theorem dX13_writesNumber_35 : decode cX13_writesNumber 35 = .ok (.istore_n 3, 1) := by decide +kernel
theorem dX13_writesNumber_36 : decode cX13_writesNumber 36 = .ok (.goto (-13), 3) := by decide +kernel
theorem dX13_writesNumber_39 : decode cX13_writesNumber 39 = .ok (.iload_n 3, 1) := by decide +kernel
theorem dX13_writesNumber_40 : decode cX13_writesNumber 40 = .ok (.istore 4, 2) := by decide +kernel
theorem dX13_writesNumber_42 : decode cX13_writesNumber 42 = .ok (.iload 4, 2) := by decide +kernel
theorem dX13_writesNumber_44 : decode cX13_writesNumber 44 = .ok (.ifCond .le 27, 3) := by decide +kernel
theorem dX13_writesNumber_47 : decode cX13_writesNumber 47 = .ok (.aload_n 0, 1) := by decide +kernel
theorem dX13_writesNumber_48 : decode cX13_writesNumber 48 = .ok (.bipush 48, 2) := by decide +kernel
theorem dX13_writesNumber_50 : decode cX13_writesNumber 50 = .ok (.iload_n 2, 1) := by decide +kernel
theorem dX13_writesNumber_51 : decode cX13_writesNumber 51 = .ok (.iload 4, 2) := by decide +kernel
theorem dX13_writesNumber_53 : decode cX13_writesNumber 53 = .ok (.idiv, 1) := by decide +kernel
theorem dX13_writesNumber_54 : decode cX13_writesNumber 54 = .ok (.bipush 10, 2) := by decide +kernel
theorem dX13_writesNumber_56 : decode cX13_writesNumber 56 = .ok (.irem, 1) := by decide +kernel
theorem dX13_writesNumber_57 : decode cX13_writesNumber 57 = .ok (.iadd, 1) := by decide +kernel
theorem dX13_writesNumber_58 : decode cX13_writesNumber 58 = .ok (.invokevirtual 303, 3) := by decide +kernel
theorem dX13_writesNumber_61 : decode cX13_writesNumber 61 = .ok (.iload 4, 2) := by decide +kernel
theorem dX13_writesNumber_63 : decode cX13_writesNumber 63 = .ok (.bipush 10, 2) := by decide +kernel
theorem dX13_writesNumber_65 : decode cX13_writesNumber 65 = .ok (.idiv, 1) := by decide +kernel
theorem dX13_writesNumber_66 : decode cX13_writesNumber 66 = .ok (.istore 4, 2) := by decide +kernel
theorem dX13_writesNumber_68 : decode cX13_writesNumber 68 = .ok (.goto (-26), 3) := by decide +kernel
theorem dX13_writesNumber_71 : decode cX13_writesNumber 71 = .ok (.return_, 1) := by decide +kernel
theorem dX13_renderDiagram_0 : decode cX13_renderDiagram 0 = .ok (.aload_n 0, 1) := by decide +kernel
theorem dX13_renderDiagram_1 : decode cX13_renderDiagram 1 = .ok (.iconst 0, 1) := by decide +kernel
theorem dX13_renderDiagram_2 : decode cX13_renderDiagram 2 = .ok (.putfield 66, 3) := by decide +kernel
theorem dX13_renderDiagram_5 : decode cX13_renderDiagram 5 = .ok (.aload_n 0, 1) := by decide +kernel
theorem dX13_renderDiagram_6 : decode cX13_renderDiagram 6 = .ok (.invokevirtual 111, 3) := by decide +kernel
theorem dX13_renderDiagram_9 : decode cX13_renderDiagram 9 = .ok (.aload_n 0, 1) := by decide +kernel
theorem dX13_renderDiagram_10 : decode cX13_renderDiagram 10 = .ok (.iconst 0, 1) := by decide +kernel
theorem dX13_renderDiagram_11 : decode cX13_renderDiagram 11 = .ok (.putfield 300, 3) := by decide +kernel
theorem dX13_renderDiagram_14 : decode cX13_renderDiagram 14 = .ok (.iconst 0, 1) := by decide +kernel
theorem dX13_renderDiagram_15 : decode cX13_renderDiagram 15 = .ok (.istore_n 1, 1) := by decide +kernel
theorem dX13_renderDiagram_16 : decode cX13_renderDiagram 16 = .ok (.iload_n 1, 1) := by decide +kernel
theorem dX13_renderDiagram_17 : decode cX13_renderDiagram 17 = .ok (.iconst 2, 1) := by decide +kernel
theorem dX13_renderDiagram_18 : decode cX13_renderDiagram 18 = .ok (.aload_n 0, 1) := by decide +kernel
theorem dX13_renderDiagram_19 : decode cX13_renderDiagram 19 = .ok (.getfield 81, 3) := by decide +kernel
theorem dX13_renderDiagram_22 : decode cX13_renderDiagram 22 = .ok (.imul, 1) := by decide +kernel
theorem dX13_renderDiagram_23 : decode cX13_renderDiagram 23 = .ok (.if_icmp .ge 76, 3) := by decide +kernel
theorem dX13_renderDiagram_26 : decode cX13_renderDiagram 26 = .ok (.iload_n 1, 1) := by decide +kernel
theorem dX13_renderDiagram_27 : decode cX13_renderDiagram 27 = .ok (.ifCond .le 9, 3) := by decide +kernel
theorem dX13_renderDiagram_30 : decode cX13_renderDiagram 30 = .ok (.aload_n 0, 1) := by decide +kernel
theorem dX13_renderDiagram_31 : decode cX13_renderDiagram 31 = .ok (.bipush 32, 2) := by decide +kernel
theorem dX13_renderDiagram_33 : decode cX13_renderDiagram 33 = .ok (.invokevirtual 303, 3) := by decide +kernel
theorem dX13_renderDiagram_36 : decode cX13_renderDiagram 36 = .ok (.aload_n 0, 1) := by decide +kernel
theorem dX13_renderDiagram_37 : decode cX13_renderDiagram 37 = .ok (.aload_n 0, 1) := by decide +kernel
theorem dX13_renderDiagram_38 : decode cX13_renderDiagram 38 = .ok (.getfield 25, 3) := by decide +kernel
theorem dX13_renderDiagram_41 : decode cX13_renderDiagram 41 = .ok (.iload_n 1, 1) := by decide +kernel
theorem dX13_renderDiagram_42 : decode cX13_renderDiagram 42 = .ok (.iaload, 1) := by decide +kernel
theorem dX13_renderDiagram_43 : decode cX13_renderDiagram 43 = .ok (.iconst 1, 1) := by decide +kernel
theorem dX13_renderDiagram_44 : decode cX13_renderDiagram 44 = .ok (.if_icmp .ne 8, 3) := by decide +kernel
theorem dX13_renderDiagram_47 : decode cX13_renderDiagram 47 = .ok (.bipush 111, 2) := by decide +kernel
theorem dX13_renderDiagram_49 : decode cX13_renderDiagram 49 = .ok (.goto 5, 3) := by decide +kernel
theorem dX13_renderDiagram_52 : decode cX13_renderDiagram 52 = .ok (.bipush 117, 2) := by decide +kernel
theorem dX13_renderDiagram_54 : decode cX13_renderDiagram 54 = .ok (.invokevirtual 303, 3) := by decide +kernel
theorem dX13_renderDiagram_57 : decode cX13_renderDiagram 57 = .ok (.aload_n 0, 1) := by decide +kernel
theorem dX13_renderDiagram_58 : decode cX13_renderDiagram 58 = .ok (.aload_n 0, 1) := by decide +kernel
theorem dX13_renderDiagram_59 : decode cX13_renderDiagram 59 = .ok (.getfield 22, 3) := by decide +kernel
theorem dX13_renderDiagram_62 : decode cX13_renderDiagram 62 = .ok (.iload_n 1, 1) := by decide +kernel
theorem dX13_renderDiagram_63 : decode cX13_renderDiagram 63 = .ok (.iaload, 1) := by decide +kernel
theorem dX13_renderDiagram_64 : decode cX13_renderDiagram 64 = .ok (.invokevirtual 306, 3) := by decide +kernel
theorem dX13_renderDiagram_67 : decode cX13_renderDiagram 67 = .ok (.aload_n 0, 1) := by decide +kernel
theorem dX13_renderDiagram_68 : decode cX13_renderDiagram 68 = .ok (.aload_n 0, 1) := by decide +kernel
theorem dX13_renderDiagram_69 : decode cX13_renderDiagram 69 = .ok (.getfield 28, 3) := by decide +kernel
theorem dX13_renderDiagram_72 : decode cX13_renderDiagram 72 = .ok (.aload_n 0, 1) := by decide +kernel
theorem dX13_renderDiagram_73 : decode cX13_renderDiagram 73 = .ok (.getfield 22, 3) := by decide +kernel
theorem dX13_renderDiagram_76 : decode cX13_renderDiagram 76 = .ok (.iload_n 1, 1) := by decide +kernel
theorem dX13_renderDiagram_77 : decode cX13_renderDiagram 77 = .ok (.iaload, 1) := by decide +kernel
theorem dX13_renderDiagram_78 : decode cX13_renderDiagram 78 = .ok (.iaload, 1) := by decide +kernel
theorem dX13_renderDiagram_79 : decode cX13_renderDiagram 79 = .ok (.iconst 1, 1) := by decide +kernel
theorem dX13_renderDiagram_80 : decode cX13_renderDiagram 80 = .ok (.if_icmp .ne 8, 3) := by decide +kernel
theorem dX13_renderDiagram_83 : decode cX13_renderDiagram 83 = .ok (.bipush 43, 2) := by decide +kernel
theorem dX13_renderDiagram_85 : decode cX13_renderDiagram 85 = .ok (.goto 5, 3) := by decide +kernel
theorem dX13_renderDiagram_88 : decode cX13_renderDiagram 88 = .ok (.bipush 45, 2) := by decide +kernel
theorem dX13_renderDiagram_90 : decode cX13_renderDiagram 90 = .ok (.invokevirtual 303, 3) := by decide +kernel
theorem dX13_renderDiagram_93 : decode cX13_renderDiagram 93 = .ok (.iinc 1 1, 3) := by decide +kernel
theorem dX13_renderDiagram_96 : decode cX13_renderDiagram 96 = .ok (.goto (-80), 3) := by decide +kernel
theorem dX13_renderDiagram_99 : decode cX13_renderDiagram 99 = .ok (.aload_n 0, 1) := by decide +kernel
theorem dX13_renderDiagram_100 : decode cX13_renderDiagram 100 = .ok (.getfield 300, 3) := by decide +kernel
theorem dX13_renderDiagram_103 : decode cX13_renderDiagram 103 = .ok (.ireturn, 1) := by decide +kernel
theorem dX13_renderPolynomial_0 : decode cX13_renderPolynomial 0 = .ok (.aload_n 0, 1) := by decide +kernel
theorem dX13_renderPolynomial_1 : decode cX13_renderPolynomial 1 = .ok (.iconst 0, 1) := by decide +kernel
theorem dX13_renderPolynomial_2 : decode cX13_renderPolynomial 2 = .ok (.putfield 66, 3) := by decide +kernel
theorem dX13_renderPolynomial_5 : decode cX13_renderPolynomial 5 = .ok (.aload_n 0, 1) := by decide +kernel
theorem dX13_renderPolynomial_6 : decode cX13_renderPolynomial 6 = .ok (.invokevirtual 253, 3) := by decide +kernel
theorem dX13_renderPolynomial_9 : decode cX13_renderPolynomial 9 = .ok (.aload_n 0, 1) := by decide +kernel
theorem dX13_renderPolynomial_10 : decode cX13_renderPolynomial 10 = .ok (.iconst 0, 1) := by decide +kernel
theorem dX13_renderPolynomial_11 : decode cX13_renderPolynomial 11 = .ok (.putfield 300, 3) := by decide +kernel
theorem dX13_renderPolynomial_14 : decode cX13_renderPolynomial 14 = .ok (.iconst 0, 1) := by decide +kernel
theorem dX13_renderPolynomial_15 : decode cX13_renderPolynomial 15 = .ok (.istore_n 1, 1) := by decide +kernel
theorem dX13_renderPolynomial_16 : decode cX13_renderPolynomial 16 = .ok (.iload_n 1, 1) := by decide +kernel
theorem dX13_renderPolynomial_17 : decode cX13_renderPolynomial 17 = .ok (.bipush 101, 2) := by decide +kernel
theorem dX13_renderPolynomial_19 : decode cX13_renderPolynomial 19 = .ok (.if_icmp .ge 58, 3) := by decide +kernel
theorem dX13_renderPolynomial_22 : decode cX13_renderPolynomial 22 = .ok (.aload_n 0, 1) := by decide +kernel
theorem dX13_renderPolynomial_23 : decode cX13_renderPolynomial 23 = .ok (.getfield 40, 3) := by decide +kernel
theorem dX13_renderPolynomial_26 : decode cX13_renderPolynomial 26 = .ok (.iload_n 1, 1) := by decide +kernel
theorem dX13_renderPolynomial_27 : decode cX13_renderPolynomial 27 = .ok (.iaload, 1) := by decide +kernel
theorem dX13_renderPolynomial_28 : decode cX13_renderPolynomial 28 = .ok (.ifCond .ne 6, 3) := by decide +kernel
theorem dX13_renderPolynomial_31 : decode cX13_renderPolynomial 31 = .ok (.goto 40, 3) := by decide +kernel
theorem dX13_renderPolynomial_34 : decode cX13_renderPolynomial 34 = .ok (.aload_n 0, 1) := by decide +kernel
theorem dX13_renderPolynomial_35 : decode cX13_renderPolynomial 35 = .ok (.getfield 300, 3) := by decide +kernel
theorem dX13_renderPolynomial_38 : decode cX13_renderPolynomial 38 = .ok (.ifCond .le 9, 3) := by decide +kernel
theorem dX13_renderPolynomial_41 : decode cX13_renderPolynomial 41 = .ok (.aload_n 0, 1) := by decide +kernel
theorem dX13_renderPolynomial_42 : decode cX13_renderPolynomial 42 = .ok (.bipush 32, 2) := by decide +kernel
theorem dX13_renderPolynomial_44 : decode cX13_renderPolynomial 44 = .ok (.invokevirtual 303, 3) := by decide +kernel
theorem dX13_renderPolynomial_47 : decode cX13_renderPolynomial 47 = .ok (.aload_n 0, 1) := by decide +kernel
theorem dX13_renderPolynomial_48 : decode cX13_renderPolynomial 48 = .ok (.aload_n 0, 1) := by decide +kernel
theorem dX13_renderPolynomial_49 : decode cX13_renderPolynomial 49 = .ok (.getfield 40, 3) := by decide +kernel
theorem dX13_renderPolynomial_52 : decode cX13_renderPolynomial 52 = .ok (.iload_n 1, 1) := by decide +kernel
theorem dX13_renderPolynomial_53 : decode cX13_renderPolynomial 53 = .ok (.iaload, 1) := by decide +kernel
theorem dX13_renderPolynomial_54 : decode cX13_renderPolynomial 54 = .ok (.invokevirtual 306, 3) := by decide +kernel
theorem dX13_renderPolynomial_57 : decode cX13_renderPolynomial 57 = .ok (.aload_n 0, 1) := by decide +kernel
theorem dX13_renderPolynomial_58 : decode cX13_renderPolynomial 58 = .ok (.bipush 97, 2) := by decide +kernel
theorem dX13_renderPolynomial_60 : decode cX13_renderPolynomial 60 = .ok (.invokevirtual 303, 3) := by decide +kernel
theorem dX13_renderPolynomial_63 : decode cX13_renderPolynomial 63 = .ok (.aload_n 0, 1) := by decide +kernel
theorem dX13_renderPolynomial_64 : decode cX13_renderPolynomial 64 = .ok (.iload_n 1, 1) := by decide +kernel
theorem dX13_renderPolynomial_65 : decode cX13_renderPolynomial 65 = .ok (.bipush 50, 2) := by decide +kernel
theorem dX13_renderPolynomial_67 : decode cX13_renderPolynomial 67 = .ok (.isub, 1) := by decide +kernel
theorem dX13_renderPolynomial_68 : decode cX13_renderPolynomial 68 = .ok (.invokevirtual 306, 3) := by decide +kernel
theorem dX13_renderPolynomial_71 : decode cX13_renderPolynomial 71 = .ok (.iinc 1 1, 3) := by decide +kernel
theorem dX13_renderPolynomial_74 : decode cX13_renderPolynomial 74 = .ok (.goto (-58), 3) := by decide +kernel
theorem dX13_renderPolynomial_77 : decode cX13_renderPolynomial 77 = .ok (.aload_n 0, 1) := by decide +kernel
theorem dX13_renderPolynomial_78 : decode cX13_renderPolynomial 78 = .ok (.getfield 300, 3) := by decide +kernel
theorem dX13_renderPolynomial_81 : decode cX13_renderPolynomial 81 = .ok (.ireturn, 1) := by decide +kernel
theorem dX13_outputAt_0 : decode cX13_outputAt 0 = .ok (.aload_n 0, 1) := by decide +kernel
theorem dX13_outputAt_1 : decode cX13_outputAt 1 = .ok (.iconst 0, 1) := by decide +kernel
theorem dX13_outputAt_2 : decode cX13_outputAt 2 = .ok (.putfield 66, 3) := by decide +kernel
theorem dX13_outputAt_5 : decode cX13_outputAt 5 = .ok (.iload_n 1, 1) := by decide +kernel
theorem dX13_outputAt_6 : decode cX13_outputAt 6 = .ok (.iconst 0, 1) := by decide +kernel
theorem dX13_outputAt_7 : decode cX13_outputAt 7 = .ok (.aload_n 0, 1) := by decide +kernel
theorem dX13_outputAt_8 : decode cX13_outputAt 8 = .ok (.getfield 300, 3) := by decide +kernel
theorem dX13_outputAt_11 : decode cX13_outputAt 11 = .ok (.iconst 1, 1) := by decide +kernel
theorem dX13_outputAt_12 : decode cX13_outputAt 12 = .ok (.isub, 1) := by decide +kernel
theorem dX13_outputAt_13 : decode cX13_outputAt 13 = .ok (.invokestatic 107, 3) := by decide +kernel
theorem dX13_outputAt_16 : decode cX13_outputAt 16 = .ok (.ifCond .eq 10, 3) := by decide +kernel
theorem dX13_outputAt_19 : decode cX13_outputAt 19 = .ok (.aload_n 0, 1) := by decide +kernel
theorem dX13_outputAt_20 : decode cX13_outputAt 20 = .ok (.getfield 49, 3) := by decide +kernel
theorem dX13_outputAt_23 : decode cX13_outputAt 23 = .ok (.iload_n 1, 1) := by decide +kernel
theorem dX13_outputAt_24 : decode cX13_outputAt 24 = .ok (.caload, 1) := by decide +kernel
theorem dX13_outputAt_25 : decode cX13_outputAt 25 = .ok (.ireturn, 1) := by decide +kernel
theorem dX13_outputAt_26 : decode cX13_outputAt 26 = .ok (.aload_n 0, 1) := by decide +kernel
theorem dX13_outputAt_27 : decode cX13_outputAt 27 = .ok (.iconst 1, 1) := by decide +kernel
theorem dX13_outputAt_28 : decode cX13_outputAt 28 = .ok (.invokevirtual 125, 3) := by decide +kernel
theorem dX13_outputAt_31 : decode cX13_outputAt 31 = .ok (.i2c, 1) := by decide +kernel
theorem dX13_outputAt_32 : decode cX13_outputAt 32 = .ok (.ireturn, 1) := by decide +kernel
theorem dX13_type_0 : decode cX13_type 0 = .ok (.aload_n 0, 1) := by decide +kernel
theorem dX13_type_1 : decode cX13_type 1 = .ok (.iconst 0, 1) := by decide +kernel
theorem dX13_type_2 : decode cX13_type 2 = .ok (.putfield 66, 3) := by decide +kernel
theorem dX13_type_5 : decode cX13_type 5 = .ok (.iload_n 1, 1) := by decide +kernel
theorem dX13_type_6 : decode cX13_type 6 = .ok (.bipush 32, 2) := by decide +kernel
theorem dX13_type_8 : decode cX13_type 8 = .ok (.bipush 126, 2) := by decide +kernel
theorem dX13_type_10 : decode cX13_type 10 = .ok (.invokestatic 107, 3) := by decide +kernel
theorem dX13_type_13 : decode cX13_type 13 = .ok (.ifCond .ne 9, 3) := by decide +kernel
theorem dX13_type_16 : decode cX13_type 16 = .ok (.aload_n 0, 1) := by decide +kernel
theorem dX13_type_17 : decode cX13_type 17 = .ok (.iconst 1, 1) := by decide +kernel
theorem dX13_type_18 : decode cX13_type 18 = .ok (.invokevirtual 125, 3) := by decide +kernel
theorem dX13_type_21 : decode cX13_type 21 = .ok (.ireturn, 1) := by decide +kernel
theorem dX13_type_22 : decode cX13_type 22 = .ok (.aload_n 0, 1) := by decide +kernel
theorem dX13_type_23 : decode cX13_type 23 = .ok (.getfield 309, 3) := by decide +kernel
theorem dX13_type_26 : decode cX13_type 26 = .ok (.bipush 60, 2) := by decide +kernel
theorem dX13_type_28 : decode cX13_type 28 = .ok (.if_icmp .ne 9, 3) := by decide +kernel
theorem dX13_type_31 : decode cX13_type 31 = .ok (.aload_n 0, 1) := by decide +kernel
theorem dX13_type_32 : decode cX13_type 32 = .ok (.iconst 2, 1) := by decide +kernel
theorem dX13_type_33 : decode cX13_type 33 = .ok (.invokevirtual 125, 3) := by decide +kernel
theorem dX13_type_36 : decode cX13_type 36 = .ok (.ireturn, 1) := by decide +kernel
theorem dX13_type_37 : decode cX13_type 37 = .ok (.aload_n 0, 1) := by decide +kernel
theorem dX13_type_38 : decode cX13_type 38 = .ok (.getfield 53, 3) := by decide +kernel
theorem dX13_type_41 : decode cX13_type 41 = .ok (.aload_n 0, 1) := by decide +kernel
theorem dX13_type_42 : decode cX13_type 42 = .ok (.getfield 309, 3) := by decide +kernel
theorem dX13_type_45 : decode cX13_type 45 = .ok (.iload_n 1, 1) := by decide +kernel
theorem dX13_type_46 : decode cX13_type 46 = .ok (.castore, 1) := by decide +kernel
theorem dX13_type_47 : decode cX13_type 47 = .ok (.aload_n 0, 1) := by decide +kernel
theorem dX13_type_48 : decode cX13_type 48 = .ok (.dup, 1) := by decide +kernel
theorem dX13_type_49 : decode cX13_type 49 = .ok (.getfield 309, 3) := by decide +kernel
theorem dX13_type_52 : decode cX13_type 52 = .ok (.iconst 1, 1) := by decide +kernel
theorem dX13_type_53 : decode cX13_type 53 = .ok (.iadd, 1) := by decide +kernel
theorem dX13_type_54 : decode cX13_type 54 = .ok (.putfield 309, 3) := by decide +kernel
theorem dX13_type_57 : decode cX13_type 57 = .ok (.aload_n 0, 1) := by decide +kernel
theorem dX13_type_58 : decode cX13_type 58 = .ok (.getfield 309, 3) := by decide +kernel
theorem dX13_type_61 : decode cX13_type 61 = .ok (.ireturn, 1) := by decide +kernel
theorem dX13_nextChar_0 : decode cX13_nextChar 0 = .ok (.aload_n 0, 1) := by decide +kernel
theorem dX13_nextChar_1 : decode cX13_nextChar 1 = .ok (.getfield 312, 3) := by decide +kernel
theorem dX13_nextChar_4 : decode cX13_nextChar 4 = .ok (.aload_n 0, 1) := by decide +kernel
theorem dX13_nextChar_5 : decode cX13_nextChar 5 = .ok (.getfield 309, 3) := by decide +kernel
theorem dX13_nextChar_8 : decode cX13_nextChar 8 = .ok (.if_icmp .ge 15, 3) := by decide +kernel
theorem dX13_nextChar_11 : decode cX13_nextChar 11 = .ok (.aload_n 0, 1) := by decide +kernel
theorem dX13_nextChar_12 : decode cX13_nextChar 12 = .ok (.getfield 53, 3) := by decide +kernel
theorem dX13_nextChar_15 : decode cX13_nextChar 15 = .ok (.aload_n 0, 1) := by decide +kernel
theorem dX13_nextChar_16 : decode cX13_nextChar 16 = .ok (.getfield 312, 3) := by decide +kernel
theorem dX13_nextChar_19 : decode cX13_nextChar 19 = .ok (.caload, 1) := by decide +kernel
theorem dX13_nextChar_20 : decode cX13_nextChar 20 = .ok (.goto 4, 3) := by decide +kernel
theorem dX13_nextChar_23 : decode cX13_nextChar 23 = .ok (.iconst (-1), 1) := by decide +kernel
theorem dX13_nextChar_24 : decode cX13_nextChar 24 = .ok (.ireturn, 1) := by decide +kernel
theorem dX13_reads_0 : decode cX13_reads 0 = .ok (.aload_n 0, 1) := by decide +kernel
theorem dX13_reads_1 : decode cX13_reads 1 = .ok (.invokevirtual 315, 3) := by decide +kernel
theorem dX13_reads_4 : decode cX13_reads 4 = .ok (.iload_n 1, 1) := by decide +kernel
theorem dX13_reads_5 : decode cX13_reads 5 = .ok (.if_icmp .eq 5, 3) := by decide +kernel
theorem dX13_reads_8 : decode cX13_reads 8 = .ok (.iconst 0, 1) := by decide +kernel
theorem dX13_reads_9 : decode cX13_reads 9 = .ok (.ireturn, 1) := by decide +kernel
theorem dX13_reads_10 : decode cX13_reads 10 = .ok (.aload_n 0, 1) := by decide +kernel
theorem dX13_reads_11 : decode cX13_reads 11 = .ok (.dup, 1) := by decide +kernel
theorem dX13_reads_12 : decode cX13_reads 12 = .ok (.getfield 312, 3) := by decide +kernel
theorem dX13_reads_15 : decode cX13_reads 15 = .ok (.iconst 1, 1) := by decide +kernel
theorem dX13_reads_16 : decode cX13_reads 16 = .ok (.iadd, 1) := by decide +kernel
theorem dX13_reads_17 : decode cX13_reads 17 = .ok (.putfield 312, 3) := by decide +kernel
theorem dX13_reads_20 : decode cX13_reads 20 = .ok (.iconst 1, 1) := by decide +kernel
theorem dX13_reads_21 : decode cX13_reads 21 = .ok (.ireturn, 1) := by decide +kernel
theorem dX13_readsDigit_0 : decode cX13_readsDigit 0 = .ok (.aload_n 0, 1) := by decide +kernel
theorem dX13_readsDigit_1 : decode cX13_readsDigit 1 = .ok (.invokevirtual 315, 3) := by decide +kernel
theorem dX13_readsDigit_4 : decode cX13_readsDigit 4 = .ok (.bipush 48, 2) := by decide +kernel
theorem dX13_readsDigit_6 : decode cX13_readsDigit 6 = .ok (.bipush 57, 2) := by decide +kernel
theorem dX13_readsDigit_8 : decode cX13_readsDigit 8 = .ok (.invokestatic 107, 3) := by decide +kernel
theorem dX13_readsDigit_11 : decode cX13_readsDigit 11 = .ok (.ifCond .ne 5, 3) := by decide +kernel
theorem dX13_readsDigit_14 : decode cX13_readsDigit 14 = .ok (.iconst 0, 1) := by decide +kernel
theorem dX13_readsDigit_15 : decode cX13_readsDigit 15 = .ok (.ireturn, 1) := by decide +kernel
theorem dX13_readsDigit_16 : decode cX13_readsDigit 16 = .ok (.aload_n 0, 1) := by decide +kernel
theorem dX13_readsDigit_17 : decode cX13_readsDigit 17 = .ok (.getfield 63, 3) := by decide +kernel
theorem dX13_readsDigit_20 : decode cX13_readsDigit 20 = .ok (.iload_n 1, 1) := by decide +kernel
theorem dX13_readsDigit_21 : decode cX13_readsDigit 21 = .ok (.aload_n 0, 1) := by decide +kernel
theorem dX13_readsDigit_22 : decode cX13_readsDigit 22 = .ok (.invokevirtual 315, 3) := by decide +kernel
theorem dX13_readsDigit_25 : decode cX13_readsDigit 25 = .ok (.bipush 48, 2) := by decide +kernel
theorem dX13_readsDigit_27 : decode cX13_readsDigit 27 = .ok (.isub, 1) := by decide +kernel
theorem dX13_readsDigit_28 : decode cX13_readsDigit 28 = .ok (.iastore, 1) := by decide +kernel
theorem dX13_readsDigit_29 : decode cX13_readsDigit 29 = .ok (.aload_n 0, 1) := by decide +kernel
theorem dX13_readsDigit_30 : decode cX13_readsDigit 30 = .ok (.dup, 1) := by decide +kernel
theorem dX13_readsDigit_31 : decode cX13_readsDigit 31 = .ok (.getfield 312, 3) := by decide +kernel
theorem dX13_readsDigit_34 : decode cX13_readsDigit 34 = .ok (.iconst 1, 1) := by decide +kernel
theorem dX13_readsDigit_35 : decode cX13_readsDigit 35 = .ok (.iadd, 1) := by decide +kernel
theorem dX13_readsDigit_36 : decode cX13_readsDigit 36 = .ok (.putfield 312, 3) := by decide +kernel
theorem dX13_readsDigit_39 : decode cX13_readsDigit 39 = .ok (.iconst 1, 1) := by decide +kernel
theorem dX13_readsDigit_40 : decode cX13_readsDigit 40 = .ok (.ireturn, 1) := by decide +kernel
theorem dX13_readsNumber_0 : decode cX13_readsNumber 0 = .ok (.aload_n 0, 1) := by decide +kernel
theorem dX13_readsNumber_1 : decode cX13_readsNumber 1 = .ok (.iload_n 1, 1) := by decide +kernel
theorem dX13_readsNumber_2 : decode cX13_readsNumber 2 = .ok (.invokevirtual 318, 3) := by decide +kernel
theorem dX13_readsNumber_5 : decode cX13_readsNumber 5 = .ok (.ifCond .ne 5, 3) := by decide +kernel
theorem dX13_readsNumber_8 : decode cX13_readsNumber 8 = .ok (.iconst 0, 1) := by decide +kernel
theorem dX13_readsNumber_9 : decode cX13_readsNumber 9 = .ok (.ireturn, 1) := by decide +kernel
theorem dX13_readsNumber_10 : decode cX13_readsNumber 10 = .ok (.aload_n 0, 1) := by decide +kernel
theorem dX13_readsNumber_11 : decode cX13_readsNumber 11 = .ok (.invokevirtual 315, 3) := by decide +kernel
theorem dX13_readsNumber_14 : decode cX13_readsNumber 14 = .ok (.bipush 48, 2) := by decide +kernel
theorem dX13_readsNumber_16 : decode cX13_readsNumber 16 = .ok (.bipush 57, 2) := by decide +kernel
theorem dX13_readsNumber_18 : decode cX13_readsNumber 18 = .ok (.invokestatic 107, 3) := by decide +kernel
theorem dX13_readsNumber_21 : decode cX13_readsNumber 21 = .ok (.ifCond .ne 5, 3) := by decide +kernel
theorem dX13_readsNumber_24 : decode cX13_readsNumber 24 = .ok (.iconst 1, 1) := by decide +kernel
theorem dX13_readsNumber_25 : decode cX13_readsNumber 25 = .ok (.ireturn, 1) := by decide +kernel
theorem dX13_readsNumber_26 : decode cX13_readsNumber 26 = .ok (.aload_n 0, 1) := by decide +kernel
theorem dX13_readsNumber_27 : decode cX13_readsNumber 27 = .ok (.getfield 63, 3) := by decide +kernel
theorem dX13_readsNumber_30 : decode cX13_readsNumber 30 = .ok (.iload_n 1, 1) := by decide +kernel
theorem dX13_readsNumber_31 : decode cX13_readsNumber 31 = .ok (.bipush 10, 2) := by decide +kernel
theorem dX13_readsNumber_33 : decode cX13_readsNumber 33 = .ok (.aload_n 0, 1) := by decide +kernel
theorem dX13_readsNumber_34 : decode cX13_readsNumber 34 = .ok (.getfield 63, 3) := by decide +kernel
theorem dX13_readsNumber_37 : decode cX13_readsNumber 37 = .ok (.iload_n 1, 1) := by decide +kernel
theorem dX13_readsNumber_38 : decode cX13_readsNumber 38 = .ok (.iaload, 1) := by decide +kernel
theorem dX13_readsNumber_39 : decode cX13_readsNumber 39 = .ok (.imul, 1) := by decide +kernel
theorem dX13_readsNumber_40 : decode cX13_readsNumber 40 = .ok (.aload_n 0, 1) := by decide +kernel
theorem dX13_readsNumber_41 : decode cX13_readsNumber 41 = .ok (.invokevirtual 315, 3) := by decide +kernel
theorem dX13_readsNumber_44 : decode cX13_readsNumber 44 = .ok (.iadd, 1) := by decide +kernel
theorem dX13_readsNumber_45 : decode cX13_readsNumber 45 = .ok (.bipush 48, 2) := by decide +kernel
theorem dX13_readsNumber_47 : decode cX13_readsNumber 47 = .ok (.isub, 1) := by decide +kernel
theorem dX13_readsNumber_48 : decode cX13_readsNumber 48 = .ok (.iastore, 1) := by decide +kernel
theorem dX13_readsNumber_49 : decode cX13_readsNumber 49 = .ok (.aload_n 0, 1) := by decide +kernel
theorem dX13_readsNumber_50 : decode cX13_readsNumber 50 = .ok (.dup, 1) := by decide +kernel
theorem dX13_readsNumber_51 : decode cX13_readsNumber 51 = .ok (.getfield 312, 3) := by decide +kernel
theorem dX13_readsNumber_54 : decode cX13_readsNumber 54 = .ok (.iconst 1, 1) := by decide +kernel
theorem dX13_readsNumber_55 : decode cX13_readsNumber 55 = .ok (.iadd, 1) := by decide +kernel
theorem dX13_readsNumber_56 : decode cX13_readsNumber 56 = .ok (.putfield 312, 3) := by decide +kernel
theorem dX13_readsNumber_59 : decode cX13_readsNumber 59 = .ok (.iconst 1, 1) := by decide +kernel
theorem dX13_readsNumber_60 : decode cX13_readsNumber 60 = .ok (.ireturn, 1) := by decide +kernel
theorem dX13_readsOne_0 : decode cX13_readsOne 0 = .ok (.aload_n 0, 1) := by decide +kernel
theorem dX13_readsOne_1 : decode cX13_readsOne 1 = .ok (.getfield 63, 3) := by decide +kernel
theorem dX13_readsOne_4 : decode cX13_readsOne 4 = .ok (.iload_n 1, 1) := by decide +kernel
theorem dX13_readsOne_5 : decode cX13_readsOne 5 = .ok (.aload_n 0, 1) := by decide +kernel
theorem dX13_readsOne_6 : decode cX13_readsOne 6 = .ok (.invokevirtual 315, 3) := by decide +kernel
theorem dX13_readsOne_9 : decode cX13_readsOne 9 = .ok (.iload_n 2, 1) := by decide +kernel
theorem dX13_readsOne_10 : decode cX13_readsOne 10 = .ok (.if_icmp .ne 7, 3) := by decide +kernel
theorem dX13_readsOne_13 : decode cX13_readsOne 13 = .ok (.iconst 1, 1) := by decide +kernel
theorem dX13_readsOne_14 : decode cX13_readsOne 14 = .ok (.goto 4, 3) := by decide +kernel
theorem dX13_readsOne_17 : decode cX13_readsOne 17 = .ok (.iconst 0, 1) := by decide +kernel
theorem dX13_readsOne_18 : decode cX13_readsOne 18 = .ok (.iastore, 1) := by decide +kernel
theorem dX13_readsOne_19 : decode cX13_readsOne 19 = .ok (.aload_n 0, 1) := by decide +kernel
theorem dX13_readsOne_20 : decode cX13_readsOne 20 = .ok (.iload_n 2, 1) := by decide +kernel
theorem dX13_readsOne_21 : decode cX13_readsOne 21 = .ok (.invokevirtual 321, 3) := by decide +kernel
theorem dX13_readsOne_24 : decode cX13_readsOne 24 = .ok (.ifCond .ne 11, 3) := by decide +kernel
theorem dX13_readsOne_27 : decode cX13_readsOne 27 = .ok (.aload_n 0, 1) := by decide +kernel
theorem dX13_readsOne_28 : decode cX13_readsOne 28 = .ok (.iload_n 3, 1) := by decide +kernel
theorem dX13_readsOne_29 : decode cX13_readsOne 29 = .ok (.invokevirtual 321, 3) := by decide +kernel
theorem dX13_readsOne_32 : decode cX13_readsOne 32 = .ok (.ifCond .eq 7, 3) := by decide +kernel
theorem dX13_readsOne_35 : decode cX13_readsOne 35 = .ok (.iconst 1, 1) := by decide +kernel
theorem dX13_readsOne_36 : decode cX13_readsOne 36 = .ok (.goto 4, 3) := by decide +kernel
theorem dX13_readsOne_39 : decode cX13_readsOne 39 = .ok (.iconst 0, 1) := by decide +kernel
theorem dX13_readsOne_40 : decode cX13_readsOne 40 = .ok (.ireturn, 1) := by decide +kernel
theorem dX13_readsU_0 : decode cX13_readsU 0 = .ok (.aload_n 0, 1) := by decide +kernel
theorem dX13_readsU_1 : decode cX13_readsU 1 = .ok (.bipush 110, 2) := by decide +kernel
theorem dX13_readsU_3 : decode cX13_readsU 3 = .ok (.invokevirtual 321, 3) := by decide +kernel
theorem dX13_readsU_6 : decode cX13_readsU 6 = .ok (.ifCond .ne 5, 3) := by decide +kernel
theorem dX13_readsU_9 : decode cX13_readsU 9 = .ok (.iconst 0, 1) := by decide +kernel
theorem dX13_readsU_10 : decode cX13_readsU 10 = .ok (.ireturn, 1) := by decide +kernel
theorem dX13_readsU_11 : decode cX13_readsU 11 = .ok (.aload_n 0, 1) := by decide +kernel
theorem dX13_readsU_12 : decode cX13_readsU 12 = .ok (.bipush 99, 2) := by decide +kernel
theorem dX13_readsU_14 : decode cX13_readsU 14 = .ok (.invokevirtual 321, 3) := by decide +kernel
theorem dX13_readsU_17 : decode cX13_readsU 17 = .ok (.ifCond .eq 53, 3) := by decide +kernel
theorem dX13_readsU_20 : decode cX13_readsU 20 = .ok (.aload_n 0, 1) := by decide +kernel
theorem dX13_readsU_21 : decode cX13_readsU 21 = .ok (.bipush 117, 2) := by decide +kernel
theorem dX13_readsU_23 : decode cX13_readsU 23 = .ok (.invokevirtual 321, 3) := by decide +kernel
theorem dX13_readsU_26 : decode cX13_readsU 26 = .ok (.ifCond .eq 42, 3) := by decide +kernel
theorem dX13_readsU_29 : decode cX13_readsU 29 = .ok (.aload_n 0, 1) := by decide +kernel
theorem dX13_readsU_30 : decode cX13_readsU 30 = .ok (.bipush 114, 2) := by decide +kernel
theorem dX13_readsU_32 : decode cX13_readsU 32 = .ok (.invokevirtual 321, 3) := by decide +kernel
theorem dX13_readsU_35 : decode cX13_readsU 35 = .ok (.ifCond .eq 33, 3) := by decide +kernel
theorem dX13_readsU_38 : decode cX13_readsU 38 = .ok (.aload_n 0, 1) := by decide +kernel
theorem dX13_readsU_39 : decode cX13_readsU 39 = .ok (.bipush 108, 2) := by decide +kernel
theorem dX13_readsU_41 : decode cX13_readsU 41 = .ok (.invokevirtual 321, 3) := by decide +kernel
theorem dX13_readsU_44 : decode cX13_readsU 44 = .ok (.ifCond .eq 24, 3) := by decide +kernel
theorem dX13_readsU_47 : decode cX13_readsU 47 = .ok (.aload_n 0, 1) := by decide +kernel
theorem dX13_readsU_48 : decode cX13_readsU 48 = .ok (.bipush 32, 2) := by decide +kernel
theorem dX13_readsU_50 : decode cX13_readsU 50 = .ok (.invokevirtual 321, 3) := by decide +kernel
theorem dX13_readsU_53 : decode cX13_readsU 53 = .ok (.ifCond .eq 15, 3) := by decide +kernel
theorem dX13_readsU_56 : decode cX13_readsU 56 = .ok (.aload_n 0, 1) := by decide +kernel
theorem dX13_readsU_57 : decode cX13_readsU 57 = .ok (.iconst 0, 1) := by decide +kernel
theorem dX13_readsU_58 : decode cX13_readsU 58 = .ok (.invokevirtual 318, 3) := by decide +kernel
theorem dX13_readsU_61 : decode cX13_readsU 61 = .ok (.ifCond .eq 7, 3) := by decide +kernel
theorem dX13_readsU_64 : decode cX13_readsU 64 = .ok (.iconst 1, 1) := by decide +kernel
theorem dX13_readsU_65 : decode cX13_readsU 65 = .ok (.goto 4, 3) := by decide +kernel
theorem dX13_readsU_68 : decode cX13_readsU 68 = .ok (.iconst 0, 1) := by decide +kernel
theorem dX13_readsU_69 : decode cX13_readsU 69 = .ok (.ireturn, 1) := by decide +kernel
theorem dX13_readsU_70 : decode cX13_readsU 70 = .ok (.aload_n 0, 1) := by decide +kernel
theorem dX13_readsU_71 : decode cX13_readsU 71 = .ok (.bipush 118, 2) := by decide +kernel
theorem dX13_readsU_73 : decode cX13_readsU 73 = .ok (.putfield 324, 3) := by decide +kernel
theorem dX13_readsU_76 : decode cX13_readsU 76 = .ok (.aload_n 0, 1) := by decide +kernel
theorem dX13_readsU_77 : decode cX13_readsU 77 = .ok (.bipush 112, 2) := by decide +kernel
theorem dX13_readsU_79 : decode cX13_readsU 79 = .ok (.invokevirtual 321, 3) := by decide +kernel
theorem dX13_readsU_82 : decode cX13_readsU 82 = .ok (.ifCond .eq 68, 3) := by decide +kernel
theorem dX13_readsU_85 : decode cX13_readsU 85 = .ok (.aload_n 0, 1) := by decide +kernel
theorem dX13_readsU_86 : decode cX13_readsU 86 = .ok (.bipush 111, 2) := by decide +kernel
theorem dX13_readsU_88 : decode cX13_readsU 88 = .ok (.invokevirtual 321, 3) := by decide +kernel
theorem dX13_readsU_91 : decode cX13_readsU 91 = .ok (.ifCond .eq 59, 3) := by decide +kernel
theorem dX13_readsU_94 : decode cX13_readsU 94 = .ok (.aload_n 0, 1) := by decide +kernel
theorem dX13_readsU_95 : decode cX13_readsU 95 = .ok (.bipush 107, 2) := by decide +kernel
theorem dX13_readsU_97 : decode cX13_readsU 97 = .ok (.invokevirtual 321, 3) := by decide +kernel
theorem dX13_readsU_100 : decode cX13_readsU 100 = .ok (.ifCond .eq 50, 3) := by decide +kernel
theorem dX13_readsU_103 : decode cX13_readsU 103 = .ok (.aload_n 0, 1) := by decide +kernel
theorem dX13_readsU_104 : decode cX13_readsU 104 = .ok (.bipush 101, 2) := by decide +kernel
theorem dX13_readsU_106 : decode cX13_readsU 106 = .ok (.invokevirtual 321, 3) := by decide +kernel
theorem dX13_readsU_109 : decode cX13_readsU 109 = .ok (.ifCond .eq 41, 3) := by decide +kernel
theorem dX13_readsU_112 : decode cX13_readsU 112 = .ok (.aload_n 0, 1) := by decide +kernel
theorem dX13_readsU_113 : decode cX13_readsU 113 = .ok (.bipush 32, 2) := by decide +kernel
theorem dX13_readsU_115 : decode cX13_readsU 115 = .ok (.invokevirtual 321, 3) := by decide +kernel
theorem dX13_readsU_118 : decode cX13_readsU 118 = .ok (.ifCond .eq 32, 3) := by decide +kernel
theorem dX13_readsU_121 : decode cX13_readsU 121 = .ok (.aload_n 0, 1) := by decide +kernel
theorem dX13_readsU_122 : decode cX13_readsU 122 = .ok (.iconst 0, 1) := by decide +kernel
theorem dX13_readsU_123 : decode cX13_readsU 123 = .ok (.invokevirtual 318, 3) := by decide +kernel
theorem dX13_readsU_126 : decode cX13_readsU 126 = .ok (.ifCond .eq 24, 3) := by decide +kernel
theorem dX13_readsU_129 : decode cX13_readsU 129 = .ok (.aload_n 0, 1) := by decide +kernel
theorem dX13_readsU_130 : decode cX13_readsU 130 = .ok (.bipush 32, 2) := by decide +kernel
theorem dX13_readsU_132 : decode cX13_readsU 132 = .ok (.invokevirtual 321, 3) := by decide +kernel
theorem dX13_readsU_135 : decode cX13_readsU 135 = .ok (.ifCond .eq 15, 3) := by decide +kernel
theorem dX13_readsU_138 : decode cX13_readsU 138 = .ok (.aload_n 0, 1) := by decide +kernel
theorem dX13_readsU_139 : decode cX13_readsU 139 = .ok (.iconst 1, 1) := by decide +kernel
theorem dX13_readsU_140 : decode cX13_readsU 140 = .ok (.invokevirtual 318, 3) := by decide +kernel
theorem dX13_readsU_143 : decode cX13_readsU 143 = .ok (.ifCond .eq 7, 3) := by decide +kernel
theorem dX13_readsU_146 : decode cX13_readsU 146 = .ok (.iconst 1, 1) := by decide +kernel
theorem dX13_readsU_147 : decode cX13_readsU 147 = .ok (.goto 4, 3) := by decide +kernel
theorem dX13_readsU_150 : decode cX13_readsU 150 = .ok (.iconst 0, 1) := by decide +kernel
theorem dX13_readsU_151 : decode cX13_readsU 151 = .ok (.ireturn, 1) := by decide +kernel
theorem dX13_readsP_0 : decode cX13_readsP 0 = .ok (.aload_n 0, 1) := by decide +kernel
theorem dX13_readsP_1 : decode cX13_readsP 1 = .ok (.bipush 108, 2) := by decide +kernel
theorem dX13_readsP_3 : decode cX13_readsP 3 = .ok (.invokevirtual 321, 3) := by decide +kernel
theorem dX13_readsP_6 : decode cX13_readsP 6 = .ok (.ifCond .eq 51, 3) := by decide +kernel
theorem dX13_readsP_9 : decode cX13_readsP 9 = .ok (.aload_n 0, 1) := by decide +kernel
theorem dX13_readsP_10 : decode cX13_readsP 10 = .ok (.bipush 108, 2) := by decide +kernel
theorem dX13_readsP_12 : decode cX13_readsP 12 = .ok (.putfield 324, 3) := by decide +kernel
theorem dX13_readsP_15 : decode cX13_readsP 15 = .ok (.aload_n 0, 1) := by decide +kernel
theorem dX13_readsP_16 : decode cX13_readsP 16 = .ok (.bipush 97, 2) := by decide +kernel
theorem dX13_readsP_18 : decode cX13_readsP 18 = .ok (.invokevirtual 321, 3) := by decide +kernel
theorem dX13_readsP_21 : decode cX13_readsP 21 = .ok (.ifCond .eq 34, 3) := by decide +kernel
theorem dX13_readsP_24 : decode cX13_readsP 24 = .ok (.aload_n 0, 1) := by decide +kernel
theorem dX13_readsP_25 : decode cX13_readsP 25 = .ok (.bipush 121, 2) := by decide +kernel
theorem dX13_readsP_27 : decode cX13_readsP 27 = .ok (.invokevirtual 321, 3) := by decide +kernel
theorem dX13_readsP_30 : decode cX13_readsP 30 = .ok (.ifCond .eq 25, 3) := by decide +kernel
theorem dX13_readsP_33 : decode cX13_readsP 33 = .ok (.aload_n 0, 1) := by decide +kernel
theorem dX13_readsP_34 : decode cX13_readsP 34 = .ok (.bipush 101, 2) := by decide +kernel
theorem dX13_readsP_36 : decode cX13_readsP 36 = .ok (.invokevirtual 321, 3) := by decide +kernel
theorem dX13_readsP_39 : decode cX13_readsP 39 = .ok (.ifCond .eq 16, 3) := by decide +kernel
theorem dX13_readsP_42 : decode cX13_readsP 42 = .ok (.aload_n 0, 1) := by decide +kernel
theorem dX13_readsP_43 : decode cX13_readsP 43 = .ok (.bipush 114, 2) := by decide +kernel
theorem dX13_readsP_45 : decode cX13_readsP 45 = .ok (.invokevirtual 321, 3) := by decide +kernel
theorem dX13_readsP_48 : decode cX13_readsP 48 = .ok (.ifCond .eq 7, 3) := by decide +kernel
theorem dX13_readsP_51 : decode cX13_readsP 51 = .ok (.iconst 1, 1) := by decide +kernel
theorem dX13_readsP_52 : decode cX13_readsP 52 = .ok (.goto 4, 3) := by decide +kernel
theorem dX13_readsP_55 : decode cX13_readsP 55 = .ok (.iconst 0, 1) := by decide +kernel
theorem dX13_readsP_56 : decode cX13_readsP 56 = .ok (.ireturn, 1) := by decide +kernel
theorem dX13_readsP_57 : decode cX13_readsP 57 = .ok (.aload_n 0, 1) := by decide +kernel
theorem dX13_readsP_58 : decode cX13_readsP 58 = .ok (.bipush 111, 2) := by decide +kernel
theorem dX13_readsP_60 : decode cX13_readsP 60 = .ok (.invokevirtual 321, 3) := by decide +kernel
theorem dX13_readsP_63 : decode cX13_readsP 63 = .ok (.ifCond .eq 55, 3) := by decide +kernel
theorem dX13_readsP_66 : decode cX13_readsP 66 = .ok (.aload_n 0, 1) := by decide +kernel
theorem dX13_readsP_67 : decode cX13_readsP 67 = .ok (.bipush 107, 2) := by decide +kernel
theorem dX13_readsP_69 : decode cX13_readsP 69 = .ok (.invokevirtual 321, 3) := by decide +kernel
theorem dX13_readsP_72 : decode cX13_readsP 72 = .ok (.ifCond .eq 46, 3) := by decide +kernel
theorem dX13_readsP_75 : decode cX13_readsP 75 = .ok (.aload_n 0, 1) := by decide +kernel
theorem dX13_readsP_76 : decode cX13_readsP 76 = .ok (.bipush 101, 2) := by decide +kernel
theorem dX13_readsP_78 : decode cX13_readsP 78 = .ok (.invokevirtual 321, 3) := by decide +kernel
theorem dX13_readsP_81 : decode cX13_readsP 81 = .ok (.ifCond .eq 37, 3) := by decide +kernel
theorem dX13_readsP_84 : decode cX13_readsP 84 = .ok (.aload_n 0, 1) := by decide +kernel
theorem dX13_readsP_85 : decode cX13_readsP 85 = .ok (.bipush 32, 2) := by decide +kernel
theorem dX13_readsP_87 : decode cX13_readsP 87 = .ok (.invokevirtual 321, 3) := by decide +kernel
theorem dX13_readsP_90 : decode cX13_readsP 90 = .ok (.ifCond .eq 28, 3) := by decide +kernel
theorem dX13_readsP_93 : decode cX13_readsP 93 = .ok (.aload_n 0, 1) := by decide +kernel
theorem dX13_readsP_94 : decode cX13_readsP 94 = .ok (.iconst 0, 1) := by decide +kernel
theorem dX13_readsP_95 : decode cX13_readsP 95 = .ok (.invokevirtual 327, 3) := by decide +kernel
theorem dX13_readsP_98 : decode cX13_readsP 98 = .ok (.ifCond .eq 20, 3) := by decide +kernel
theorem dX13_readsP_101 : decode cX13_readsP 101 = .ok (.aload_n 0, 1) := by decide +kernel
theorem dX13_readsP_102 : decode cX13_readsP 102 = .ok (.bipush 32, 2) := by decide +kernel
theorem dX13_readsP_104 : decode cX13_readsP 104 = .ok (.invokevirtual 321, 3) := by decide +kernel
theorem dX13_readsP_107 : decode cX13_readsP 107 = .ok (.ifCond .eq 11, 3) := by decide +kernel
theorem dX13_readsP_110 : decode cX13_readsP 110 = .ok (.aload_n 0, 1) := by decide +kernel
theorem dX13_readsP_111 : decode cX13_readsP 111 = .ok (.iconst 1, 1) := by decide +kernel
theorem dX13_readsP_112 : decode cX13_readsP 112 = .ok (.invokevirtual 327, 3) := by decide +kernel
theorem dX13_readsP_115 : decode cX13_readsP 115 = .ok (.ifCond .ne 5, 3) := by decide +kernel
theorem dX13_readsP_118 : decode cX13_readsP 118 = .ok (.iconst 0, 1) := by decide +kernel
theorem dX13_readsP_119 : decode cX13_readsP 119 = .ok (.ireturn, 1) := by decide +kernel
theorem dX13_readsP_120 : decode cX13_readsP 120 = .ok (.aload_n 0, 1) := by decide +kernel
theorem dX13_readsP_121 : decode cX13_readsP 121 = .ok (.iconst 2, 1) := by decide +kernel
theorem dX13_readsP_122 : decode cX13_readsP 122 = .ok (.bipush 61, 2) := by decide +kernel
theorem dX13_readsP_124 : decode cX13_readsP 124 = .ok (.bipush 120, 2) := by decide +kernel
theorem dX13_readsP_126 : decode cX13_readsP 126 = .ok (.invokevirtual 330, 3) := by decide +kernel
theorem dX13_readsP_129 : decode cX13_readsP 129 = .ok (.ifCond .eq 19, 3) := by decide +kernel
theorem dX13_readsP_132 : decode cX13_readsP 132 = .ok (.aload_n 0, 1) := by decide +kernel
theorem dX13_readsP_133 : decode cX13_readsP 133 = .ok (.iconst 3, 1) := by decide +kernel
theorem dX13_readsP_134 : decode cX13_readsP 134 = .ok (.bipush 43, 2) := by decide +kernel
theorem dX13_readsP_136 : decode cX13_readsP 136 = .ok (.bipush 45, 2) := by decide +kernel
theorem dX13_readsP_138 : decode cX13_readsP 138 = .ok (.invokevirtual 330, 3) := by decide +kernel
theorem dX13_readsP_141 : decode cX13_readsP 141 = .ok (.ifCond .eq 7, 3) := by decide +kernel
theorem dX13_readsP_144 : decode cX13_readsP 144 = .ok (.iconst 1, 1) := by decide +kernel
theorem dX13_readsP_145 : decode cX13_readsP 145 = .ok (.goto 4, 3) := by decide +kernel
theorem dX13_readsP_148 : decode cX13_readsP 148 = .ok (.iconst 0, 1) := by decide +kernel
theorem dX13_readsP_149 : decode cX13_readsP 149 = .ok (.ireturn, 1) := by decide +kernel
theorem dX13_readsS_0 : decode cX13_readsS 0 = .ok (.aload_n 0, 1) := by decide +kernel
theorem dX13_readsS_1 : decode cX13_readsS 1 = .ok (.bipush 119, 2) := by decide +kernel
theorem dX13_readsS_3 : decode cX13_readsS 3 = .ok (.invokevirtual 321, 3) := by decide +kernel
theorem dX13_readsS_6 : decode cX13_readsS 6 = .ok (.ifCond .eq 62, 3) := by decide +kernel
theorem dX13_readsS_9 : decode cX13_readsS 9 = .ok (.aload_n 0, 1) := by decide +kernel
theorem dX13_readsS_10 : decode cX13_readsS 10 = .ok (.bipush 105, 2) := by decide +kernel
theorem dX13_readsS_12 : decode cX13_readsS 12 = .ok (.invokevirtual 321, 3) := by decide +kernel
theorem dX13_readsS_15 : decode cX13_readsS 15 = .ok (.ifCond .eq 51, 3) := by decide +kernel
theorem dX13_readsS_18 : decode cX13_readsS 18 = .ok (.aload_n 0, 1) := by decide +kernel
theorem dX13_readsS_19 : decode cX13_readsS 19 = .ok (.bipush 116, 2) := by decide +kernel
theorem dX13_readsS_21 : decode cX13_readsS 21 = .ok (.invokevirtual 321, 3) := by decide +kernel
theorem dX13_readsS_24 : decode cX13_readsS 24 = .ok (.ifCond .eq 42, 3) := by decide +kernel
theorem dX13_readsS_27 : decode cX13_readsS 27 = .ok (.aload_n 0, 1) := by decide +kernel
theorem dX13_readsS_28 : decode cX13_readsS 28 = .ok (.bipush 99, 2) := by decide +kernel
theorem dX13_readsS_30 : decode cX13_readsS 30 = .ok (.invokevirtual 321, 3) := by decide +kernel
theorem dX13_readsS_33 : decode cX13_readsS 33 = .ok (.ifCond .eq 33, 3) := by decide +kernel
theorem dX13_readsS_36 : decode cX13_readsS 36 = .ok (.aload_n 0, 1) := by decide +kernel
theorem dX13_readsS_37 : decode cX13_readsS 37 = .ok (.bipush 104, 2) := by decide +kernel
theorem dX13_readsS_39 : decode cX13_readsS 39 = .ok (.invokevirtual 321, 3) := by decide +kernel
theorem dX13_readsS_42 : decode cX13_readsS 42 = .ok (.ifCond .eq 24, 3) := by decide +kernel
theorem dX13_readsS_45 : decode cX13_readsS 45 = .ok (.aload_n 0, 1) := by decide +kernel
theorem dX13_readsS_46 : decode cX13_readsS 46 = .ok (.bipush 32, 2) := by decide +kernel
theorem dX13_readsS_48 : decode cX13_readsS 48 = .ok (.invokevirtual 321, 3) := by decide +kernel
theorem dX13_readsS_51 : decode cX13_readsS 51 = .ok (.ifCond .eq 15, 3) := by decide +kernel
theorem dX13_readsS_54 : decode cX13_readsS 54 = .ok (.aload_n 0, 1) := by decide +kernel
theorem dX13_readsS_55 : decode cX13_readsS 55 = .ok (.iconst 0, 1) := by decide +kernel
theorem dX13_readsS_56 : decode cX13_readsS 56 = .ok (.invokevirtual 318, 3) := by decide +kernel
theorem dX13_readsS_59 : decode cX13_readsS 59 = .ok (.ifCond .eq 7, 3) := by decide +kernel
theorem dX13_readsS_62 : decode cX13_readsS 62 = .ok (.iconst 1, 1) := by decide +kernel
theorem dX13_readsS_63 : decode cX13_readsS 63 = .ok (.goto 4, 3) := by decide +kernel
theorem dX13_readsS_66 : decode cX13_readsS 66 = .ok (.iconst 0, 1) := by decide +kernel
theorem dX13_readsS_67 : decode cX13_readsS 67 = .ok (.ireturn, 1) := by decide +kernel
theorem dX13_readsS_68 : decode cX13_readsS 68 = .ok (.aload_n 0, 1) := by decide +kernel
theorem dX13_readsS_69 : decode cX13_readsS 69 = .ok (.bipush 101, 2) := by decide +kernel
theorem dX13_readsS_71 : decode cX13_readsS 71 = .ok (.putfield 324, 3) := by decide +kernel
theorem dX13_readsS_74 : decode cX13_readsS 74 = .ok (.aload_n 0, 1) := by decide +kernel
theorem dX13_readsS_75 : decode cX13_readsS 75 = .ok (.bipush 101, 2) := by decide +kernel
theorem dX13_readsS_77 : decode cX13_readsS 77 = .ok (.invokevirtual 321, 3) := by decide +kernel
theorem dX13_readsS_80 : decode cX13_readsS 80 = .ok (.ifCond .eq 43, 3) := by decide +kernel
theorem dX13_readsS_83 : decode cX13_readsS 83 = .ok (.aload_n 0, 1) := by decide +kernel
theorem dX13_readsS_84 : decode cX13_readsS 84 = .ok (.bipush 116, 2) := by decide +kernel
theorem dX13_readsS_86 : decode cX13_readsS 86 = .ok (.invokevirtual 321, 3) := by decide +kernel
theorem dX13_readsS_89 : decode cX13_readsS 89 = .ok (.ifCond .eq 34, 3) := by decide +kernel
theorem dX13_readsS_92 : decode cX13_readsS 92 = .ok (.aload_n 0, 1) := by decide +kernel
theorem dX13_readsS_93 : decode cX13_readsS 93 = .ok (.bipush 116, 2) := by decide +kernel
theorem dX13_readsS_95 : decode cX13_readsS 95 = .ok (.invokevirtual 321, 3) := by decide +kernel
theorem dX13_readsS_98 : decode cX13_readsS 98 = .ok (.ifCond .eq 25, 3) := by decide +kernel
theorem dX13_readsS_101 : decode cX13_readsS 101 = .ok (.aload_n 0, 1) := by decide +kernel
theorem dX13_readsS_102 : decode cX13_readsS 102 = .ok (.bipush 108, 2) := by decide +kernel
theorem dX13_readsS_104 : decode cX13_readsS 104 = .ok (.invokevirtual 321, 3) := by decide +kernel
theorem dX13_readsS_107 : decode cX13_readsS 107 = .ok (.ifCond .eq 16, 3) := by decide +kernel
theorem dX13_readsS_110 : decode cX13_readsS 110 = .ok (.aload_n 0, 1) := by decide +kernel
theorem dX13_readsS_111 : decode cX13_readsS 111 = .ok (.bipush 101, 2) := by decide +kernel
theorem dX13_readsS_113 : decode cX13_readsS 113 = .ok (.invokevirtual 321, 3) := by decide +kernel
theorem dX13_readsS_116 : decode cX13_readsS 116 = .ok (.ifCond .eq 7, 3) := by decide +kernel
theorem dX13_readsS_119 : decode cX13_readsS 119 = .ok (.iconst 1, 1) := by decide +kernel
theorem dX13_readsS_120 : decode cX13_readsS 120 = .ok (.goto 4, 3) := by decide +kernel
theorem dX13_readsS_123 : decode cX13_readsS 123 = .ok (.iconst 0, 1) := by decide +kernel
theorem dX13_readsS_124 : decode cX13_readsS 124 = .ok (.ireturn, 1) := by decide +kernel
theorem dX13_readsR_0 : decode cX13_readsR 0 = .ok (.aload_n 0, 1) := by decide +kernel
theorem dX13_readsR_1 : decode cX13_readsR 1 = .ok (.bipush 101, 2) := by decide +kernel
theorem dX13_readsR_3 : decode cX13_readsR 3 = .ok (.invokevirtual 321, 3) := by decide +kernel
theorem dX13_readsR_6 : decode cX13_readsR 6 = .ok (.ifCond .ne 5, 3) := by decide +kernel
theorem dX13_readsR_9 : decode cX13_readsR 9 = .ok (.iconst 0, 1) := by decide +kernel
theorem dX13_readsR_10 : decode cX13_readsR 10 = .ok (.ireturn, 1) := by decide +kernel
theorem dX13_readsR_11 : decode cX13_readsR 11 = .ok (.aload_n 0, 1) := by decide +kernel
theorem dX13_readsR_12 : decode cX13_readsR 12 = .ok (.bipush 118, 2) := by decide +kernel
theorem dX13_readsR_14 : decode cX13_readsR 14 = .ok (.invokevirtual 321, 3) := by decide +kernel
theorem dX13_readsR_17 : decode cX13_readsR 17 = .ok (.ifCond .eq 45, 3) := by decide +kernel
theorem dX13_readsR_20 : decode cX13_readsR 20 = .ok (.aload_n 0, 1) := by decide +kernel
theorem dX13_readsR_21 : decode cX13_readsR 21 = .ok (.bipush 101, 2) := by decide +kernel
theorem dX13_readsR_23 : decode cX13_readsR 23 = .ok (.invokevirtual 321, 3) := by decide +kernel
theorem dX13_readsR_26 : decode cX13_readsR 26 = .ok (.ifCond .eq 34, 3) := by decide +kernel
theorem dX13_readsR_29 : decode cX13_readsR 29 = .ok (.aload_n 0, 1) := by decide +kernel
theorem dX13_readsR_30 : decode cX13_readsR 30 = .ok (.bipush 114, 2) := by decide +kernel
theorem dX13_readsR_32 : decode cX13_readsR 32 = .ok (.invokevirtual 321, 3) := by decide +kernel
theorem dX13_readsR_35 : decode cX13_readsR 35 = .ok (.ifCond .eq 25, 3) := by decide +kernel
theorem dX13_readsR_38 : decode cX13_readsR 38 = .ok (.aload_n 0, 1) := by decide +kernel
theorem dX13_readsR_39 : decode cX13_readsR 39 = .ok (.bipush 115, 2) := by decide +kernel
theorem dX13_readsR_41 : decode cX13_readsR 41 = .ok (.invokevirtual 321, 3) := by decide +kernel
theorem dX13_readsR_44 : decode cX13_readsR 44 = .ok (.ifCond .eq 16, 3) := by decide +kernel
theorem dX13_readsR_47 : decode cX13_readsR 47 = .ok (.aload_n 0, 1) := by decide +kernel
theorem dX13_readsR_48 : decode cX13_readsR 48 = .ok (.bipush 101, 2) := by decide +kernel
theorem dX13_readsR_50 : decode cX13_readsR 50 = .ok (.invokevirtual 321, 3) := by decide +kernel
theorem dX13_readsR_53 : decode cX13_readsR 53 = .ok (.ifCond .eq 7, 3) := by decide +kernel
theorem dX13_readsR_56 : decode cX13_readsR 56 = .ok (.iconst 1, 1) := by decide +kernel
theorem dX13_readsR_57 : decode cX13_readsR 57 = .ok (.goto 4, 3) := by decide +kernel
theorem dX13_readsR_60 : decode cX13_readsR 60 = .ok (.iconst 0, 1) := by decide +kernel
theorem dX13_readsR_61 : decode cX13_readsR 61 = .ok (.ireturn, 1) := by decide +kernel
theorem dX13_readsR_62 : decode cX13_readsR 62 = .ok (.aload_n 0, 1) := by decide +kernel
theorem dX13_readsR_63 : decode cX13_readsR 63 = .ok (.bipush 100, 2) := by decide +kernel
theorem dX13_readsR_65 : decode cX13_readsR 65 = .ok (.putfield 324, 3) := by decide +kernel
theorem dX13_readsR_68 : decode cX13_readsR 68 = .ok (.aload_n 0, 1) := by decide +kernel
theorem dX13_readsR_69 : decode cX13_readsR 69 = .ok (.bipush 100, 2) := by decide +kernel
theorem dX13_readsR_71 : decode cX13_readsR 71 = .ok (.invokevirtual 321, 3) := by decide +kernel
theorem dX13_readsR_74 : decode cX13_readsR 74 = .ok (.ifCond .eq 34, 3) := by decide +kernel
theorem dX13_readsR_77 : decode cX13_readsR 77 = .ok (.aload_n 0, 1) := by decide +kernel
theorem dX13_readsR_78 : decode cX13_readsR 78 = .ok (.bipush 117, 2) := by decide +kernel
theorem dX13_readsR_80 : decode cX13_readsR 80 = .ok (.invokevirtual 321, 3) := by decide +kernel
theorem dX13_readsR_83 : decode cX13_readsR 83 = .ok (.ifCond .eq 25, 3) := by decide +kernel
theorem dX13_readsR_86 : decode cX13_readsR 86 = .ok (.aload_n 0, 1) := by decide +kernel
theorem dX13_readsR_87 : decode cX13_readsR 87 = .ok (.bipush 99, 2) := by decide +kernel
theorem dX13_readsR_89 : decode cX13_readsR 89 = .ok (.invokevirtual 321, 3) := by decide +kernel
theorem dX13_readsR_92 : decode cX13_readsR 92 = .ok (.ifCond .eq 16, 3) := by decide +kernel
theorem dX13_readsR_95 : decode cX13_readsR 95 = .ok (.aload_n 0, 1) := by decide +kernel
theorem dX13_readsR_96 : decode cX13_readsR 96 = .ok (.bipush 101, 2) := by decide +kernel
theorem dX13_readsR_98 : decode cX13_readsR 98 = .ok (.invokevirtual 321, 3) := by decide +kernel
theorem dX13_readsR_101 : decode cX13_readsR 101 = .ok (.ifCond .eq 7, 3) := by decide +kernel
theorem dX13_readsR_104 : decode cX13_readsR 104 = .ok (.iconst 1, 1) := by decide +kernel
theorem dX13_readsR_105 : decode cX13_readsR 105 = .ok (.goto 4, 3) := by decide +kernel
theorem dX13_readsR_108 : decode cX13_readsR 108 = .ok (.iconst 0, 1) := by decide +kernel
theorem dX13_readsR_109 : decode cX13_readsR 109 = .ok (.ireturn, 1) := by decide +kernel
theorem dX13_readsCommand_0 : decode cX13_readsCommand 0 = .ok (.aload_n 0, 1) := by decide +kernel
theorem dX13_readsCommand_1 : decode cX13_readsCommand 1 = .ok (.aload_n 0, 1) := by decide +kernel
theorem dX13_readsCommand_2 : decode cX13_readsCommand 2 = .ok (.invokevirtual 315, 3) := by decide +kernel
theorem dX13_readsCommand_5 : decode cX13_readsCommand 5 = .ok (.putfield 324, 3) := by decide +kernel
theorem dX13_readsCommand_8 : decode cX13_readsCommand 8 = .ok (.aload_n 0, 1) := by decide +kernel
theorem dX13_readsCommand_9 : decode cX13_readsCommand 9 = .ok (.bipush 99, 2) := by decide +kernel
theorem dX13_readsCommand_11 : decode cX13_readsCommand 11 = .ok (.invokevirtual 321, 3) := by decide +kernel
theorem dX13_readsCommand_14 : decode cX13_readsCommand 14 = .ok (.ifCond .eq 77, 3) := by decide +kernel
theorem dX13_readsCommand_17 : decode cX13_readsCommand 17 = .ok (.aload_n 0, 1) := by decide +kernel
theorem dX13_readsCommand_18 : decode cX13_readsCommand 18 = .ok (.bipush 117, 2) := by decide +kernel
theorem dX13_readsCommand_20 : decode cX13_readsCommand 20 = .ok (.invokevirtual 321, 3) := by decide +kernel
theorem dX13_readsCommand_23 : decode cX13_readsCommand 23 = .ok (.ifCond .eq 66, 3) := by decide +kernel
theorem dX13_readsCommand_26 : decode cX13_readsCommand 26 = .ok (.aload_n 0, 1) := by decide +kernel
theorem dX13_readsCommand_27 : decode cX13_readsCommand 27 = .ok (.bipush 114, 2) := by decide +kernel
theorem dX13_readsCommand_29 : decode cX13_readsCommand 29 = .ok (.invokevirtual 321, 3) := by decide +kernel
theorem dX13_readsCommand_32 : decode cX13_readsCommand 32 = .ok (.ifCond .eq 57, 3) := by decide +kernel
theorem dX13_readsCommand_35 : decode cX13_readsCommand 35 = .ok (.aload_n 0, 1) := by decide +kernel
theorem dX13_readsCommand_36 : decode cX13_readsCommand 36 = .ok (.bipush 108, 2) := by decide +kernel
theorem dX13_readsCommand_38 : decode cX13_readsCommand 38 = .ok (.invokevirtual 321, 3) := by decide +kernel
theorem dX13_readsCommand_41 : decode cX13_readsCommand 41 = .ok (.ifCond .eq 48, 3) := by decide +kernel
theorem dX13_readsCommand_44 : decode cX13_readsCommand 44 = .ok (.aload_n 0, 1) := by decide +kernel
theorem dX13_readsCommand_45 : decode cX13_readsCommand 45 = .ok (.bipush 32, 2) := by decide +kernel
theorem dX13_readsCommand_47 : decode cX13_readsCommand 47 = .ok (.invokevirtual 321, 3) := by decide +kernel
theorem dX13_readsCommand_50 : decode cX13_readsCommand 50 = .ok (.ifCond .eq 39, 3) := by decide +kernel
theorem dX13_readsCommand_53 : decode cX13_readsCommand 53 = .ok (.aload_n 0, 1) := by decide +kernel
theorem dX13_readsCommand_54 : decode cX13_readsCommand 54 = .ok (.iconst 0, 1) := by decide +kernel
theorem dX13_readsCommand_55 : decode cX13_readsCommand 55 = .ok (.invokevirtual 327, 3) := by decide +kernel
theorem dX13_readsCommand_58 : decode cX13_readsCommand 58 = .ok (.ifCond .eq 31, 3) := by decide +kernel
theorem dX13_readsCommand_61 : decode cX13_readsCommand 61 = .ok (.aload_n 0, 1) := by decide +kernel
theorem dX13_readsCommand_62 : decode cX13_readsCommand 62 = .ok (.iconst 1, 1) := by decide +kernel
theorem dX13_readsCommand_63 : decode cX13_readsCommand 63 = .ok (.bipush 43, 2) := by decide +kernel
theorem dX13_readsCommand_65 : decode cX13_readsCommand 65 = .ok (.bipush 45, 2) := by decide +kernel
theorem dX13_readsCommand_67 : decode cX13_readsCommand 67 = .ok (.invokevirtual 330, 3) := by decide +kernel
theorem dX13_readsCommand_70 : decode cX13_readsCommand 70 = .ok (.ifCond .eq 19, 3) := by decide +kernel
theorem dX13_readsCommand_73 : decode cX13_readsCommand 73 = .ok (.aload_n 0, 1) := by decide +kernel
theorem dX13_readsCommand_74 : decode cX13_readsCommand 74 = .ok (.iconst 2, 1) := by decide +kernel
theorem dX13_readsCommand_75 : decode cX13_readsCommand 75 = .ok (.bipush 111, 2) := by decide +kernel
theorem dX13_readsCommand_77 : decode cX13_readsCommand 77 = .ok (.bipush 117, 2) := by decide +kernel
theorem dX13_readsCommand_79 : decode cX13_readsCommand 79 = .ok (.invokevirtual 330, 3) := by decide +kernel
theorem dX13_readsCommand_82 : decode cX13_readsCommand 82 = .ok (.ifCond .eq 7, 3) := by decide +kernel
theorem dX13_readsCommand_85 : decode cX13_readsCommand 85 = .ok (.iconst 1, 1) := by decide +kernel
theorem dX13_readsCommand_86 : decode cX13_readsCommand 86 = .ok (.goto 4, 3) := by decide +kernel
theorem dX13_readsCommand_89 : decode cX13_readsCommand 89 = .ok (.iconst 0, 1) := by decide +kernel
theorem dX13_readsCommand_90 : decode cX13_readsCommand 90 = .ok (.ireturn, 1) := by decide +kernel
theorem dX13_readsCommand_91 : decode cX13_readsCommand 91 = .ok (.aload_n 0, 1) := by decide +kernel
theorem dX13_readsCommand_92 : decode cX13_readsCommand 92 = .ok (.bipush 117, 2) := by decide +kernel
theorem dX13_readsCommand_94 : decode cX13_readsCommand 94 = .ok (.invokevirtual 321, 3) := by decide +kernel
theorem dX13_readsCommand_97 : decode cX13_readsCommand 97 = .ok (.ifCond .eq 8, 3) := by decide +kernel
theorem dX13_readsCommand_100 : decode cX13_readsCommand 100 = .ok (.aload_n 0, 1) := by decide +kernel
theorem dX13_readsCommand_101 : decode cX13_readsCommand 101 = .ok (.invokevirtual 333, 3) := by decide +kernel
theorem dX13_readsCommand_104 : decode cX13_readsCommand 104 = .ok (.ireturn, 1) := by decide +kernel
theorem dX13_readsCommand_105 : decode cX13_readsCommand 105 = .ok (.aload_n 0, 1) := by decide +kernel
theorem dX13_readsCommand_106 : decode cX13_readsCommand 106 = .ok (.bipush 112, 2) := by decide +kernel
theorem dX13_readsCommand_108 : decode cX13_readsCommand 108 = .ok (.invokevirtual 321, 3) := by decide +kernel
theorem dX13_readsCommand_111 : decode cX13_readsCommand 111 = .ok (.ifCond .eq 8, 3) := by decide +kernel
theorem dX13_readsCommand_114 : decode cX13_readsCommand 114 = .ok (.aload_n 0, 1) := by decide +kernel
theorem dX13_readsCommand_115 : decode cX13_readsCommand 115 = .ok (.invokevirtual 336, 3) := by decide +kernel
theorem dX13_readsCommand_118 : decode cX13_readsCommand 118 = .ok (.ireturn, 1) := by decide +kernel
theorem dX13_readsCommand_119 : decode cX13_readsCommand 119 = .ok (.aload_n 0, 1) := by decide +kernel
theorem dX13_readsCommand_120 : decode cX13_readsCommand 120 = .ok (.bipush 115, 2) := by decide +kernel
theorem dX13_readsCommand_122 : decode cX13_readsCommand 122 = .ok (.invokevirtual 321, 3) := by decide +kernel
theorem dX13_readsCommand_125 : decode cX13_readsCommand 125 = .ok (.ifCond .eq 8, 3) := by decide +kernel
theorem dX13_readsCommand_128 : decode cX13_readsCommand 128 = .ok (.aload_n 0, 1) := by decide +kernel
theorem dX13_readsCommand_129 : decode cX13_readsCommand 129 = .ok (.invokevirtual 339, 3) := by decide +kernel
theorem dX13_readsCommand_132 : decode cX13_readsCommand 132 = .ok (.ireturn, 1) := by decide +kernel
theorem dX13_readsCommand_133 : decode cX13_readsCommand 133 = .ok (.aload_n 0, 1) := by decide +kernel
theorem dX13_readsCommand_134 : decode cX13_readsCommand 134 = .ok (.bipush 109, 2) := by decide +kernel
theorem dX13_readsCommand_136 : decode cX13_readsCommand 136 = .ok (.invokevirtual 321, 3) := by decide +kernel
theorem dX13_readsCommand_139 : decode cX13_readsCommand 139 = .ok (.ifCond .eq 54, 3) := by decide +kernel
theorem dX13_readsCommand_142 : decode cX13_readsCommand 142 = .ok (.aload_n 0, 1) := by decide +kernel
theorem dX13_readsCommand_143 : decode cX13_readsCommand 143 = .ok (.bipush 105, 2) := by decide +kernel
theorem dX13_readsCommand_145 : decode cX13_readsCommand 145 = .ok (.invokevirtual 321, 3) := by decide +kernel
theorem dX13_readsCommand_148 : decode cX13_readsCommand 148 = .ok (.ifCond .eq 43, 3) := by decide +kernel
theorem dX13_readsCommand_151 : decode cX13_readsCommand 151 = .ok (.aload_n 0, 1) := by decide +kernel
theorem dX13_readsCommand_152 : decode cX13_readsCommand 152 = .ok (.bipush 114, 2) := by decide +kernel
theorem dX13_readsCommand_154 : decode cX13_readsCommand 154 = .ok (.invokevirtual 321, 3) := by decide +kernel
theorem dX13_readsCommand_157 : decode cX13_readsCommand 157 = .ok (.ifCond .eq 34, 3) := by decide +kernel
theorem dX13_readsCommand_160 : decode cX13_readsCommand 160 = .ok (.aload_n 0, 1) := by decide +kernel
theorem dX13_readsCommand_161 : decode cX13_readsCommand 161 = .ok (.bipush 114, 2) := by decide +kernel
theorem dX13_readsCommand_163 : decode cX13_readsCommand 163 = .ok (.invokevirtual 321, 3) := by decide +kernel
theorem dX13_readsCommand_166 : decode cX13_readsCommand 166 = .ok (.ifCond .eq 25, 3) := by decide +kernel
theorem dX13_readsCommand_169 : decode cX13_readsCommand 169 = .ok (.aload_n 0, 1) := by decide +kernel
theorem dX13_readsCommand_170 : decode cX13_readsCommand 170 = .ok (.bipush 111, 2) := by decide +kernel
theorem dX13_readsCommand_172 : decode cX13_readsCommand 172 = .ok (.invokevirtual 321, 3) := by decide +kernel
theorem dX13_readsCommand_175 : decode cX13_readsCommand 175 = .ok (.ifCond .eq 16, 3) := by decide +kernel
theorem dX13_readsCommand_178 : decode cX13_readsCommand 178 = .ok (.aload_n 0, 1) := by decide +kernel
theorem dX13_readsCommand_179 : decode cX13_readsCommand 179 = .ok (.bipush 114, 2) := by decide +kernel
theorem dX13_readsCommand_181 : decode cX13_readsCommand 181 = .ok (.invokevirtual 321, 3) := by decide +kernel
theorem dX13_readsCommand_184 : decode cX13_readsCommand 184 = .ok (.ifCond .eq 7, 3) := by decide +kernel
theorem dX13_readsCommand_187 : decode cX13_readsCommand 187 = .ok (.iconst 1, 1) := by decide +kernel
theorem dX13_readsCommand_188 : decode cX13_readsCommand 188 = .ok (.goto 4, 3) := by decide +kernel
theorem dX13_readsCommand_191 : decode cX13_readsCommand 191 = .ok (.iconst 0, 1) := by decide +kernel
theorem dX13_readsCommand_192 : decode cX13_readsCommand 192 = .ok (.ireturn, 1) := by decide +kernel
theorem dX13_readsCommand_193 : decode cX13_readsCommand 193 = .ok (.aload_n 0, 1) := by decide +kernel
theorem dX13_readsCommand_194 : decode cX13_readsCommand 194 = .ok (.bipush 114, 2) := by decide +kernel
theorem dX13_readsCommand_196 : decode cX13_readsCommand 196 = .ok (.invokevirtual 321, 3) := by decide +kernel
theorem dX13_readsCommand_199 : decode cX13_readsCommand 199 = .ok (.ifCond .eq 8, 3) := by decide +kernel
theorem dX13_readsCommand_202 : decode cX13_readsCommand 202 = .ok (.aload_n 0, 1) := by decide +kernel
theorem dX13_readsCommand_203 : decode cX13_readsCommand 203 = .ok (.invokevirtual 342, 3) := by decide +kernel
theorem dX13_readsCommand_206 : decode cX13_readsCommand 206 = .ok (.ireturn, 1) := by decide +kernel
theorem dX13_readsCommand_207 : decode cX13_readsCommand 207 = .ok (.aload_n 0, 1) := by decide +kernel
theorem dX13_readsCommand_208 : decode cX13_readsCommand 208 = .ok (.bipush 116, 2) := by decide +kernel
theorem dX13_readsCommand_210 : decode cX13_readsCommand 210 = .ok (.invokevirtual 321, 3) := by decide +kernel
theorem dX13_readsCommand_213 : decode cX13_readsCommand 213 = .ok (.ifCond .eq 53, 3) := by decide +kernel
theorem dX13_readsCommand_216 : decode cX13_readsCommand 216 = .ok (.aload_n 0, 1) := by decide +kernel
theorem dX13_readsCommand_217 : decode cX13_readsCommand 217 = .ok (.bipush 117, 2) := by decide +kernel
theorem dX13_readsCommand_219 : decode cX13_readsCommand 219 = .ok (.invokevirtual 321, 3) := by decide +kernel
theorem dX13_readsCommand_222 : decode cX13_readsCommand 222 = .ok (.ifCond .eq 42, 3) := by decide +kernel
theorem dX13_readsCommand_225 : decode cX13_readsCommand 225 = .ok (.aload_n 0, 1) := by decide +kernel
theorem dX13_readsCommand_226 : decode cX13_readsCommand 226 = .ok (.bipush 114, 2) := by decide +kernel
theorem dX13_readsCommand_228 : decode cX13_readsCommand 228 = .ok (.invokevirtual 321, 3) := by decide +kernel
theorem dX13_readsCommand_231 : decode cX13_readsCommand 231 = .ok (.ifCond .eq 33, 3) := by decide +kernel
theorem dX13_readsCommand_234 : decode cX13_readsCommand 234 = .ok (.aload_n 0, 1) := by decide +kernel
theorem dX13_readsCommand_235 : decode cX13_readsCommand 235 = .ok (.bipush 110, 2) := by decide +kernel
theorem dX13_readsCommand_237 : decode cX13_readsCommand 237 = .ok (.invokevirtual 321, 3) := by decide +kernel
theorem dX13_readsCommand_240 : decode cX13_readsCommand 240 = .ok (.ifCond .eq 24, 3) := by decide +kernel
theorem dX13_readsCommand_243 : decode cX13_readsCommand 243 = .ok (.aload_n 0, 1) := by decide +kernel
theorem dX13_readsCommand_244 : decode cX13_readsCommand 244 = .ok (.bipush 32, 2) := by decide +kernel
theorem dX13_readsCommand_246 : decode cX13_readsCommand 246 = .ok (.invokevirtual 321, 3) := by decide +kernel
theorem dX13_readsCommand_249 : decode cX13_readsCommand 249 = .ok (.ifCond .eq 15, 3) := by decide +kernel
theorem dX13_readsCommand_252 : decode cX13_readsCommand 252 = .ok (.aload_n 0, 1) := by decide +kernel
theorem dX13_readsCommand_253 : decode cX13_readsCommand 253 = .ok (.iconst 0, 1) := by decide +kernel
theorem dX13_readsCommand_254 : decode cX13_readsCommand 254 = .ok (.invokevirtual 327, 3) := by decide +kernel
theorem dX13_readsCommand_257 : decode cX13_readsCommand 257 = .ok (.ifCond .eq 7, 3) := by decide +kernel
theorem dX13_readsCommand_260 : decode cX13_readsCommand 260 = .ok (.iconst 1, 1) := by decide +kernel
theorem dX13_readsCommand_261 : decode cX13_readsCommand 261 = .ok (.goto 4, 3) := by decide +kernel
theorem dX13_readsCommand_264 : decode cX13_readsCommand 264 = .ok (.iconst 0, 1) := by decide +kernel
theorem dX13_readsCommand_265 : decode cX13_readsCommand 265 = .ok (.ireturn, 1) := by decide +kernel
theorem dX13_readsCommand_266 : decode cX13_readsCommand 266 = .ok (.aload_n 0, 1) := by decide +kernel
theorem dX13_readsCommand_267 : decode cX13_readsCommand 267 = .ok (.bipush 98, 2) := by decide +kernel
theorem dX13_readsCommand_269 : decode cX13_readsCommand 269 = .ok (.invokevirtual 321, 3) := by decide +kernel
theorem dX13_readsCommand_272 : decode cX13_readsCommand 272 = .ok (.ifCond .eq 47, 3) := by decide +kernel
theorem dX13_readsCommand_275 : decode cX13_readsCommand 275 = .ok (.aload_n 0, 1) := by decide +kernel
theorem dX13_readsCommand_276 : decode cX13_readsCommand 276 = .ok (.bipush 101, 2) := by decide +kernel
theorem dX13_readsCommand_278 : decode cX13_readsCommand 278 = .ok (.invokevirtual 321, 3) := by decide +kernel
theorem dX13_readsCommand_281 : decode cX13_readsCommand 281 = .ok (.ifCond .eq 38, 3) := by decide +kernel
theorem dX13_readsCommand_284 : decode cX13_readsCommand 284 = .ok (.aload_n 0, 1) := by decide +kernel
theorem dX13_readsCommand_285 : decode cX13_readsCommand 285 = .ok (.bipush 116, 2) := by decide +kernel
theorem dX13_readsCommand_287 : decode cX13_readsCommand 287 = .ok (.invokevirtual 321, 3) := by decide +kernel
theorem dX13_readsCommand_290 : decode cX13_readsCommand 290 = .ok (.ifCond .eq 29, 3) := by decide +kernel
theorem dX13_readsCommand_293 : decode cX13_readsCommand 293 = .ok (.aload_n 0, 1) := by decide +kernel
theorem dX13_readsCommand_294 : decode cX13_readsCommand 294 = .ok (.bipush 32, 2) := by decide +kernel
theorem dX13_readsCommand_296 : decode cX13_readsCommand 296 = .ok (.invokevirtual 321, 3) := by decide +kernel
theorem dX13_readsCommand_299 : decode cX13_readsCommand 299 = .ok (.ifCond .eq 20, 3) := by decide +kernel
theorem dX13_readsCommand_302 : decode cX13_readsCommand 302 = .ok (.aload_n 0, 1) := by decide +kernel
theorem dX13_readsCommand_303 : decode cX13_readsCommand 303 = .ok (.iconst 0, 1) := by decide +kernel
theorem dX13_readsCommand_304 : decode cX13_readsCommand 304 = .ok (.invokevirtual 318, 3) := by decide +kernel
theorem dX13_readsCommand_307 : decode cX13_readsCommand 307 = .ok (.ifCond .eq 12, 3) := by decide +kernel
theorem dX13_readsCommand_310 : decode cX13_readsCommand 310 = .ok (.aload_n 0, 1) := by decide +kernel
theorem dX13_readsCommand_311 : decode cX13_readsCommand 311 = .ok (.bipush 32, 2) := by decide +kernel
theorem dX13_readsCommand_313 : decode cX13_readsCommand 313 = .ok (.invokevirtual 321, 3) := by decide +kernel
theorem dX13_readsCommand_316 : decode cX13_readsCommand 316 = .ok (.ifCond .ne 5, 3) := by decide +kernel
theorem dX13_readsCommand_319 : decode cX13_readsCommand 319 = .ok (.iconst 0, 1) := by decide +kernel
theorem dX13_readsCommand_320 : decode cX13_readsCommand 320 = .ok (.ireturn, 1) := by decide +kernel
theorem dX13_readsCommand_321 : decode cX13_readsCommand 321 = .ok (.aload_n 0, 1) := by decide +kernel
theorem dX13_readsCommand_322 : decode cX13_readsCommand 322 = .ok (.iconst 1, 1) := by decide +kernel
theorem dX13_readsCommand_323 : decode cX13_readsCommand 323 = .ok (.invokevirtual 318, 3) := by decide +kernel
theorem dX13_readsCommand_326 : decode cX13_readsCommand 326 = .ok (.ifCond .eq 24, 3) := by decide +kernel
theorem dX13_readsCommand_329 : decode cX13_readsCommand 329 = .ok (.aload_n 0, 1) := by decide +kernel
theorem dX13_readsCommand_330 : decode cX13_readsCommand 330 = .ok (.bipush 58, 2) := by decide +kernel
theorem dX13_readsCommand_332 : decode cX13_readsCommand 332 = .ok (.invokevirtual 321, 3) := by decide +kernel
theorem dX13_readsCommand_335 : decode cX13_readsCommand 335 = .ok (.ifCond .eq 15, 3) := by decide +kernel
theorem dX13_readsCommand_338 : decode cX13_readsCommand 338 = .ok (.aload_n 0, 1) := by decide +kernel
theorem dX13_readsCommand_339 : decode cX13_readsCommand 339 = .ok (.iconst 2, 1) := by decide +kernel
theorem dX13_readsCommand_340 : decode cX13_readsCommand 340 = .ok (.invokevirtual 327, 3) := by decide +kernel
theorem dX13_readsCommand_343 : decode cX13_readsCommand 343 = .ok (.ifCond .eq 7, 3) := by decide +kernel
theorem dX13_readsCommand_346 : decode cX13_readsCommand 346 = .ok (.iconst 1, 1) := by decide +kernel
theorem dX13_readsCommand_347 : decode cX13_readsCommand 347 = .ok (.goto 4, 3) := by decide +kernel
theorem dX13_readsCommand_350 : decode cX13_readsCommand 350 = .ok (.iconst 0, 1) := by decide +kernel
theorem dX13_readsCommand_351 : decode cX13_readsCommand 351 = .ok (.ireturn, 1) := by decide +kernel
theorem dX13_readsAll_0 : decode cX13_readsAll 0 = .ok (.aload_n 0, 1) := by decide +kernel
theorem dX13_readsAll_1 : decode cX13_readsAll 1 = .ok (.iconst 0, 1) := by decide +kernel
theorem dX13_readsAll_2 : decode cX13_readsAll 2 = .ok (.putfield 312, 3) := by decide +kernel
theorem dX13_readsAll_5 : decode cX13_readsAll 5 = .ok (.iconst 1, 1) := by decide +kernel
theorem dX13_readsAll_6 : decode cX13_readsAll 6 = .ok (.istore_n 1, 1) := by decide +kernel
theorem dX13_readsAll_7 : decode cX13_readsAll 7 = .ok (.iload_n 1, 1) := by decide +kernel
theorem dX13_readsAll_8 : decode cX13_readsAll 8 = .ok (.ifCond .eq 22, 3) := by decide +kernel
theorem dX13_readsAll_11 : decode cX13_readsAll 11 = .ok (.aload_n 0, 1) := by decide +kernel
theorem dX13_readsAll_12 : decode cX13_readsAll 12 = .ok (.invokevirtual 345, 3) := by decide +kernel
theorem dX13_readsAll_15 : decode cX13_readsAll 15 = .ok (.ifCond .ne 5, 3) := by decide +kernel
theorem dX13_readsAll_18 : decode cX13_readsAll 18 = .ok (.iconst 0, 1) := by decide +kernel
theorem dX13_readsAll_19 : decode cX13_readsAll 19 = .ok (.ireturn, 1) := by decide +kernel
theorem dX13_readsAll_20 : decode cX13_readsAll 20 = .ok (.aload_n 0, 1) := by decide +kernel
theorem dX13_readsAll_21 : decode cX13_readsAll 21 = .ok (.bipush 59, 2) := by decide +kernel
theorem dX13_readsAll_23 : decode cX13_readsAll 23 = .ok (.invokevirtual 321, 3) := by decide +kernel
theorem dX13_readsAll_26 : decode cX13_readsAll 26 = .ok (.istore_n 1, 1) := by decide +kernel
theorem dX13_readsAll_27 : decode cX13_readsAll 27 = .ok (.goto (-20), 3) := by decide +kernel
theorem dX13_readsAll_30 : decode cX13_readsAll 30 = .ok (.aload_n 0, 1) := by decide +kernel
theorem dX13_readsAll_31 : decode cX13_readsAll 31 = .ok (.getfield 312, 3) := by decide +kernel
theorem dX13_readsAll_34 : decode cX13_readsAll 34 = .ok (.aload_n 0, 1) := by decide +kernel
theorem dX13_readsAll_35 : decode cX13_readsAll 35 = .ok (.getfield 309, 3) := by decide +kernel
theorem dX13_readsAll_38 : decode cX13_readsAll 38 = .ok (.if_icmp .ne 7, 3) := by decide +kernel
theorem dX13_readsAll_41 : decode cX13_readsAll 41 = .ok (.iconst 1, 1) := by decide +kernel
theorem dX13_readsAll_42 : decode cX13_readsAll 42 = .ok (.goto 4, 3) := by decide +kernel
theorem dX13_readsAll_45 : decode cX13_readsAll 45 = .ok (.iconst 0, 1) := by decide +kernel
theorem dX13_readsAll_46 : decode cX13_readsAll 46 = .ok (.ireturn, 1) := by decide +kernel
theorem dX13_notNow_0 : decode cX13_notNow 0 = .ok (.aload_n 0, 1) := by decide +kernel
theorem dX13_notNow_1 : decode cX13_notNow 1 = .ok (.getfield 63, 3) := by decide +kernel
theorem dX13_notNow_4 : decode cX13_notNow 4 = .ok (.iconst 0, 1) := by decide +kernel
theorem dX13_notNow_5 : decode cX13_notNow 5 = .ok (.iaload, 1) := by decide +kernel
theorem dX13_notNow_6 : decode cX13_notNow 6 = .ok (.istore_n 1, 1) := by decide +kernel
theorem dX13_notNow_7 : decode cX13_notNow 7 = .ok (.aload_n 0, 1) := by decide +kernel
theorem dX13_notNow_8 : decode cX13_notNow 8 = .ok (.getfield 63, 3) := by decide +kernel
theorem dX13_notNow_11 : decode cX13_notNow 11 = .ok (.iconst 1, 1) := by decide +kernel
theorem dX13_notNow_12 : decode cX13_notNow 12 = .ok (.iaload, 1) := by decide +kernel
theorem dX13_notNow_13 : decode cX13_notNow 13 = .ok (.istore_n 2, 1) := by decide +kernel
theorem dX13_notNow_14 : decode cX13_notNow 14 = .ok (.aload_n 0, 1) := by decide +kernel
theorem dX13_notNow_15 : decode cX13_notNow 15 = .ok (.getfield 324, 3) := by decide +kernel
theorem dX13_notNow_18 : decode cX13_notNow 18 = .ok (.tableswitch 159 98 118 #[141, 98, 159, 154, 159, 159, 159, 159, 159, 159, 136, 159, 159, 159, 110, 159, 159, 124, 130, 104, 117], 98) := by decide +kernel
theorem dX13_notNow_116 : decode cX13_notNow 116 = .ok (.aload_n 0, 1) := by decide +kernel
theorem dX13_notNow_117 : decode cX13_notNow 117 = .ok (.iload_n 1, 1) := by decide +kernel
theorem dX13_notNow_118 : decode cX13_notNow 118 = .ok (.invokevirtual 121, 3) := by decide +kernel
theorem dX13_notNow_121 : decode cX13_notNow 121 = .ok (.ireturn, 1) := by decide +kernel
theorem dX13_notNow_122 : decode cX13_notNow 122 = .ok (.aload_n 0, 1) := by decide +kernel
theorem dX13_notNow_123 : decode cX13_notNow 123 = .ok (.iload_n 1, 1) := by decide +kernel
theorem dX13_notNow_124 : decode cX13_notNow 124 = .ok (.invokevirtual 138, 3) := by decide +kernel
theorem dX13_notNow_127 : decode cX13_notNow 127 = .ok (.ireturn, 1) := by decide +kernel
theorem dX13_notNow_128 : decode cX13_notNow 128 = .ok (.aload_n 0, 1) := by decide +kernel
theorem dX13_notNow_129 : decode cX13_notNow 129 = .ok (.iload_n 1, 1) := by decide +kernel
theorem dX13_notNow_130 : decode cX13_notNow 130 = .ok (.iload_n 2, 1) := by decide +kernel
theorem dX13_notNow_131 : decode cX13_notNow 131 = .ok (.invokevirtual 148, 3) := by decide +kernel
theorem dX13_notNow_134 : decode cX13_notNow 134 = .ok (.ireturn, 1) := by decide +kernel
theorem dX13_notNow_135 : decode cX13_notNow 135 = .ok (.aload_n 0, 1) := by decide +kernel
theorem dX13_notNow_136 : decode cX13_notNow 136 = .ok (.iload_n 1, 1) := by decide +kernel
theorem dX13_notNow_137 : decode cX13_notNow 137 = .ok (.iload_n 2, 1) := by decide +kernel
theorem dX13_notNow_138 : decode cX13_notNow 138 = .ok (.invokevirtual 155, 3) := by decide +kernel
theorem dX13_notNow_141 : decode cX13_notNow 141 = .ok (.ireturn, 1) := by decide +kernel
theorem dX13_notNow_142 : decode cX13_notNow 142 = .ok (.aload_n 0, 1) := by decide +kernel
theorem dX13_notNow_143 : decode cX13_notNow 143 = .ok (.iload_n 1, 1) := by decide +kernel
theorem dX13_notNow_144 : decode cX13_notNow 144 = .ok (.invokevirtual 164, 3) := by decide +kernel
theorem dX13_notNow_147 : decode cX13_notNow 147 = .ok (.ireturn, 1) := by decide +kernel
theorem dX13_notNow_148 : decode cX13_notNow 148 = .ok (.aload_n 0, 1) := by decide +kernel
theorem dX13_notNow_149 : decode cX13_notNow 149 = .ok (.iload_n 1, 1) := by decide +kernel
theorem dX13_notNow_150 : decode cX13_notNow 150 = .ok (.invokevirtual 183, 3) := by decide +kernel
theorem dX13_notNow_153 : decode cX13_notNow 153 = .ok (.ireturn, 1) := by decide +kernel
theorem dX13_notNow_154 : decode cX13_notNow 154 = .ok (.aload_n 0, 1) := by decide +kernel
theorem dX13_notNow_155 : decode cX13_notNow 155 = .ok (.invokevirtual 276, 3) := by decide +kernel
theorem dX13_notNow_158 : decode cX13_notNow 158 = .ok (.ireturn, 1) := by decide +kernel
theorem dX13_notNow_159 : decode cX13_notNow 159 = .ok (.aload_n 0, 1) := by decide +kernel
theorem dX13_notNow_160 : decode cX13_notNow 160 = .ok (.iload_n 1, 1) := by decide +kernel
theorem dX13_notNow_161 : decode cX13_notNow 161 = .ok (.iload_n 2, 1) := by decide +kernel
theorem dX13_notNow_162 : decode cX13_notNow 162 = .ok (.aload_n 0, 1) := by decide +kernel
theorem dX13_notNow_163 : decode cX13_notNow 163 = .ok (.getfield 63, 3) := by decide +kernel
theorem dX13_notNow_166 : decode cX13_notNow 166 = .ok (.iconst 2, 1) := by decide +kernel
theorem dX13_notNow_167 : decode cX13_notNow 167 = .ok (.iaload, 1) := by decide +kernel
theorem dX13_notNow_168 : decode cX13_notNow 168 = .ok (.invokevirtual 285, 3) := by decide +kernel
theorem dX13_notNow_171 : decode cX13_notNow 171 = .ok (.ireturn, 1) := by decide +kernel
theorem dX13_notNow_172 : decode cX13_notNow 172 = .ok (.aload_n 0, 1) := by decide +kernel
theorem dX13_notNow_173 : decode cX13_notNow 173 = .ok (.invokevirtual 294, 3) := by decide +kernel
theorem dX13_notNow_176 : decode cX13_notNow 176 = .ok (.ireturn, 1) := by decide +kernel
theorem dX13_notNow_177 : decode cX13_notNow 177 = .ok (.iconst 0, 1) := by decide +kernel
theorem dX13_notNow_178 : decode cX13_notNow 178 = .ok (.ireturn, 1) := by decide +kernel
theorem dX13_doesNow_0 : decode cX13_doesNow 0 = .ok (.aload_n 0, 1) := by decide +kernel
theorem dX13_doesNow_1 : decode cX13_doesNow 1 = .ok (.getfield 63, 3) := by decide +kernel
theorem dX13_doesNow_4 : decode cX13_doesNow 4 = .ok (.iconst 0, 1) := by decide +kernel
theorem dX13_doesNow_5 : decode cX13_doesNow 5 = .ok (.iaload, 1) := by decide +kernel
theorem dX13_doesNow_6 : decode cX13_doesNow 6 = .ok (.istore_n 1, 1) := by decide +kernel
theorem dX13_doesNow_7 : decode cX13_doesNow 7 = .ok (.aload_n 0, 1) := by decide +kernel
theorem dX13_doesNow_8 : decode cX13_doesNow 8 = .ok (.getfield 63, 3) := by decide +kernel
theorem dX13_doesNow_11 : decode cX13_doesNow 11 = .ok (.iconst 1, 1) := by decide +kernel
theorem dX13_doesNow_12 : decode cX13_doesNow 12 = .ok (.iaload, 1) := by decide +kernel
theorem dX13_doesNow_13 : decode cX13_doesNow 13 = .ok (.istore_n 2, 1) := by decide +kernel
theorem dX13_doesNow_14 : decode cX13_doesNow 14 = .ok (.aload_n 0, 1) := by decide +kernel
theorem dX13_doesNow_15 : decode cX13_doesNow 15 = .ok (.getfield 324, 3) := by decide +kernel
theorem dX13_doesNow_18 : decode cX13_doesNow 18 = .ok (.tableswitch 188 98 118 #[175, 98, 165, 188, 188, 188, 188, 188, 188, 188, 170, 149, 188, 188, 117, 188, 154, 143, 159, 111, 136], 98) := by decide +kernel
theorem dX13_doesNow_116 : decode cX13_doesNow 116 = .ok (.aload_n 0, 1) := by decide +kernel
theorem dX13_doesNow_117 : decode cX13_doesNow 117 = .ok (.iload_n 1, 1) := by decide +kernel
theorem dX13_doesNow_118 : decode cX13_doesNow 118 = .ok (.iload_n 2, 1) := by decide +kernel
theorem dX13_doesNow_119 : decode cX13_doesNow 119 = .ok (.aload_n 0, 1) := by decide +kernel
theorem dX13_doesNow_120 : decode cX13_doesNow 120 = .ok (.getfield 63, 3) := by decide +kernel
theorem dX13_doesNow_123 : decode cX13_doesNow 123 = .ok (.iconst 2, 1) := by decide +kernel
theorem dX13_doesNow_124 : decode cX13_doesNow 124 = .ok (.iaload, 1) := by decide +kernel
theorem dX13_doesNow_125 : decode cX13_doesNow 125 = .ok (.invokevirtual 131, 3) := by decide +kernel
theorem dX13_doesNow_128 : decode cX13_doesNow 128 = .ok (.ireturn, 1) := by decide +kernel
theorem dX13_doesNow_129 : decode cX13_doesNow 129 = .ok (.aload_n 0, 1) := by decide +kernel
theorem dX13_doesNow_130 : decode cX13_doesNow 130 = .ok (.iload_n 1, 1) := by decide +kernel
theorem dX13_doesNow_131 : decode cX13_doesNow 131 = .ok (.invokevirtual 141, 3) := by decide +kernel
theorem dX13_doesNow_134 : decode cX13_doesNow 134 = .ok (.ireturn, 1) := by decide +kernel
theorem dX13_doesNow_135 : decode cX13_doesNow 135 = .ok (.aload_n 0, 1) := by decide +kernel
theorem dX13_doesNow_136 : decode cX13_doesNow 136 = .ok (.iload_n 1, 1) := by decide +kernel
theorem dX13_doesNow_137 : decode cX13_doesNow 137 = .ok (.iload_n 2, 1) := by decide +kernel
theorem dX13_doesNow_138 : decode cX13_doesNow 138 = .ok (.aload_n 0, 1) := by decide +kernel
theorem dX13_doesNow_139 : decode cX13_doesNow 139 = .ok (.getfield 63, 3) := by decide +kernel
theorem dX13_doesNow_142 : decode cX13_doesNow 142 = .ok (.iconst 2, 1) := by decide +kernel
theorem dX13_doesNow_143 : decode cX13_doesNow 143 = .ok (.iaload, 1) := by decide +kernel
theorem dX13_doesNow_144 : decode cX13_doesNow 144 = .ok (.aload_n 0, 1) := by decide +kernel
theorem dX13_doesNow_145 : decode cX13_doesNow 145 = .ok (.getfield 63, 3) := by decide +kernel
theorem dX13_doesNow_148 : decode cX13_doesNow 148 = .ok (.iconst 3, 1) := by decide +kernel
theorem dX13_doesNow_149 : decode cX13_doesNow 149 = .ok (.iaload, 1) := by decide +kernel
theorem dX13_doesNow_150 : decode cX13_doesNow 150 = .ok (.invokevirtual 151, 3) := by decide +kernel
theorem dX13_doesNow_153 : decode cX13_doesNow 153 = .ok (.ireturn, 1) := by decide +kernel
theorem dX13_doesNow_154 : decode cX13_doesNow 154 = .ok (.aload_n 0, 1) := by decide +kernel
theorem dX13_doesNow_155 : decode cX13_doesNow 155 = .ok (.iload_n 1, 1) := by decide +kernel
theorem dX13_doesNow_156 : decode cX13_doesNow 156 = .ok (.iload_n 2, 1) := by decide +kernel
theorem dX13_doesNow_157 : decode cX13_doesNow 157 = .ok (.invokevirtual 158, 3) := by decide +kernel
theorem dX13_doesNow_160 : decode cX13_doesNow 160 = .ok (.ireturn, 1) := by decide +kernel
theorem dX13_doesNow_161 : decode cX13_doesNow 161 = .ok (.aload_n 0, 1) := by decide +kernel
theorem dX13_doesNow_162 : decode cX13_doesNow 162 = .ok (.iload_n 1, 1) := by decide +kernel
theorem dX13_doesNow_163 : decode cX13_doesNow 163 = .ok (.invokevirtual 167, 3) := by decide +kernel
theorem dX13_doesNow_166 : decode cX13_doesNow 166 = .ok (.ireturn, 1) := by decide +kernel
theorem dX13_doesNow_167 : decode cX13_doesNow 167 = .ok (.aload_n 0, 1) := by decide +kernel
theorem dX13_doesNow_168 : decode cX13_doesNow 168 = .ok (.invokevirtual 174, 3) := by decide +kernel
theorem dX13_doesNow_171 : decode cX13_doesNow 171 = .ok (.ireturn, 1) := by decide +kernel
theorem dX13_doesNow_172 : decode cX13_doesNow 172 = .ok (.aload_n 0, 1) := by decide +kernel
theorem dX13_doesNow_173 : decode cX13_doesNow 173 = .ok (.invokevirtual 177, 3) := by decide +kernel
theorem dX13_doesNow_176 : decode cX13_doesNow 176 = .ok (.ireturn, 1) := by decide +kernel
theorem dX13_doesNow_177 : decode cX13_doesNow 177 = .ok (.aload_n 0, 1) := by decide +kernel
theorem dX13_doesNow_178 : decode cX13_doesNow 178 = .ok (.iload_n 1, 1) := by decide +kernel
theorem dX13_doesNow_179 : decode cX13_doesNow 179 = .ok (.invokevirtual 186, 3) := by decide +kernel
theorem dX13_doesNow_182 : decode cX13_doesNow 182 = .ok (.ireturn, 1) := by decide +kernel
theorem dX13_doesNow_183 : decode cX13_doesNow 183 = .ok (.aload_n 0, 1) := by decide +kernel
theorem dX13_doesNow_184 : decode cX13_doesNow 184 = .ok (.invokevirtual 192, 3) := by decide +kernel
theorem dX13_doesNow_187 : decode cX13_doesNow 187 = .ok (.ireturn, 1) := by decide +kernel
theorem dX13_doesNow_188 : decode cX13_doesNow 188 = .ok (.aload_n 0, 1) := by decide +kernel
theorem dX13_doesNow_189 : decode cX13_doesNow 189 = .ok (.invokevirtual 279, 3) := by decide +kernel
theorem dX13_doesNow_192 : decode cX13_doesNow 192 = .ok (.ireturn, 1) := by decide +kernel
theorem dX13_doesNow_193 : decode cX13_doesNow 193 = .ok (.aload_n 0, 1) := by decide +kernel
theorem dX13_doesNow_194 : decode cX13_doesNow 194 = .ok (.iload_n 1, 1) := by decide +kernel
theorem dX13_doesNow_195 : decode cX13_doesNow 195 = .ok (.iload_n 2, 1) := by decide +kernel
theorem dX13_doesNow_196 : decode cX13_doesNow 196 = .ok (.aload_n 0, 1) := by decide +kernel
theorem dX13_doesNow_197 : decode cX13_doesNow 197 = .ok (.getfield 63, 3) := by decide +kernel
theorem dX13_doesNow_200 : decode cX13_doesNow 200 = .ok (.iconst 2, 1) := by decide +kernel
theorem dX13_doesNow_201 : decode cX13_doesNow 201 = .ok (.iaload, 1) := by decide +kernel
theorem dX13_doesNow_202 : decode cX13_doesNow 202 = .ok (.invokevirtual 288, 3) := by decide +kernel
theorem dX13_doesNow_205 : decode cX13_doesNow 205 = .ok (.ireturn, 1) := by decide +kernel
theorem dX13_doesNow_206 : decode cX13_doesNow 206 = .ok (.aload_n 0, 1) := by decide +kernel
theorem dX13_doesNow_207 : decode cX13_doesNow 207 = .ok (.invokevirtual 297, 3) := by decide +kernel
theorem dX13_doesNow_210 : decode cX13_doesNow 210 = .ok (.ireturn, 1) := by decide +kernel
theorem dX13_doesAll_0 : decode cX13_doesAll 0 = .ok (.aload_n 0, 1) := by decide +kernel
theorem dX13_doesAll_1 : decode cX13_doesAll 1 = .ok (.iconst 0, 1) := by decide +kernel
theorem dX13_doesAll_2 : decode cX13_doesAll 2 = .ok (.putfield 348, 3) := by decide +kernel
theorem dX13_doesAll_5 : decode cX13_doesAll 5 = .ok (.aload_n 0, 1) := by decide +kernel
theorem dX13_doesAll_6 : decode cX13_doesAll 6 = .ok (.iconst 0, 1) := by decide +kernel
theorem dX13_doesAll_7 : decode cX13_doesAll 7 = .ok (.putfield 312, 3) := by decide +kernel
theorem dX13_doesAll_10 : decode cX13_doesAll 10 = .ok (.iconst 1, 1) := by decide +kernel
theorem dX13_doesAll_11 : decode cX13_doesAll 11 = .ok (.istore_n 1, 1) := by decide +kernel
theorem dX13_doesAll_12 : decode cX13_doesAll 12 = .ok (.iload_n 1, 1) := by decide +kernel
theorem dX13_doesAll_13 : decode cX13_doesAll 13 = .ok (.ifCond .eq 42, 3) := by decide +kernel
theorem dX13_doesAll_16 : decode cX13_doesAll 16 = .ok (.aload_n 0, 1) := by decide +kernel
theorem dX13_doesAll_17 : decode cX13_doesAll 17 = .ok (.invokevirtual 345, 3) := by decide +kernel
theorem dX13_doesAll_20 : decode cX13_doesAll 20 = .ok (.pop, 1) := by decide +kernel
theorem dX13_doesAll_21 : decode cX13_doesAll 21 = .ok (.aload_n 0, 1) := by decide +kernel
theorem dX13_doesAll_22 : decode cX13_doesAll 22 = .ok (.invokevirtual 351, 3) := by decide +kernel
theorem dX13_doesAll_25 : decode cX13_doesAll 25 = .ok (.ifCond .eq 5, 3) := by decide +kernel
theorem dX13_doesAll_28 : decode cX13_doesAll 28 = .ok (.iconst 0, 1) := by decide +kernel
theorem dX13_doesAll_29 : decode cX13_doesAll 29 = .ok (.ireturn, 1) := by decide +kernel
theorem dX13_doesAll_30 : decode cX13_doesAll 30 = .ok (.aload_n 0, 1) := by decide +kernel
theorem dX13_doesAll_31 : decode cX13_doesAll 31 = .ok (.invokevirtual 354, 3) := by decide +kernel
theorem dX13_doesAll_34 : decode cX13_doesAll 34 = .ok (.pop, 1) := by decide +kernel
theorem dX13_doesAll_35 : decode cX13_doesAll 35 = .ok (.aload_n 0, 1) := by decide +kernel
theorem dX13_doesAll_36 : decode cX13_doesAll 36 = .ok (.dup, 1) := by decide +kernel
theorem dX13_doesAll_37 : decode cX13_doesAll 37 = .ok (.getfield 348, 3) := by decide +kernel
theorem dX13_doesAll_40 : decode cX13_doesAll 40 = .ok (.iconst 1, 1) := by decide +kernel
theorem dX13_doesAll_41 : decode cX13_doesAll 41 = .ok (.iadd, 1) := by decide +kernel
theorem dX13_doesAll_42 : decode cX13_doesAll 42 = .ok (.putfield 348, 3) := by decide +kernel
theorem dX13_doesAll_45 : decode cX13_doesAll 45 = .ok (.aload_n 0, 1) := by decide +kernel
theorem dX13_doesAll_46 : decode cX13_doesAll 46 = .ok (.bipush 59, 2) := by decide +kernel
theorem dX13_doesAll_48 : decode cX13_doesAll 48 = .ok (.invokevirtual 321, 3) := by decide +kernel
theorem dX13_doesAll_51 : decode cX13_doesAll 51 = .ok (.istore_n 1, 1) := by decide +kernel
theorem dX13_doesAll_52 : decode cX13_doesAll 52 = .ok (.goto (-40), 3) := by decide +kernel
theorem dX13_doesAll_55 : decode cX13_doesAll 55 = .ok (.iconst 1, 1) := by decide +kernel
theorem dX13_doesAll_56 : decode cX13_doesAll 56 = .ok (.ireturn, 1) := by decide +kernel
theorem dX13_runScript_0 : decode cX13_runScript 0 = .ok (.aload_n 0, 1) := by decide +kernel
theorem dX13_runScript_1 : decode cX13_runScript 1 = .ok (.iconst 0, 1) := by decide +kernel
theorem dX13_runScript_2 : decode cX13_runScript 2 = .ok (.putfield 66, 3) := by decide +kernel
theorem dX13_runScript_5 : decode cX13_runScript 5 = .ok (.aload_n 0, 1) := by decide +kernel
theorem dX13_runScript_6 : decode cX13_runScript 6 = .ok (.invokevirtual 357, 3) := by decide +kernel
theorem dX13_runScript_9 : decode cX13_runScript 9 = .ok (.ifCond .ne 22, 3) := by decide +kernel
theorem dX13_runScript_12 : decode cX13_runScript 12 = .ok (.aload_n 0, 1) := by decide +kernel
theorem dX13_runScript_13 : decode cX13_runScript 13 = .ok (.aload_n 0, 1) := by decide +kernel
theorem dX13_runScript_14 : decode cX13_runScript 14 = .ok (.getfield 312, 3) := by decide +kernel
theorem dX13_runScript_17 : decode cX13_runScript 17 = .ok (.putfield 56, 3) := by decide +kernel
theorem dX13_runScript_20 : decode cX13_runScript 20 = .ok (.aload_n 0, 1) := by decide +kernel
theorem dX13_runScript_21 : decode cX13_runScript 21 = .ok (.iconst 0, 1) := by decide +kernel
theorem dX13_runScript_22 : decode cX13_runScript 22 = .ok (.putfield 309, 3) := by decide +kernel
theorem dX13_runScript_25 : decode cX13_runScript 25 = .ok (.aload_n 0, 1) := by decide +kernel
theorem dX13_runScript_26 : decode cX13_runScript 26 = .ok (.iconst 1, 1) := by decide +kernel
theorem dX13_runScript_27 : decode cX13_runScript 27 = .ok (.invokevirtual 125, 3) := by decide +kernel
theorem dX13_runScript_30 : decode cX13_runScript 30 = .ok (.ireturn, 1) := by decide +kernel
theorem dX13_runScript_31 : decode cX13_runScript 31 = .ok (.aload_n 0, 1) := by decide +kernel
theorem dX13_runScript_32 : decode cX13_runScript 32 = .ok (.invokevirtual 75, 3) := by decide +kernel
theorem dX13_runScript_35 : decode cX13_runScript 35 = .ok (.aload_n 0, 1) := by decide +kernel
theorem dX13_runScript_36 : decode cX13_runScript 36 = .ok (.invokevirtual 360, 3) := by decide +kernel
theorem dX13_runScript_39 : decode cX13_runScript 39 = .ok (.istore_n 1, 1) := by decide +kernel
theorem dX13_runScript_40 : decode cX13_runScript 40 = .ok (.aload_n 0, 1) := by decide +kernel
theorem dX13_runScript_41 : decode cX13_runScript 41 = .ok (.iconst 0, 1) := by decide +kernel
theorem dX13_runScript_42 : decode cX13_runScript 42 = .ok (.putfield 309, 3) := by decide +kernel
theorem dX13_runScript_45 : decode cX13_runScript 45 = .ok (.iload_n 1, 1) := by decide +kernel
theorem dX13_runScript_46 : decode cX13_runScript 46 = .ok (.ifCond .eq 12, 3) := by decide +kernel
theorem dX13_runScript_49 : decode cX13_runScript 49 = .ok (.aload_n 0, 1) := by decide +kernel
theorem dX13_runScript_50 : decode cX13_runScript 50 = .ok (.invokevirtual 78, 3) := by decide +kernel
theorem dX13_runScript_53 : decode cX13_runScript 53 = .ok (.aload_n 0, 1) := by decide +kernel
theorem dX13_runScript_54 : decode cX13_runScript 54 = .ok (.getfield 348, 3) := by decide +kernel
theorem dX13_runScript_57 : decode cX13_runScript 57 = .ok (.ireturn, 1) := by decide +kernel
theorem dX13_runScript_58 : decode cX13_runScript 58 = .ok (.aload_n 0, 1) := by decide +kernel
theorem dX13_runScript_59 : decode cX13_runScript 59 = .ok (.invokevirtual 363, 3) := by decide +kernel
theorem dX13_runScript_62 : decode cX13_runScript 62 = .ok (.aload_n 0, 1) := by decide +kernel
theorem dX13_runScript_63 : decode cX13_runScript 63 = .ok (.aload_n 0, 1) := by decide +kernel
theorem dX13_runScript_64 : decode cX13_runScript 64 = .ok (.getfield 348, 3) := by decide +kernel
theorem dX13_runScript_67 : decode cX13_runScript 67 = .ok (.putfield 60, 3) := by decide +kernel
theorem dX13_runScript_70 : decode cX13_runScript 70 = .ok (.aload_n 0, 1) := by decide +kernel
theorem dX13_runScript_71 : decode cX13_runScript 71 = .ok (.iconst 2, 1) := by decide +kernel
theorem dX13_runScript_72 : decode cX13_runScript 72 = .ok (.invokevirtual 125, 3) := by decide +kernel
theorem dX13_runScript_75 : decode cX13_runScript 75 = .ok (.ireturn, 1) := by decide +kernel
theorem dX13_errorPosition_0 : decode cX13_errorPosition 0 = .ok (.aload_n 0, 1) := by decide +kernel
theorem dX13_errorPosition_1 : decode cX13_errorPosition 1 = .ok (.iconst 0, 1) := by decide +kernel
theorem dX13_errorPosition_2 : decode cX13_errorPosition 2 = .ok (.putfield 66, 3) := by decide +kernel
theorem dX13_errorPosition_5 : decode cX13_errorPosition 5 = .ok (.aload_n 0, 1) := by decide +kernel
theorem dX13_errorPosition_6 : decode cX13_errorPosition 6 = .ok (.getfield 56, 3) := by decide +kernel
theorem dX13_errorPosition_9 : decode cX13_errorPosition 9 = .ok (.ifCond .ge 11, 3) := by decide +kernel
theorem dX13_errorPosition_12 : decode cX13_errorPosition 12 = .ok (.aload_n 0, 1) := by decide +kernel
theorem dX13_errorPosition_13 : decode cX13_errorPosition 13 = .ok (.iconst 1, 1) := by decide +kernel
theorem dX13_errorPosition_14 : decode cX13_errorPosition 14 = .ok (.invokevirtual 125, 3) := by decide +kernel
theorem dX13_errorPosition_17 : decode cX13_errorPosition 17 = .ok (.goto 7, 3) := by decide +kernel
theorem dX13_errorPosition_20 : decode cX13_errorPosition 20 = .ok (.aload_n 0, 1) := by decide +kernel
theorem dX13_errorPosition_21 : decode cX13_errorPosition 21 = .ok (.getfield 56, 3) := by decide +kernel
theorem dX13_errorPosition_24 : decode cX13_errorPosition 24 = .ok (.ireturn, 1) := by decide +kernel
theorem dX13_failedCommand_0 : decode cX13_failedCommand 0 = .ok (.aload_n 0, 1) := by decide +kernel
theorem dX13_failedCommand_1 : decode cX13_failedCommand 1 = .ok (.iconst 0, 1) := by decide +kernel
theorem dX13_failedCommand_2 : decode cX13_failedCommand 2 = .ok (.putfield 66, 3) := by decide +kernel
theorem dX13_failedCommand_5 : decode cX13_failedCommand 5 = .ok (.aload_n 0, 1) := by decide +kernel
theorem dX13_failedCommand_6 : decode cX13_failedCommand 6 = .ok (.getfield 60, 3) := by decide +kernel
theorem dX13_failedCommand_9 : decode cX13_failedCommand 9 = .ok (.ifCond .ge 11, 3) := by decide +kernel
theorem dX13_failedCommand_12 : decode cX13_failedCommand 12 = .ok (.aload_n 0, 1) := by decide +kernel
theorem dX13_failedCommand_13 : decode cX13_failedCommand 13 = .ok (.iconst 1, 1) := by decide +kernel
theorem dX13_failedCommand_14 : decode cX13_failedCommand 14 = .ok (.invokevirtual 125, 3) := by decide +kernel
theorem dX13_failedCommand_17 : decode cX13_failedCommand 17 = .ok (.goto 7, 3) := by decide +kernel
theorem dX13_failedCommand_20 : decode cX13_failedCommand 20 = .ok (.aload_n 0, 1) := by decide +kernel
theorem dX13_failedCommand_21 : decode cX13_failedCommand 21 = .ok (.getfield 60, 3) := by decide +kernel
theorem dX13_failedCommand_24 : decode cX13_failedCommand 24 = .ok (.ireturn, 1) := by decide +kernel
theorem dX13_undo_0 : decode cX13_undo 0 = .ok (.aload_n 0, 1) := by decide +kernel
theorem dX13_undo_1 : decode cX13_undo 1 = .ok (.iconst 0, 1) := by decide +kernel
theorem dX13_undo_2 : decode cX13_undo 2 = .ok (.putfield 66, 3) := by decide +kernel
theorem dX13_undo_5 : decode cX13_undo 5 = .ok (.aload_n 0, 1) := by decide +kernel
theorem dX13_undo_6 : decode cX13_undo 6 = .ok (.getfield 69, 3) := by decide +kernel
theorem dX13_undo_9 : decode cX13_undo 9 = .ok (.ifCond .ne 9, 3) := by decide +kernel
theorem dX13_undo_12 : decode cX13_undo 12 = .ok (.aload_n 0, 1) := by decide +kernel
theorem dX13_undo_13 : decode cX13_undo 13 = .ok (.iconst 1, 1) := by decide +kernel
theorem dX13_undo_14 : decode cX13_undo 14 = .ok (.invokevirtual 125, 3) := by decide +kernel
theorem dX13_undo_17 : decode cX13_undo 17 = .ok (.ireturn, 1) := by decide +kernel
theorem dX13_undo_18 : decode cX13_undo 18 = .ok (.aload_n 0, 1) := by decide +kernel
theorem dX13_undo_19 : decode cX13_undo 19 = .ok (.dup, 1) := by decide +kernel
theorem dX13_undo_20 : decode cX13_undo 20 = .ok (.getfield 69, 3) := by decide +kernel
theorem dX13_undo_23 : decode cX13_undo 23 = .ok (.iconst 1, 1) := by decide +kernel
theorem dX13_undo_24 : decode cX13_undo 24 = .ok (.isub, 1) := by decide +kernel
theorem dX13_undo_25 : decode cX13_undo 25 = .ok (.putfield 69, 3) := by decide +kernel
theorem dX13_undo_28 : decode cX13_undo 28 = .ok (.aload_n 0, 1) := by decide +kernel
theorem dX13_undo_29 : decode cX13_undo 29 = .ok (.getfield 72, 3) := by decide +kernel
theorem dX13_undo_32 : decode cX13_undo 32 = .ok (.aload_n 0, 1) := by decide +kernel
theorem dX13_undo_33 : decode cX13_undo 33 = .ok (.getfield 69, 3) := by decide +kernel
theorem dX13_undo_36 : decode cX13_undo 36 = .ok (.iadd, 1) := by decide +kernel
theorem dX13_undo_37 : decode cX13_undo 37 = .ok (.bipush 8, 2) := by decide +kernel
theorem dX13_undo_39 : decode cX13_undo 39 = .ok (.irem, 1) := by decide +kernel
theorem dX13_undo_40 : decode cX13_undo 40 = .ok (.istore_n 1, 1) := by decide +kernel
theorem dX13_undo_41 : decode cX13_undo 41 = .ok (.iconst 0, 1) := by decide +kernel
theorem dX13_undo_42 : decode cX13_undo 42 = .ok (.istore_n 2, 1) := by decide +kernel
theorem dX13_undo_43 : decode cX13_undo 43 = .ok (.iload_n 2, 1) := by decide +kernel
theorem dX13_undo_44 : decode cX13_undo 44 = .ok (.bipush 50, 2) := by decide +kernel
theorem dX13_undo_46 : decode cX13_undo 46 = .ok (.if_icmp .ge 26, 3) := by decide +kernel
theorem dX13_undo_49 : decode cX13_undo 49 = .ok (.aload_n 0, 1) := by decide +kernel
theorem dX13_undo_50 : decode cX13_undo 50 = .ok (.getfield 7, 3) := by decide +kernel
theorem dX13_undo_53 : decode cX13_undo 53 = .ok (.iload_n 2, 1) := by decide +kernel
theorem dX13_undo_54 : decode cX13_undo 54 = .ok (.aload_n 0, 1) := by decide +kernel
theorem dX13_undo_55 : decode cX13_undo 55 = .ok (.getfield 13, 3) := by decide +kernel
theorem dX13_undo_58 : decode cX13_undo 58 = .ok (.bipush 50, 2) := by decide +kernel
theorem dX13_undo_60 : decode cX13_undo 60 = .ok (.iload_n 1, 1) := by decide +kernel
theorem dX13_undo_61 : decode cX13_undo 61 = .ok (.imul, 1) := by decide +kernel
theorem dX13_undo_62 : decode cX13_undo 62 = .ok (.iload_n 2, 1) := by decide +kernel
theorem dX13_undo_63 : decode cX13_undo 63 = .ok (.iadd, 1) := by decide +kernel
theorem dX13_undo_64 : decode cX13_undo 64 = .ok (.iaload, 1) := by decide +kernel
theorem dX13_undo_65 : decode cX13_undo 65 = .ok (.iastore, 1) := by decide +kernel
theorem dX13_undo_66 : decode cX13_undo 66 = .ok (.iinc 2 1, 3) := by decide +kernel
theorem dX13_undo_69 : decode cX13_undo 69 = .ok (.goto (-26), 3) := by decide +kernel
theorem dX13_undo_72 : decode cX13_undo 72 = .ok (.aload_n 0, 1) := by decide +kernel
theorem dX13_undo_73 : decode cX13_undo 73 = .ok (.getfield 69, 3) := by decide +kernel
theorem dX13_undo_76 : decode cX13_undo 76 = .ok (.ireturn, 1) := by decide +kernel
theorem dX13_save_0 : decode cX13_save 0 = .ok (.aload_n 0, 1) := by decide +kernel
theorem dX13_save_1 : decode cX13_save 1 = .ok (.iconst 0, 1) := by decide +kernel
theorem dX13_save_2 : decode cX13_save 2 = .ok (.putfield 66, 3) := by decide +kernel
theorem dX13_save_5 : decode cX13_save 5 = .ok (.iconst 0, 1) := by decide +kernel
theorem dX13_save_6 : decode cX13_save 6 = .ok (.istore_n 1, 1) := by decide +kernel
theorem dX13_save_7 : decode cX13_save 7 = .ok (.iload_n 1, 1) := by decide +kernel
theorem dX13_save_8 : decode cX13_save 8 = .ok (.bipush 50, 2) := by decide +kernel
theorem dX13_save_10 : decode cX13_save 10 = .ok (.if_icmp .ge 21, 3) := by decide +kernel
theorem dX13_save_13 : decode cX13_save 13 = .ok (.aload_n 0, 1) := by decide +kernel
theorem dX13_save_14 : decode cX13_save 14 = .ok (.getfield 16, 3) := by decide +kernel
theorem dX13_save_17 : decode cX13_save 17 = .ok (.iload_n 1, 1) := by decide +kernel
theorem dX13_save_18 : decode cX13_save 18 = .ok (.aload_n 0, 1) := by decide +kernel
theorem dX13_save_19 : decode cX13_save 19 = .ok (.getfield 7, 3) := by decide +kernel
theorem dX13_save_22 : decode cX13_save 22 = .ok (.iload_n 1, 1) := by decide +kernel
theorem dX13_save_23 : decode cX13_save 23 = .ok (.iaload, 1) := by decide +kernel
theorem dX13_save_24 : decode cX13_save 24 = .ok (.iastore, 1) := by decide +kernel
theorem dX13_save_25 : decode cX13_save 25 = .ok (.iinc 1 1, 3) := by decide +kernel
theorem dX13_save_28 : decode cX13_save 28 = .ok (.goto (-21), 3) := by decide +kernel
theorem dX13_save_31 : decode cX13_save 31 = .ok (.aload_n 0, 1) := by decide +kernel
theorem dX13_save_32 : decode cX13_save 32 = .ok (.iconst 1, 1) := by decide +kernel
theorem dX13_save_33 : decode cX13_save 33 = .ok (.putfield 366, 3) := by decide +kernel
theorem dX13_save_36 : decode cX13_save 36 = .ok (.aload_n 0, 1) := by decide +kernel
theorem dX13_save_37 : decode cX13_save 37 = .ok (.getfield 7, 3) := by decide +kernel
theorem dX13_save_40 : decode cX13_save 40 = .ok (.iconst 0, 1) := by decide +kernel
theorem dX13_save_41 : decode cX13_save 41 = .ok (.iaload, 1) := by decide +kernel
theorem dX13_save_42 : decode cX13_save 42 = .ok (.ireturn, 1) := by decide +kernel
theorem dX13_restore_0 : decode cX13_restore 0 = .ok (.aload_n 0, 1) := by decide +kernel
theorem dX13_restore_1 : decode cX13_restore 1 = .ok (.iconst 0, 1) := by decide +kernel
theorem dX13_restore_2 : decode cX13_restore 2 = .ok (.putfield 66, 3) := by decide +kernel
theorem dX13_restore_5 : decode cX13_restore 5 = .ok (.aload_n 0, 1) := by decide +kernel
theorem dX13_restore_6 : decode cX13_restore 6 = .ok (.getfield 366, 3) := by decide +kernel
theorem dX13_restore_9 : decode cX13_restore 9 = .ok (.ifCond .ne 9, 3) := by decide +kernel
theorem dX13_restore_12 : decode cX13_restore 12 = .ok (.aload_n 0, 1) := by decide +kernel
theorem dX13_restore_13 : decode cX13_restore 13 = .ok (.iconst 1, 1) := by decide +kernel
theorem dX13_restore_14 : decode cX13_restore 14 = .ok (.invokevirtual 125, 3) := by decide +kernel
theorem dX13_restore_17 : decode cX13_restore 17 = .ok (.ireturn, 1) := by decide +kernel
theorem dX13_restore_18 : decode cX13_restore 18 = .ok (.iconst 0, 1) := by decide +kernel
theorem dX13_restore_19 : decode cX13_restore 19 = .ok (.istore_n 1, 1) := by decide +kernel
theorem dX13_restore_20 : decode cX13_restore 20 = .ok (.iload_n 1, 1) := by decide +kernel
theorem dX13_restore_21 : decode cX13_restore 21 = .ok (.bipush 50, 2) := by decide +kernel
theorem dX13_restore_23 : decode cX13_restore 23 = .ok (.if_icmp .ge 21, 3) := by decide +kernel
theorem dX13_restore_26 : decode cX13_restore 26 = .ok (.aload_n 0, 1) := by decide +kernel
theorem dX13_restore_27 : decode cX13_restore 27 = .ok (.getfield 7, 3) := by decide +kernel
theorem dX13_restore_30 : decode cX13_restore 30 = .ok (.iload_n 1, 1) := by decide +kernel
theorem dX13_restore_31 : decode cX13_restore 31 = .ok (.aload_n 0, 1) := by decide +kernel
theorem dX13_restore_32 : decode cX13_restore 32 = .ok (.getfield 16, 3) := by decide +kernel
theorem dX13_restore_35 : decode cX13_restore 35 = .ok (.iload_n 1, 1) := by decide +kernel
theorem dX13_restore_36 : decode cX13_restore 36 = .ok (.iaload, 1) := by decide +kernel
theorem dX13_restore_37 : decode cX13_restore 37 = .ok (.iastore, 1) := by decide +kernel
theorem dX13_restore_38 : decode cX13_restore 38 = .ok (.iinc 1 1, 3) := by decide +kernel
theorem dX13_restore_41 : decode cX13_restore 41 = .ok (.goto (-21), 3) := by decide +kernel
theorem dX13_restore_44 : decode cX13_restore 44 = .ok (.aload_n 0, 1) := by decide +kernel
theorem dX13_restore_45 : decode cX13_restore 45 = .ok (.iconst 0, 1) := by decide +kernel
theorem dX13_restore_46 : decode cX13_restore 46 = .ok (.putfield 69, 3) := by decide +kernel
theorem dX13_restore_49 : decode cX13_restore 49 = .ok (.aload_n 0, 1) := by decide +kernel
theorem dX13_restore_50 : decode cX13_restore 50 = .ok (.iconst 0, 1) := by decide +kernel
theorem dX13_restore_51 : decode cX13_restore 51 = .ok (.putfield 72, 3) := by decide +kernel
theorem dX13_restore_54 : decode cX13_restore 54 = .ok (.aload_n 0, 1) := by decide +kernel
theorem dX13_restore_55 : decode cX13_restore 55 = .ok (.getfield 7, 3) := by decide +kernel
theorem dX13_restore_58 : decode cX13_restore 58 = .ok (.iconst 0, 1) := by decide +kernel
theorem dX13_restore_59 : decode cX13_restore 59 = .ok (.iaload, 1) := by decide +kernel
theorem dX13_restore_60 : decode cX13_restore 60 = .ok (.ireturn, 1) := by decide +kernel

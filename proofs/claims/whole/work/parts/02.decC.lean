theorem dX4_thrown_0 : decode cX4_thrown 0 = .ok (.aload_n 0, 1) := by decide +kernel
theorem dX4_thrown_1 : decode cX4_thrown 1 = .ok (.getfield 1, 3) := by decide +kernel
theorem dX4_thrown_4 : decode cX4_thrown 4 = .ok (.ireturn, 1) := by decide +kernel
theorem dX4_fresh_0 : decode cX4_fresh 0 = .ok (.aload_n 0, 1) := by decide +kernel
theorem dX4_fresh_1 : decode cX4_fresh 1 = .ok (.iconst 0, 1) := by decide +kernel
theorem dX4_fresh_2 : decode cX4_fresh 2 = .ok (.putfield 7, 3) := by decide +kernel
theorem dX4_fresh_5 : decode cX4_fresh 5 = .ok (.aload_n 0, 1) := by decide +kernel
theorem dX4_fresh_6 : decode cX4_fresh 6 = .ok (.iconst 0, 1) := by decide +kernel
theorem dX4_fresh_7 : decode cX4_fresh 7 = .ok (.putfield 10, 3) := by decide +kernel
theorem dX4_fresh_10 : decode cX4_fresh 10 = .ok (.aload_n 0, 1) := by decide +kernel
theorem dX4_fresh_11 : decode cX4_fresh 11 = .ok (.iconst 0, 1) := by decide +kernel
theorem dX4_fresh_12 : decode cX4_fresh 12 = .ok (.putfield 13, 3) := by decide +kernel
theorem dX4_fresh_15 : decode cX4_fresh 15 = .ok (.aload_n 0, 1) := by decide +kernel
theorem dX4_fresh_16 : decode cX4_fresh 16 = .ok (.sipush 2000, 3) := by decide +kernel
theorem dX4_fresh_19 : decode cX4_fresh 19 = .ok (.putfield 16, 3) := by decide +kernel
theorem dX4_fresh_22 : decode cX4_fresh 22 = .ok (.aload_n 0, 1) := by decide +kernel
theorem dX4_fresh_23 : decode cX4_fresh 23 = .ok (.iconst 0, 1) := by decide +kernel
theorem dX4_fresh_24 : decode cX4_fresh 24 = .ok (.putfield 19, 3) := by decide +kernel
theorem dX4_fresh_27 : decode cX4_fresh 27 = .ok (.aload_n 0, 1) := by decide +kernel
theorem dX4_fresh_28 : decode cX4_fresh 28 = .ok (.iconst 0, 1) := by decide +kernel
theorem dX4_fresh_29 : decode cX4_fresh 29 = .ok (.putfield 23, 3) := by decide +kernel
theorem dX4_fresh_32 : decode cX4_fresh 32 = .ok (.aload_n 0, 1) := by decide +kernel
theorem dX4_fresh_33 : decode cX4_fresh 33 = .ok (.iconst 0, 1) := by decide +kernel
theorem dX4_fresh_34 : decode cX4_fresh 34 = .ok (.putfield 26, 3) := by decide +kernel
theorem dX4_fresh_37 : decode cX4_fresh 37 = .ok (.aload_n 0, 1) := by decide +kernel
theorem dX4_fresh_38 : decode cX4_fresh 38 = .ok (.iconst 2, 1) := by decide +kernel
theorem dX4_fresh_39 : decode cX4_fresh 39 = .ok (.putfield 29, 3) := by decide +kernel
theorem dX4_fresh_42 : decode cX4_fresh 42 = .ok (.aload_n 0, 1) := by decide +kernel
theorem dX4_fresh_43 : decode cX4_fresh 43 = .ok (.iconst 3, 1) := by decide +kernel
theorem dX4_fresh_44 : decode cX4_fresh 44 = .ok (.putfield 32, 3) := by decide +kernel
theorem dX4_fresh_47 : decode cX4_fresh 47 = .ok (.aload_n 0, 1) := by decide +kernel
theorem dX4_fresh_48 : decode cX4_fresh 48 = .ok (.iconst (-1), 1) := by decide +kernel
theorem dX4_fresh_49 : decode cX4_fresh 49 = .ok (.putfield 35, 3) := by decide +kernel
theorem dX4_fresh_52 : decode cX4_fresh 52 = .ok (.iconst 0, 1) := by decide +kernel
theorem dX4_fresh_53 : decode cX4_fresh 53 = .ok (.istore_n 1, 1) := by decide +kernel
theorem dX4_fresh_54 : decode cX4_fresh 54 = .ok (.iload_n 1, 1) := by decide +kernel
theorem dX4_fresh_55 : decode cX4_fresh 55 = .ok (.iconst 4, 1) := by decide +kernel
theorem dX4_fresh_56 : decode cX4_fresh 56 = .ok (.if_icmp .ge 23, 3) := by decide +kernel
theorem dX4_fresh_59 : decode cX4_fresh 59 = .ok (.aload_n 0, 1) := by decide +kernel
theorem dX4_fresh_60 : decode cX4_fresh 60 = .ok (.getfield 38, 3) := by decide +kernel
theorem dX4_fresh_63 : decode cX4_fresh 63 = .ok (.iload_n 1, 1) := by decide +kernel
theorem dX4_fresh_64 : decode cX4_fresh 64 = .ok (.iconst 0, 1) := by decide +kernel
theorem dX4_fresh_65 : decode cX4_fresh 65 = .ok (.iastore, 1) := by decide +kernel
theorem dX4_fresh_66 : decode cX4_fresh 66 = .ok (.aload_n 0, 1) := by decide +kernel
theorem dX4_fresh_67 : decode cX4_fresh 67 = .ok (.getfield 42, 3) := by decide +kernel
theorem dX4_fresh_70 : decode cX4_fresh 70 = .ok (.iload_n 1, 1) := by decide +kernel
theorem dX4_fresh_71 : decode cX4_fresh 71 = .ok (.iconst 0, 1) := by decide +kernel
theorem dX4_fresh_72 : decode cX4_fresh 72 = .ok (.bastore, 1) := by decide +kernel
theorem dX4_fresh_73 : decode cX4_fresh 73 = .ok (.iinc 1 1, 3) := by decide +kernel
theorem dX4_fresh_76 : decode cX4_fresh 76 = .ok (.goto (-22), 3) := by decide +kernel
theorem dX4_fresh_79 : decode cX4_fresh 79 = .ok (.return_, 1) := by decide +kernel
theorem dX4_init_0 : decode cX4_init 0 = .ok (.aload_n 0, 1) := by decide +kernel
theorem dX4_init_1 : decode cX4_init 1 = .ok (.invokespecial 46, 3) := by decide +kernel
theorem dX4_init_4 : decode cX4_init 4 = .ok (.aload_n 0, 1) := by decide +kernel
theorem dX4_init_5 : decode cX4_init 5 = .ok (.bipush 60, 2) := by decide +kernel
theorem dX4_init_7 : decode cX4_init 7 = .ok (.newarray .int, 2) := by decide +kernel
theorem dX4_init_9 : decode cX4_init 9 = .ok (.putfield 52, 3) := by decide +kernel
theorem dX4_init_12 : decode cX4_init 12 = .ok (.aload_n 0, 1) := by decide +kernel
theorem dX4_init_13 : decode cX4_init 13 = .ok (.bipush 60, 2) := by decide +kernel
theorem dX4_init_15 : decode cX4_init 15 = .ok (.newarray .int, 2) := by decide +kernel
theorem dX4_init_17 : decode cX4_init 17 = .ok (.putfield 55, 3) := by decide +kernel
theorem dX4_init_20 : decode cX4_init 20 = .ok (.aload_n 0, 1) := by decide +kernel
theorem dX4_init_21 : decode cX4_init 21 = .ok (.bipush 60, 2) := by decide +kernel
theorem dX4_init_23 : decode cX4_init 23 = .ok (.newarray .boolean, 2) := by decide +kernel
theorem dX4_init_25 : decode cX4_init 25 = .ok (.putfield 58, 3) := by decide +kernel
theorem dX4_init_28 : decode cX4_init 28 = .ok (.aload_n 0, 1) := by decide +kernel
theorem dX4_init_29 : decode cX4_init 29 = .ok (.bipush 60, 2) := by decide +kernel
theorem dX4_init_31 : decode cX4_init 31 = .ok (.newarray .int, 2) := by decide +kernel
theorem dX4_init_33 : decode cX4_init 33 = .ok (.putfield 61, 3) := by decide +kernel
theorem dX4_init_36 : decode cX4_init 36 = .ok (.aload_n 0, 1) := by decide +kernel
theorem dX4_init_37 : decode cX4_init 37 = .ok (.bipush 60, 2) := by decide +kernel
theorem dX4_init_39 : decode cX4_init 39 = .ok (.newarray .int, 2) := by decide +kernel
theorem dX4_init_41 : decode cX4_init 41 = .ok (.putfield 64, 3) := by decide +kernel
theorem dX4_init_44 : decode cX4_init 44 = .ok (.aload_n 0, 1) := by decide +kernel
theorem dX4_init_45 : decode cX4_init 45 = .ok (.bipush 60, 2) := by decide +kernel
theorem dX4_init_47 : decode cX4_init 47 = .ok (.newarray .int, 2) := by decide +kernel
theorem dX4_init_49 : decode cX4_init 49 = .ok (.putfield 67, 3) := by decide +kernel
theorem dX4_init_52 : decode cX4_init 52 = .ok (.aload_n 0, 1) := by decide +kernel
theorem dX4_init_53 : decode cX4_init 53 = .ok (.bipush 60, 2) := by decide +kernel
theorem dX4_init_55 : decode cX4_init 55 = .ok (.newarray .int, 2) := by decide +kernel
theorem dX4_init_57 : decode cX4_init 57 = .ok (.putfield 70, 3) := by decide +kernel
theorem dX4_init_60 : decode cX4_init 60 = .ok (.aload_n 0, 1) := by decide +kernel
theorem dX4_init_61 : decode cX4_init 61 = .ok (.sipush 240, 3) := by decide +kernel
theorem dX4_init_64 : decode cX4_init 64 = .ok (.newarray .int, 2) := by decide +kernel
theorem dX4_init_66 : decode cX4_init 66 = .ok (.putfield 73, 3) := by decide +kernel
theorem dX4_init_69 : decode cX4_init 69 = .ok (.aload_n 0, 1) := by decide +kernel
theorem dX4_init_70 : decode cX4_init 70 = .ok (.sipush 480, 3) := by decide +kernel
theorem dX4_init_73 : decode cX4_init 73 = .ok (.newarray .int, 2) := by decide +kernel
theorem dX4_init_75 : decode cX4_init 75 = .ok (.putfield 76, 3) := by decide +kernel
theorem dX4_init_78 : decode cX4_init 78 = .ok (.aload_n 0, 1) := by decide +kernel
theorem dX4_init_79 : decode cX4_init 79 = .ok (.sipush 480, 3) := by decide +kernel
theorem dX4_init_82 : decode cX4_init 82 = .ok (.newarray .int, 2) := by decide +kernel
theorem dX4_init_84 : decode cX4_init 84 = .ok (.putfield 79, 3) := by decide +kernel
theorem dX4_init_87 : decode cX4_init 87 = .ok (.aload_n 0, 1) := by decide +kernel
theorem dX4_init_88 : decode cX4_init 88 = .ok (.sipush 480, 3) := by decide +kernel
theorem dX4_init_91 : decode cX4_init 91 = .ok (.newarray .boolean, 2) := by decide +kernel
theorem dX4_init_93 : decode cX4_init 93 = .ok (.putfield 82, 3) := by decide +kernel
theorem dX4_init_96 : decode cX4_init 96 = .ok (.aload_n 0, 1) := by decide +kernel
theorem dX4_init_97 : decode cX4_init 97 = .ok (.iconst 4, 1) := by decide +kernel
theorem dX4_init_98 : decode cX4_init 98 = .ok (.newarray .int, 2) := by decide +kernel
theorem dX4_init_100 : decode cX4_init 100 = .ok (.putfield 38, 3) := by decide +kernel
theorem dX4_init_103 : decode cX4_init 103 = .ok (.aload_n 0, 1) := by decide +kernel
theorem dX4_init_104 : decode cX4_init 104 = .ok (.iconst 4, 1) := by decide +kernel
theorem dX4_init_105 : decode cX4_init 105 = .ok (.newarray .boolean, 2) := by decide +kernel
theorem dX4_init_107 : decode cX4_init 107 = .ok (.putfield 42, 3) := by decide +kernel
theorem dX4_init_110 : decode cX4_init 110 = .ok (.aload_n 0, 1) := by decide +kernel
theorem dX4_init_111 : decode cX4_init 111 = .ok (.sipush 2000, 3) := by decide +kernel
theorem dX4_init_114 : decode cX4_init 114 = .ok (.putfield 16, 3) := by decide +kernel
theorem dX4_init_117 : decode cX4_init 117 = .ok (.aload_n 0, 1) := by decide +kernel
theorem dX4_init_118 : decode cX4_init 118 = .ok (.bipush 60, 2) := by decide +kernel
theorem dX4_init_120 : decode cX4_init 120 = .ok (.newarray .int, 2) := by decide +kernel
theorem dX4_init_122 : decode cX4_init 122 = .ok (.putfield 85, 3) := by decide +kernel
theorem dX4_init_125 : decode cX4_init 125 = .ok (.aload_n 0, 1) := by decide +kernel
theorem dX4_init_126 : decode cX4_init 126 = .ok (.sipush 240, 3) := by decide +kernel
theorem dX4_init_129 : decode cX4_init 129 = .ok (.newarray .int, 2) := by decide +kernel
theorem dX4_init_131 : decode cX4_init 131 = .ok (.putfield 88, 3) := by decide +kernel
theorem dX4_init_134 : decode cX4_init 134 = .ok (.aload_n 0, 1) := by decide +kernel
theorem dX4_init_135 : decode cX4_init 135 = .ok (.bipush 30, 2) := by decide +kernel
theorem dX4_init_137 : decode cX4_init 137 = .ok (.newarray .int, 2) := by decide +kernel
theorem dX4_init_139 : decode cX4_init 139 = .ok (.putfield 91, 3) := by decide +kernel
theorem dX4_init_142 : decode cX4_init 142 = .ok (.aload_n 0, 1) := by decide +kernel
theorem dX4_init_143 : decode cX4_init 143 = .ok (.sipush 180, 3) := by decide +kernel
theorem dX4_init_146 : decode cX4_init 146 = .ok (.newarray .int, 2) := by decide +kernel
theorem dX4_init_148 : decode cX4_init 148 = .ok (.putfield 94, 3) := by decide +kernel
theorem dX4_init_151 : decode cX4_init 151 = .ok (.aload_n 0, 1) := by decide +kernel
theorem dX4_init_152 : decode cX4_init 152 = .ok (.sipush 210, 3) := by decide +kernel
theorem dX4_init_155 : decode cX4_init 155 = .ok (.newarray .int, 2) := by decide +kernel
theorem dX4_init_157 : decode cX4_init 157 = .ok (.putfield 97, 3) := by decide +kernel
theorem dX4_init_160 : decode cX4_init 160 = .ok (.aload_n 0, 1) := by decide +kernel
theorem dX4_init_161 : decode cX4_init 161 = .ok (.bipush 24, 2) := by decide +kernel
theorem dX4_init_163 : decode cX4_init 163 = .ok (.newarray .int, 2) := by decide +kernel
theorem dX4_init_165 : decode cX4_init 165 = .ok (.putfield 100, 3) := by decide +kernel
theorem dX4_init_168 : decode cX4_init 168 = .ok (.aload_n 0, 1) := by decide +kernel
theorem dX4_init_169 : decode cX4_init 169 = .ok (.bipush 24, 2) := by decide +kernel
theorem dX4_init_171 : decode cX4_init 171 = .ok (.newarray .int, 2) := by decide +kernel
theorem dX4_init_173 : decode cX4_init 173 = .ok (.putfield 103, 3) := by decide +kernel
theorem dX4_init_176 : decode cX4_init 176 = .ok (.aload_n 0, 1) := by decide +kernel
theorem dX4_init_177 : decode cX4_init 177 = .ok (.invokevirtual 106, 3) := by decide +kernel
theorem dX4_init_180 : decode cX4_init 180 = .ok (.return_, 1) := by decide +kernel
theorem dX4_lies_0 : decode cX4_lies 0 = .ok (.iload_n 0, 1) := by decide +kernel
theorem dX4_lies_1 : decode cX4_lies 1 = .ok (.iload_n 1, 1) := by decide +kernel
theorem dX4_lies_2 : decode cX4_lies 2 = .ok (.if_icmp .lt 12, 3) := by decide +kernel
theorem dX4_lies_5 : decode cX4_lies 5 = .ok (.iload_n 0, 1) := by decide +kernel
theorem dX4_lies_6 : decode cX4_lies 6 = .ok (.iload_n 2, 1) := by decide +kernel
theorem dX4_lies_7 : decode cX4_lies 7 = .ok (.if_icmp .gt 7, 3) := by decide +kernel
theorem dX4_lies_10 : decode cX4_lies 10 = .ok (.iconst 1, 1) := by decide +kernel
theorem dX4_lies_11 : decode cX4_lies 11 = .ok (.goto 4, 3) := by decide +kernel
theorem dX4_lies_14 : decode cX4_lies 14 = .ok (.iconst 0, 1) := by decide +kernel
theorem dX4_lies_15 : decode cX4_lies 15 = .ok (.ireturn, 1) := by decide +kernel
theorem dX4_isNote_0 : decode cX4_isNote 0 = .ok (.iload_n 1, 1) := by decide +kernel
theorem dX4_isNote_1 : decode cX4_isNote 1 = .ok (.iconst 0, 1) := by decide +kernel
theorem dX4_isNote_2 : decode cX4_isNote 2 = .ok (.aload_n 0, 1) := by decide +kernel
theorem dX4_isNote_3 : decode cX4_isNote 3 = .ok (.getfield 7, 3) := by decide +kernel
theorem dX4_isNote_6 : decode cX4_isNote 6 = .ok (.iconst 1, 1) := by decide +kernel
theorem dX4_isNote_7 : decode cX4_isNote 7 = .ok (.isub, 1) := by decide +kernel
theorem dX4_isNote_8 : decode cX4_isNote 8 = .ok (.invokestatic 109, 3) := by decide +kernel
theorem dX4_isNote_11 : decode cX4_isNote 11 = .ok (.ireturn, 1) := by decide +kernel
theorem dX4_isVerse_0 : decode cX4_isVerse 0 = .ok (.iload_n 0, 1) := by decide +kernel
theorem dX4_isVerse_1 : decode cX4_isVerse 1 = .ok (.iconst 0, 1) := by decide +kernel
theorem dX4_isVerse_2 : decode cX4_isVerse 2 = .ok (.iconst 3, 1) := by decide +kernel
theorem dX4_isVerse_3 : decode cX4_isVerse 3 = .ok (.invokestatic 109, 3) := by decide +kernel
theorem dX4_isVerse_6 : decode cX4_isVerse 6 = .ok (.ireturn, 1) := by decide +kernel
theorem dX4_note_0 : decode cX4_note 0 = .ok (.aload_n 0, 1) := by decide +kernel
theorem dX4_note_1 : decode cX4_note 1 = .ok (.iconst 0, 1) := by decide +kernel
theorem dX4_note_2 : decode cX4_note 2 = .ok (.putfield 1, 3) := by decide +kernel
theorem dX4_note_5 : decode cX4_note 5 = .ok (.iload_n 1, 1) := by decide +kernel
theorem dX4_note_6 : decode cX4_note 6 = .ok (.bipush 10, 2) := by decide +kernel
theorem dX4_note_8 : decode cX4_note 8 = .ok (.sipush 200, 3) := by decide +kernel
theorem dX4_note_11 : decode cX4_note 11 = .ok (.invokestatic 109, 3) := by decide +kernel
theorem dX4_note_14 : decode cX4_note 14 = .ok (.ifCond .eq 13, 3) := by decide +kernel
theorem dX4_note_17 : decode cX4_note 17 = .ok (.iload_n 2, 1) := by decide +kernel
theorem dX4_note_18 : decode cX4_note 18 = .ok (.iconst 1, 1) := by decide +kernel
theorem dX4_note_19 : decode cX4_note 19 = .ok (.bipush 64, 2) := by decide +kernel
theorem dX4_note_21 : decode cX4_note 21 = .ok (.invokestatic 109, 3) := by decide +kernel
theorem dX4_note_24 : decode cX4_note 24 = .ok (.ifCond .ne 6, 3) := by decide +kernel
theorem dX4_note_27 : decode cX4_note 27 = .ok (.ldc 113, 2) := by decide +kernel
theorem dX4_note_29 : decode cX4_note 29 = .ok (.ireturn, 1) := by decide +kernel
theorem dX4_note_30 : decode cX4_note 30 = .ok (.aload_n 0, 1) := by decide +kernel
theorem dX4_note_31 : decode cX4_note 31 = .ok (.getfield 7, 3) := by decide +kernel
theorem dX4_note_34 : decode cX4_note 34 = .ok (.bipush 60, 2) := by decide +kernel
theorem dX4_note_36 : decode cX4_note 36 = .ok (.if_icmp .ne 6, 3) := by decide +kernel
theorem dX4_note_39 : decode cX4_note 39 = .ok (.ldc 114, 2) := by decide +kernel
theorem dX4_note_41 : decode cX4_note 41 = .ok (.ireturn, 1) := by decide +kernel
theorem dX4_note_42 : decode cX4_note 42 = .ok (.aload_n 0, 1) := by decide +kernel
theorem dX4_note_43 : decode cX4_note 43 = .ok (.getfield 52, 3) := by decide +kernel
theorem dX4_note_46 : decode cX4_note 46 = .ok (.aload_n 0, 1) := by decide +kernel
theorem dX4_note_47 : decode cX4_note 47 = .ok (.getfield 7, 3) := by decide +kernel
theorem dX4_note_50 : decode cX4_note 50 = .ok (.iload_n 1, 1) := by decide +kernel
theorem dX4_note_51 : decode cX4_note 51 = .ok (.iastore, 1) := by decide +kernel
theorem dX4_note_52 : decode cX4_note 52 = .ok (.aload_n 0, 1) := by decide +kernel
theorem dX4_note_53 : decode cX4_note 53 = .ok (.getfield 55, 3) := by decide +kernel
theorem dX4_note_56 : decode cX4_note 56 = .ok (.aload_n 0, 1) := by decide +kernel
theorem dX4_note_57 : decode cX4_note 57 = .ok (.getfield 7, 3) := by decide +kernel
theorem dX4_note_60 : decode cX4_note 60 = .ok (.iload_n 2, 1) := by decide +kernel
theorem dX4_note_61 : decode cX4_note 61 = .ok (.iastore, 1) := by decide +kernel
theorem dX4_note_62 : decode cX4_note 62 = .ok (.aload_n 0, 1) := by decide +kernel
theorem dX4_note_63 : decode cX4_note 63 = .ok (.getfield 58, 3) := by decide +kernel
theorem dX4_note_66 : decode cX4_note 66 = .ok (.aload_n 0, 1) := by decide +kernel
theorem dX4_note_67 : decode cX4_note 67 = .ok (.getfield 7, 3) := by decide +kernel
theorem dX4_note_70 : decode cX4_note 70 = .ok (.iload_n 3, 1) := by decide +kernel
theorem dX4_note_71 : decode cX4_note 71 = .ok (.bastore, 1) := by decide +kernel
theorem dX4_note_72 : decode cX4_note 72 = .ok (.aload_n 0, 1) := by decide +kernel
theorem dX4_note_73 : decode cX4_note 73 = .ok (.getfield 61, 3) := by decide +kernel
theorem dX4_note_76 : decode cX4_note 76 = .ok (.aload_n 0, 1) := by decide +kernel
theorem dX4_note_77 : decode cX4_note 77 = .ok (.getfield 7, 3) := by decide +kernel
theorem dX4_note_80 : decode cX4_note 80 = .ok (.iconst 0, 1) := by decide +kernel
theorem dX4_note_81 : decode cX4_note 81 = .ok (.iastore, 1) := by decide +kernel
theorem dX4_note_82 : decode cX4_note 82 = .ok (.aload_n 0, 1) := by decide +kernel
theorem dX4_note_83 : decode cX4_note 83 = .ok (.getfield 64, 3) := by decide +kernel
theorem dX4_note_86 : decode cX4_note 86 = .ok (.aload_n 0, 1) := by decide +kernel
theorem dX4_note_87 : decode cX4_note 87 = .ok (.getfield 7, 3) := by decide +kernel
theorem dX4_note_90 : decode cX4_note 90 = .ok (.ldc 115, 2) := by decide +kernel
theorem dX4_note_92 : decode cX4_note 92 = .ok (.iastore, 1) := by decide +kernel
theorem dX4_note_93 : decode cX4_note 93 = .ok (.aload_n 0, 1) := by decide +kernel
theorem dX4_note_94 : decode cX4_note 94 = .ok (.getfield 70, 3) := by decide +kernel
theorem dX4_note_97 : decode cX4_note 97 = .ok (.aload_n 0, 1) := by decide +kernel
theorem dX4_note_98 : decode cX4_note 98 = .ok (.getfield 7, 3) := by decide +kernel
theorem dX4_note_101 : decode cX4_note 101 = .ok (.ldc 115, 2) := by decide +kernel
theorem dX4_note_103 : decode cX4_note 103 = .ok (.iastore, 1) := by decide +kernel
theorem dX4_note_104 : decode cX4_note 104 = .ok (.iconst 0, 1) := by decide +kernel
theorem dX4_note_105 : decode cX4_note 105 = .ok (.istore 4, 2) := by decide +kernel
theorem dX4_note_107 : decode cX4_note 107 = .ok (.iload 4, 2) := by decide +kernel
theorem dX4_note_109 : decode cX4_note 109 = .ok (.iconst 4, 1) := by decide +kernel
theorem dX4_note_110 : decode cX4_note 110 = .ok (.if_icmp .ge 24, 3) := by decide +kernel
theorem dX4_note_113 : decode cX4_note 113 = .ok (.aload_n 0, 1) := by decide +kernel
theorem dX4_note_114 : decode cX4_note 114 = .ok (.getfield 73, 3) := by decide +kernel
theorem dX4_note_117 : decode cX4_note 117 = .ok (.iconst 4, 1) := by decide +kernel
theorem dX4_note_118 : decode cX4_note 118 = .ok (.aload_n 0, 1) := by decide +kernel
theorem dX4_note_119 : decode cX4_note 119 = .ok (.getfield 7, 3) := by decide +kernel
theorem dX4_note_122 : decode cX4_note 122 = .ok (.imul, 1) := by decide +kernel
theorem dX4_note_123 : decode cX4_note 123 = .ok (.iload 4, 2) := by decide +kernel
theorem dX4_note_125 : decode cX4_note 125 = .ok (.iadd, 1) := by decide +kernel
theorem dX4_note_126 : decode cX4_note 126 = .ok (.iconst 0, 1) := by decide +kernel
theorem dX4_note_127 : decode cX4_note 127 = .ok (.iastore, 1) := by decide +kernel
theorem dX4_note_128 : decode cX4_note 128 = .ok (.iinc 4 1, 3) := by decide +kernel
theorem dX4_note_131 : decode cX4_note 131 = .ok (.goto (-24), 3) := by decide +kernel
theorem dX4_note_134 : decode cX4_note 134 = .ok (.aload_n 0, 1) := by decide +kernel
theorem dX4_note_135 : decode cX4_note 135 = .ok (.iconst 0, 1) := by decide +kernel
theorem dX4_note_136 : decode cX4_note 136 = .ok (.putfield 19, 3) := by decide +kernel
theorem dX4_note_139 : decode cX4_note 139 = .ok (.aload_n 0, 1) := by decide +kernel
theorem dX4_note_140 : decode cX4_note 140 = .ok (.dup, 1) := by decide +kernel
theorem dX4_note_141 : decode cX4_note 141 = .ok (.getfield 7, 3) := by decide +kernel
theorem dX4_note_144 : decode cX4_note 144 = .ok (.iconst 1, 1) := by decide +kernel
theorem dX4_note_145 : decode cX4_note 145 = .ok (.iadd, 1) := by decide +kernel
theorem dX4_note_146 : decode cX4_note 146 = .ok (.putfield 7, 3) := by decide +kernel
theorem dX4_note_149 : decode cX4_note 149 = .ok (.aload_n 0, 1) := by decide +kernel
theorem dX4_note_150 : decode cX4_note 150 = .ok (.getfield 7, 3) := by decide +kernel
theorem dX4_note_153 : decode cX4_note 153 = .ok (.iconst 1, 1) := by decide +kernel
theorem dX4_note_154 : decode cX4_note 154 = .ok (.isub, 1) := by decide +kernel
theorem dX4_note_155 : decode cX4_note 155 = .ok (.ireturn, 1) := by decide +kernel
theorem dX4_isBehindFirst_0 : decode cX4_isBehindFirst 0 = .ok (.aload_n 0, 1) := by decide +kernel
theorem dX4_isBehindFirst_1 : decode cX4_isBehindFirst 1 = .ok (.getfield 64, 3) := by decide +kernel
theorem dX4_isBehindFirst_4 : decode cX4_isBehindFirst 4 = .ok (.iload_n 1, 1) := by decide +kernel
theorem dX4_isBehindFirst_5 : decode cX4_isBehindFirst 5 = .ok (.iaload, 1) := by decide +kernel
theorem dX4_isBehindFirst_6 : decode cX4_isBehindFirst 6 = .ok (.ldc 115, 2) := by decide +kernel
theorem dX4_isBehindFirst_8 : decode cX4_isBehindFirst 8 = .ok (.if_icmp .eq 17, 3) := by decide +kernel
theorem dX4_isBehindFirst_11 : decode cX4_isBehindFirst 11 = .ok (.aload_n 0, 1) := by decide +kernel
theorem dX4_isBehindFirst_12 : decode cX4_isBehindFirst 12 = .ok (.getfield 64, 3) := by decide +kernel
theorem dX4_isBehindFirst_15 : decode cX4_isBehindFirst 15 = .ok (.iload_n 1, 1) := by decide +kernel
theorem dX4_isBehindFirst_16 : decode cX4_isBehindFirst 16 = .ok (.iaload, 1) := by decide +kernel
theorem dX4_isBehindFirst_17 : decode cX4_isBehindFirst 17 = .ok (.iload_n 1, 1) := by decide +kernel
theorem dX4_isBehindFirst_18 : decode cX4_isBehindFirst 18 = .ok (.if_icmp .eq 7, 3) := by decide +kernel
theorem dX4_isBehindFirst_21 : decode cX4_isBehindFirst 21 = .ok (.iconst 1, 1) := by decide +kernel
theorem dX4_isBehindFirst_22 : decode cX4_isBehindFirst 22 = .ok (.goto 4, 3) := by decide +kernel
theorem dX4_isBehindFirst_25 : decode cX4_isBehindFirst 25 = .ok (.iconst 0, 1) := by decide +kernel
theorem dX4_isBehindFirst_26 : decode cX4_isBehindFirst 26 = .ok (.ireturn, 1) := by decide +kernel
theorem dX4_syllable_0 : decode cX4_syllable 0 = .ok (.aload_n 0, 1) := by decide +kernel
theorem dX4_syllable_1 : decode cX4_syllable 1 = .ok (.iconst 0, 1) := by decide +kernel
theorem dX4_syllable_2 : decode cX4_syllable 2 = .ok (.putfield 1, 3) := by decide +kernel
theorem dX4_syllable_5 : decode cX4_syllable 5 = .ok (.aload_n 0, 1) := by decide +kernel
theorem dX4_syllable_6 : decode cX4_syllable 6 = .ok (.iload_n 1, 1) := by decide +kernel
theorem dX4_syllable_7 : decode cX4_syllable 7 = .ok (.invokevirtual 116, 3) := by decide +kernel
theorem dX4_syllable_10 : decode cX4_syllable 10 = .ok (.ifCond .eq 10, 3) := by decide +kernel
theorem dX4_syllable_13 : decode cX4_syllable 13 = .ok (.iload_n 2, 1) := by decide +kernel
theorem dX4_syllable_14 : decode cX4_syllable 14 = .ok (.invokestatic 120, 3) := by decide +kernel
theorem dX4_syllable_17 : decode cX4_syllable 17 = .ok (.ifCond .ne 6, 3) := by decide +kernel
theorem dX4_syllable_20 : decode cX4_syllable 20 = .ok (.ldc 123, 2) := by decide +kernel
theorem dX4_syllable_22 : decode cX4_syllable 22 = .ok (.ireturn, 1) := by decide +kernel
theorem dX4_syllable_23 : decode cX4_syllable 23 = .ok (.iload_n 3, 1) := by decide +kernel
theorem dX4_syllable_24 : decode cX4_syllable 24 = .ok (.iconst 1, 1) := by decide +kernel
theorem dX4_syllable_25 : decode cX4_syllable 25 = .ok (.sipush 200, 3) := by decide +kernel
theorem dX4_syllable_28 : decode cX4_syllable 28 = .ok (.invokestatic 109, 3) := by decide +kernel
theorem dX4_syllable_31 : decode cX4_syllable 31 = .ok (.ifCond .eq 13, 3) := by decide +kernel
theorem dX4_syllable_34 : decode cX4_syllable 34 = .ok (.iload 4, 2) := by decide +kernel
theorem dX4_syllable_36 : decode cX4_syllable 36 = .ok (.iconst 0, 1) := by decide +kernel
theorem dX4_syllable_37 : decode cX4_syllable 37 = .ok (.iload_n 3, 1) := by decide +kernel
theorem dX4_syllable_38 : decode cX4_syllable 38 = .ok (.invokestatic 109, 3) := by decide +kernel
theorem dX4_syllable_41 : decode cX4_syllable 41 = .ok (.ifCond .ne 6, 3) := by decide +kernel
theorem dX4_syllable_44 : decode cX4_syllable 44 = .ok (.ldc 113, 2) := by decide +kernel
theorem dX4_syllable_46 : decode cX4_syllable 46 = .ok (.ireturn, 1) := by decide +kernel
theorem dX4_syllable_47 : decode cX4_syllable 47 = .ok (.aload_n 0, 1) := by decide +kernel
theorem dX4_syllable_48 : decode cX4_syllable 48 = .ok (.getfield 58, 3) := by decide +kernel
theorem dX4_syllable_51 : decode cX4_syllable 51 = .ok (.iload_n 1, 1) := by decide +kernel
theorem dX4_syllable_52 : decode cX4_syllable 52 = .ok (.baload, 1) := by decide +kernel
theorem dX4_syllable_53 : decode cX4_syllable 53 = .ok (.ifCond .ne 26, 3) := by decide +kernel
theorem dX4_syllable_56 : decode cX4_syllable 56 = .ok (.aload_n 0, 1) := by decide +kernel
theorem dX4_syllable_57 : decode cX4_syllable 57 = .ok (.iload_n 1, 1) := by decide +kernel
theorem dX4_syllable_58 : decode cX4_syllable 58 = .ok (.invokevirtual 124, 3) := by decide +kernel
theorem dX4_syllable_61 : decode cX4_syllable 61 = .ok (.ifCond .ne 18, 3) := by decide +kernel
theorem dX4_syllable_64 : decode cX4_syllable 64 = .ok (.iload_n 2, 1) := by decide +kernel
theorem dX4_syllable_65 : decode cX4_syllable 65 = .ok (.ifCond .le 17, 3) := by decide +kernel
theorem dX4_syllable_68 : decode cX4_syllable 68 = .ok (.aload_n 0, 1) := by decide +kernel
theorem dX4_syllable_69 : decode cX4_syllable 69 = .ok (.getfield 70, 3) := by decide +kernel
theorem dX4_syllable_72 : decode cX4_syllable 72 = .ok (.iload_n 1, 1) := by decide +kernel
theorem dX4_syllable_73 : decode cX4_syllable 73 = .ok (.iaload, 1) := by decide +kernel
theorem dX4_syllable_74 : decode cX4_syllable 74 = .ok (.ldc 115, 2) := by decide +kernel
theorem dX4_syllable_76 : decode cX4_syllable 76 = .ok (.if_icmp .eq 6, 3) := by decide +kernel
theorem dX4_syllable_79 : decode cX4_syllable 79 = .ok (.ldc 127, 2) := by decide +kernel
theorem dX4_syllable_81 : decode cX4_syllable 81 = .ok (.ireturn, 1) := by decide +kernel
theorem dX4_syllable_82 : decode cX4_syllable 82 = .ok (.iconst 4, 1) := by decide +kernel
theorem dX4_syllable_83 : decode cX4_syllable 83 = .ok (.iload_n 1, 1) := by decide +kernel
theorem dX4_syllable_84 : decode cX4_syllable 84 = .ok (.imul, 1) := by decide +kernel
theorem dX4_syllable_85 : decode cX4_syllable 85 = .ok (.iload_n 2, 1) := by decide +kernel
theorem dX4_syllable_86 : decode cX4_syllable 86 = .ok (.iadd, 1) := by decide +kernel
theorem dX4_syllable_87 : decode cX4_syllable 87 = .ok (.istore 6, 2) := by decide +kernel
theorem dX4_syllable_89 : decode cX4_syllable 89 = .ok (.aload_n 0, 1) := by decide +kernel
theorem dX4_syllable_90 : decode cX4_syllable 90 = .ok (.getfield 73, 3) := by decide +kernel
theorem dX4_syllable_93 : decode cX4_syllable 93 = .ok (.iload 6, 2) := by decide +kernel
theorem dX4_syllable_95 : decode cX4_syllable 95 = .ok (.iaload, 1) := by decide +kernel
theorem dX4_syllable_96 : decode cX4_syllable 96 = .ok (.iconst 2, 1) := by decide +kernel
theorem dX4_syllable_97 : decode cX4_syllable 97 = .ok (.if_icmp .ne 6, 3) := by decide +kernel
theorem dX4_syllable_100 : decode cX4_syllable 100 = .ok (.ldc 114, 2) := by decide +kernel
theorem dX4_syllable_102 : decode cX4_syllable 102 = .ok (.ireturn, 1) := by decide +kernel
theorem dX4_syllable_103 : decode cX4_syllable 103 = .ok (.aload_n 0, 1) := by decide +kernel
theorem dX4_syllable_104 : decode cX4_syllable 104 = .ok (.getfield 76, 3) := by decide +kernel
theorem dX4_syllable_107 : decode cX4_syllable 107 = .ok (.iconst 2, 1) := by decide +kernel
theorem dX4_syllable_108 : decode cX4_syllable 108 = .ok (.iload 6, 2) := by decide +kernel
theorem dX4_syllable_110 : decode cX4_syllable 110 = .ok (.imul, 1) := by decide +kernel
theorem dX4_syllable_111 : decode cX4_syllable 111 = .ok (.aload_n 0, 1) := by decide +kernel
theorem dX4_syllable_112 : decode cX4_syllable 112 = .ok (.getfield 73, 3) := by decide +kernel
theorem dX4_syllable_115 : decode cX4_syllable 115 = .ok (.iload 6, 2) := by decide +kernel
theorem dX4_syllable_117 : decode cX4_syllable 117 = .ok (.iaload, 1) := by decide +kernel
theorem dX4_syllable_118 : decode cX4_syllable 118 = .ok (.iadd, 1) := by decide +kernel
theorem dX4_syllable_119 : decode cX4_syllable 119 = .ok (.iload_n 3, 1) := by decide +kernel
theorem dX4_syllable_120 : decode cX4_syllable 120 = .ok (.iastore, 1) := by decide +kernel
theorem dX4_syllable_121 : decode cX4_syllable 121 = .ok (.aload_n 0, 1) := by decide +kernel
theorem dX4_syllable_122 : decode cX4_syllable 122 = .ok (.getfield 79, 3) := by decide +kernel
theorem dX4_syllable_125 : decode cX4_syllable 125 = .ok (.iconst 2, 1) := by decide +kernel
theorem dX4_syllable_126 : decode cX4_syllable 126 = .ok (.iload 6, 2) := by decide +kernel
theorem dX4_syllable_128 : decode cX4_syllable 128 = .ok (.imul, 1) := by decide +kernel
theorem dX4_syllable_129 : decode cX4_syllable 129 = .ok (.aload_n 0, 1) := by decide +kernel
theorem dX4_syllable_130 : decode cX4_syllable 130 = .ok (.getfield 73, 3) := by decide +kernel
theorem dX4_syllable_133 : decode cX4_syllable 133 = .ok (.iload 6, 2) := by decide +kernel
theorem dX4_syllable_135 : decode cX4_syllable 135 = .ok (.iaload, 1) := by decide +kernel
theorem dX4_syllable_136 : decode cX4_syllable 136 = .ok (.iadd, 1) := by decide +kernel
theorem dX4_syllable_137 : decode cX4_syllable 137 = .ok (.iload 4, 2) := by decide +kernel
theorem dX4_syllable_139 : decode cX4_syllable 139 = .ok (.iastore, 1) := by decide +kernel
theorem dX4_syllable_140 : decode cX4_syllable 140 = .ok (.aload_n 0, 1) := by decide +kernel
theorem dX4_syllable_141 : decode cX4_syllable 141 = .ok (.getfield 82, 3) := by decide +kernel
theorem dX4_syllable_144 : decode cX4_syllable 144 = .ok (.iconst 2, 1) := by decide +kernel
theorem dX4_syllable_145 : decode cX4_syllable 145 = .ok (.iload 6, 2) := by decide +kernel
theorem dX4_syllable_147 : decode cX4_syllable 147 = .ok (.imul, 1) := by decide +kernel
theorem dX4_syllable_148 : decode cX4_syllable 148 = .ok (.aload_n 0, 1) := by decide +kernel
theorem dX4_syllable_149 : decode cX4_syllable 149 = .ok (.getfield 73, 3) := by decide +kernel
theorem dX4_syllable_152 : decode cX4_syllable 152 = .ok (.iload 6, 2) := by decide +kernel
theorem dX4_syllable_154 : decode cX4_syllable 154 = .ok (.iaload, 1) := by decide +kernel
theorem dX4_syllable_155 : decode cX4_syllable 155 = .ok (.iadd, 1) := by decide +kernel
theorem dX4_syllable_156 : decode cX4_syllable 156 = .ok (.iload 5, 2) := by decide +kernel
theorem dX4_syllable_158 : decode cX4_syllable 158 = .ok (.bastore, 1) := by decide +kernel
theorem dX4_syllable_159 : decode cX4_syllable 159 = .ok (.aload_n 0, 1) := by decide +kernel
theorem dX4_syllable_160 : decode cX4_syllable 160 = .ok (.getfield 73, 3) := by decide +kernel
theorem dX4_syllable_163 : decode cX4_syllable 163 = .ok (.iload 6, 2) := by decide +kernel
theorem dX4_syllable_165 : decode cX4_syllable 165 = .ok (.dup2, 1) := by decide +kernel
theorem dX4_syllable_166 : decode cX4_syllable 166 = .ok (.iaload, 1) := by decide +kernel
theorem dX4_syllable_167 : decode cX4_syllable 167 = .ok (.iconst 1, 1) := by decide +kernel
theorem dX4_syllable_168 : decode cX4_syllable 168 = .ok (.iadd, 1) := by decide +kernel
theorem dX4_syllable_169 : decode cX4_syllable 169 = .ok (.iastore, 1) := by decide +kernel
theorem dX4_syllable_170 : decode cX4_syllable 170 = .ok (.aload_n 0, 1) := by decide +kernel
theorem dX4_syllable_171 : decode cX4_syllable 171 = .ok (.iconst 0, 1) := by decide +kernel
theorem dX4_syllable_172 : decode cX4_syllable 172 = .ok (.putfield 19, 3) := by decide +kernel
theorem dX4_syllable_175 : decode cX4_syllable 175 = .ok (.aload_n 0, 1) := by decide +kernel
theorem dX4_syllable_176 : decode cX4_syllable 176 = .ok (.getfield 73, 3) := by decide +kernel
theorem dX4_syllable_179 : decode cX4_syllable 179 = .ok (.iload 6, 2) := by decide +kernel
theorem dX4_syllable_181 : decode cX4_syllable 181 = .ok (.iaload, 1) := by decide +kernel
theorem dX4_syllable_182 : decode cX4_syllable 182 = .ok (.ireturn, 1) := by decide +kernel
theorem dX4_wipe_0 : decode cX4_wipe 0 = .ok (.aload_n 0, 1) := by decide +kernel
theorem dX4_wipe_1 : decode cX4_wipe 1 = .ok (.iconst 0, 1) := by decide +kernel
theorem dX4_wipe_2 : decode cX4_wipe 2 = .ok (.putfield 1, 3) := by decide +kernel
theorem dX4_wipe_5 : decode cX4_wipe 5 = .ok (.aload_n 0, 1) := by decide +kernel
theorem dX4_wipe_6 : decode cX4_wipe 6 = .ok (.iload_n 1, 1) := by decide +kernel
theorem dX4_wipe_7 : decode cX4_wipe 7 = .ok (.invokevirtual 116, 3) := by decide +kernel
theorem dX4_wipe_10 : decode cX4_wipe 10 = .ok (.ifCond .eq 10, 3) := by decide +kernel
theorem dX4_wipe_13 : decode cX4_wipe 13 = .ok (.iload_n 2, 1) := by decide +kernel
theorem dX4_wipe_14 : decode cX4_wipe 14 = .ok (.invokestatic 120, 3) := by decide +kernel
theorem dX4_wipe_17 : decode cX4_wipe 17 = .ok (.ifCond .ne 6, 3) := by decide +kernel
theorem dX4_wipe_20 : decode cX4_wipe 20 = .ok (.ldc 123, 2) := by decide +kernel
theorem dX4_wipe_22 : decode cX4_wipe 22 = .ok (.ireturn, 1) := by decide +kernel
theorem dX4_wipe_23 : decode cX4_wipe 23 = .ok (.aload_n 0, 1) := by decide +kernel
theorem dX4_wipe_24 : decode cX4_wipe 24 = .ok (.getfield 73, 3) := by decide +kernel
theorem dX4_wipe_27 : decode cX4_wipe 27 = .ok (.iconst 4, 1) := by decide +kernel
theorem dX4_wipe_28 : decode cX4_wipe 28 = .ok (.iload_n 1, 1) := by decide +kernel
theorem dX4_wipe_29 : decode cX4_wipe 29 = .ok (.imul, 1) := by decide +kernel
theorem dX4_wipe_30 : decode cX4_wipe 30 = .ok (.iload_n 2, 1) := by decide +kernel
theorem dX4_wipe_31 : decode cX4_wipe 31 = .ok (.iadd, 1) := by decide +kernel
theorem dX4_wipe_32 : decode cX4_wipe 32 = .ok (.iaload, 1) := by decide +kernel
theorem dX4_wipe_33 : decode cX4_wipe 33 = .ok (.istore_n 3, 1) := by decide +kernel
theorem dX4_wipe_34 : decode cX4_wipe 34 = .ok (.aload_n 0, 1) := by decide +kernel
theorem dX4_wipe_35 : decode cX4_wipe 35 = .ok (.getfield 73, 3) := by decide +kernel
theorem dX4_wipe_38 : decode cX4_wipe 38 = .ok (.iconst 4, 1) := by decide +kernel
theorem dX4_wipe_39 : decode cX4_wipe 39 = .ok (.iload_n 1, 1) := by decide +kernel
theorem dX4_wipe_40 : decode cX4_wipe 40 = .ok (.imul, 1) := by decide +kernel
theorem dX4_wipe_41 : decode cX4_wipe 41 = .ok (.iload_n 2, 1) := by decide +kernel
theorem dX4_wipe_42 : decode cX4_wipe 42 = .ok (.iadd, 1) := by decide +kernel
theorem dX4_wipe_43 : decode cX4_wipe 43 = .ok (.iconst 0, 1) := by decide +kernel
theorem dX4_wipe_44 : decode cX4_wipe 44 = .ok (.iastore, 1) := by decide +kernel
theorem dX4_wipe_45 : decode cX4_wipe 45 = .ok (.aload_n 0, 1) := by decide +kernel
theorem dX4_wipe_46 : decode cX4_wipe 46 = .ok (.iconst 0, 1) := by decide +kernel
theorem dX4_wipe_47 : decode cX4_wipe 47 = .ok (.putfield 19, 3) := by decide +kernel
theorem dX4_wipe_50 : decode cX4_wipe 50 = .ok (.iload_n 3, 1) := by decide +kernel
theorem dX4_wipe_51 : decode cX4_wipe 51 = .ok (.ireturn, 1) := by decide +kernel
theorem dX4_chord_0 : decode cX4_chord 0 = .ok (.aload_n 0, 1) := by decide +kernel
theorem dX4_chord_1 : decode cX4_chord 1 = .ok (.iconst 0, 1) := by decide +kernel
theorem dX4_chord_2 : decode cX4_chord 2 = .ok (.putfield 1, 3) := by decide +kernel
theorem dX4_chord_5 : decode cX4_chord 5 = .ok (.aload_n 0, 1) := by decide +kernel
theorem dX4_chord_6 : decode cX4_chord 6 = .ok (.iload_n 1, 1) := by decide +kernel
theorem dX4_chord_7 : decode cX4_chord 7 = .ok (.invokevirtual 116, 3) := by decide +kernel
theorem dX4_chord_10 : decode cX4_chord 10 = .ok (.ifCond .ne 6, 3) := by decide +kernel
theorem dX4_chord_13 : decode cX4_chord 13 = .ok (.ldc 123, 2) := by decide +kernel
theorem dX4_chord_15 : decode cX4_chord 15 = .ok (.ireturn, 1) := by decide +kernel
theorem dX4_chord_16 : decode cX4_chord 16 = .ok (.iload_n 2, 1) := by decide +kernel
theorem dX4_chord_17 : decode cX4_chord 17 = .ok (.iconst 0, 1) := by decide +kernel
theorem dX4_chord_18 : decode cX4_chord 18 = .ok (.sipush 200, 3) := by decide +kernel
theorem dX4_chord_21 : decode cX4_chord 21 = .ok (.invokestatic 109, 3) := by decide +kernel
theorem dX4_chord_24 : decode cX4_chord 24 = .ok (.ifCond .ne 6, 3) := by decide +kernel
theorem dX4_chord_27 : decode cX4_chord 27 = .ok (.ldc 113, 2) := by decide +kernel
theorem dX4_chord_29 : decode cX4_chord 29 = .ok (.ireturn, 1) := by decide +kernel
theorem dX4_chord_30 : decode cX4_chord 30 = .ok (.aload_n 0, 1) := by decide +kernel
theorem dX4_chord_31 : decode cX4_chord 31 = .ok (.getfield 61, 3) := by decide +kernel
theorem dX4_chord_34 : decode cX4_chord 34 = .ok (.iload_n 1, 1) := by decide +kernel
theorem dX4_chord_35 : decode cX4_chord 35 = .ok (.iaload, 1) := by decide +kernel
theorem dX4_chord_36 : decode cX4_chord 36 = .ok (.istore_n 3, 1) := by decide +kernel
theorem dX4_chord_37 : decode cX4_chord 37 = .ok (.aload_n 0, 1) := by decide +kernel
theorem dX4_chord_38 : decode cX4_chord 38 = .ok (.getfield 61, 3) := by decide +kernel
theorem dX4_chord_41 : decode cX4_chord 41 = .ok (.iload_n 1, 1) := by decide +kernel
theorem dX4_chord_42 : decode cX4_chord 42 = .ok (.iload_n 2, 1) := by decide +kernel
theorem dX4_chord_43 : decode cX4_chord 43 = .ok (.iastore, 1) := by decide +kernel
theorem dX4_chord_44 : decode cX4_chord 44 = .ok (.aload_n 0, 1) := by decide +kernel
theorem dX4_chord_45 : decode cX4_chord 45 = .ok (.iconst 0, 1) := by decide +kernel
theorem dX4_chord_46 : decode cX4_chord 46 = .ok (.putfield 19, 3) := by decide +kernel
theorem dX4_chord_49 : decode cX4_chord 49 = .ok (.iload_n 3, 1) := by decide +kernel
theorem dX4_chord_50 : decode cX4_chord 50 = .ok (.ireturn, 1) := by decide +kernel
theorem dX4_syllablesOf_0 : decode cX4_syllablesOf 0 = .ok (.iconst 0, 1) := by decide +kernel
theorem dX4_syllablesOf_1 : decode cX4_syllablesOf 1 = .ok (.istore_n 3, 1) := by decide +kernel
theorem dX4_syllablesOf_2 : decode cX4_syllablesOf 2 = .ok (.iload_n 2, 1) := by decide +kernel
theorem dX4_syllablesOf_3 : decode cX4_syllablesOf 3 = .ok (.istore 4, 2) := by decide +kernel
theorem dX4_syllablesOf_5 : decode cX4_syllablesOf 5 = .ok (.iload 4, 2) := by decide +kernel
theorem dX4_syllablesOf_7 : decode cX4_syllablesOf 7 = .ok (.iconst 4, 1) := by decide +kernel
theorem dX4_syllablesOf_8 : decode cX4_syllablesOf 8 = .ok (.if_icmp .ge 23, 3) := by decide +kernel
theorem dX4_syllablesOf_11 : decode cX4_syllablesOf 11 = .ok (.iload_n 3, 1) := by decide +kernel
theorem dX4_syllablesOf_12 : decode cX4_syllablesOf 12 = .ok (.aload_n 0, 1) := by decide +kernel
theorem dX4_syllablesOf_13 : decode cX4_syllablesOf 13 = .ok (.getfield 73, 3) := by decide +kernel
theorem dX4_syllablesOf_16 : decode cX4_syllablesOf 16 = .ok (.iconst 4, 1) := by decide +kernel
theorem dX4_syllablesOf_17 : decode cX4_syllablesOf 17 = .ok (.iload_n 1, 1) := by decide +kernel
theorem dX4_syllablesOf_18 : decode cX4_syllablesOf 18 = .ok (.imul, 1) := by decide +kernel
theorem dX4_syllablesOf_19 : decode cX4_syllablesOf 19 = .ok (.iload 4, 2) := by decide +kernel
theorem dX4_syllablesOf_21 : decode cX4_syllablesOf 21 = .ok (.iadd, 1) := by decide +kernel
theorem dX4_syllablesOf_22 : decode cX4_syllablesOf 22 = .ok (.iaload, 1) := by decide +kernel
theorem dX4_syllablesOf_23 : decode cX4_syllablesOf 23 = .ok (.iadd, 1) := by decide +kernel
theorem dX4_syllablesOf_24 : decode cX4_syllablesOf 24 = .ok (.istore_n 3, 1) := by decide +kernel
theorem dX4_syllablesOf_25 : decode cX4_syllablesOf 25 = .ok (.iinc 4 1, 3) := by decide +kernel
theorem dX4_syllablesOf_28 : decode cX4_syllablesOf 28 = .ok (.goto (-23), 3) := by decide +kernel
theorem dX4_syllablesOf_31 : decode cX4_syllablesOf 31 = .ok (.iload_n 3, 1) := by decide +kernel
theorem dX4_syllablesOf_32 : decode cX4_syllablesOf 32 = .ok (.ireturn, 1) := by decide +kernel
theorem dX4_melisma_0 : decode cX4_melisma 0 = .ok (.aload_n 0, 1) := by decide +kernel
theorem dX4_melisma_1 : decode cX4_melisma 1 = .ok (.iconst 0, 1) := by decide +kernel
theorem dX4_melisma_2 : decode cX4_melisma 2 = .ok (.putfield 1, 3) := by decide +kernel
theorem dX4_melisma_5 : decode cX4_melisma 5 = .ok (.aload_n 0, 1) := by decide +kernel
theorem dX4_melisma_6 : decode cX4_melisma 6 = .ok (.iload_n 1, 1) := by decide +kernel
theorem dX4_melisma_7 : decode cX4_melisma 7 = .ok (.invokevirtual 116, 3) := by decide +kernel
theorem dX4_melisma_10 : decode cX4_melisma 10 = .ok (.ifCond .ne 6, 3) := by decide +kernel
theorem dX4_melisma_13 : decode cX4_melisma 13 = .ok (.ldc 123, 2) := by decide +kernel
theorem dX4_melisma_15 : decode cX4_melisma 15 = .ok (.ireturn, 1) := by decide +kernel
theorem dX4_melisma_16 : decode cX4_melisma 16 = .ok (.iload_n 2, 1) := by decide +kernel
theorem dX4_melisma_17 : decode cX4_melisma 17 = .ok (.iconst 2, 1) := by decide +kernel
theorem dX4_melisma_18 : decode cX4_melisma 18 = .ok (.bipush 20, 2) := by decide +kernel
theorem dX4_melisma_20 : decode cX4_melisma 20 = .ok (.invokestatic 109, 3) := by decide +kernel
theorem dX4_melisma_23 : decode cX4_melisma 23 = .ok (.ifCond .eq 13, 3) := by decide +kernel
theorem dX4_melisma_26 : decode cX4_melisma 26 = .ok (.iload_n 1, 1) := by decide +kernel
theorem dX4_melisma_27 : decode cX4_melisma 27 = .ok (.iload_n 2, 1) := by decide +kernel
theorem dX4_melisma_28 : decode cX4_melisma 28 = .ok (.iadd, 1) := by decide +kernel
theorem dX4_melisma_29 : decode cX4_melisma 29 = .ok (.aload_n 0, 1) := by decide +kernel
theorem dX4_melisma_30 : decode cX4_melisma 30 = .ok (.getfield 7, 3) := by decide +kernel
theorem dX4_melisma_33 : decode cX4_melisma 33 = .ok (.if_icmp .le 6, 3) := by decide +kernel
theorem dX4_melisma_36 : decode cX4_melisma 36 = .ok (.ldc 113, 2) := by decide +kernel
theorem dX4_melisma_38 : decode cX4_melisma 38 = .ok (.ireturn, 1) := by decide +kernel
theorem dX4_melisma_39 : decode cX4_melisma 39 = .ok (.iload_n 1, 1) := by decide +kernel
theorem dX4_melisma_40 : decode cX4_melisma 40 = .ok (.istore_n 3, 1) := by decide +kernel
theorem dX4_melisma_41 : decode cX4_melisma 41 = .ok (.iload_n 3, 1) := by decide +kernel
theorem dX4_melisma_42 : decode cX4_melisma 42 = .ok (.iload_n 1, 1) := by decide +kernel
theorem dX4_melisma_43 : decode cX4_melisma 43 = .ok (.iload_n 2, 1) := by decide +kernel
theorem dX4_melisma_44 : decode cX4_melisma 44 = .ok (.iadd, 1) := by decide +kernel
theorem dX4_melisma_45 : decode cX4_melisma 45 = .ok (.if_icmp .ge 46, 3) := by decide +kernel
theorem dX4_melisma_48 : decode cX4_melisma 48 = .ok (.aload_n 0, 1) := by decide +kernel
theorem dX4_melisma_49 : decode cX4_melisma 49 = .ok (.getfield 58, 3) := by decide +kernel
theorem dX4_melisma_52 : decode cX4_melisma 52 = .ok (.iload_n 3, 1) := by decide +kernel
theorem dX4_melisma_53 : decode cX4_melisma 53 = .ok (.baload, 1) := by decide +kernel
theorem dX4_melisma_54 : decode cX4_melisma 54 = .ok (.ifCond .ne 28, 3) := by decide +kernel
theorem dX4_melisma_57 : decode cX4_melisma 57 = .ok (.aload_n 0, 1) := by decide +kernel
theorem dX4_melisma_58 : decode cX4_melisma 58 = .ok (.getfield 64, 3) := by decide +kernel
theorem dX4_melisma_61 : decode cX4_melisma 61 = .ok (.iload_n 3, 1) := by decide +kernel
theorem dX4_melisma_62 : decode cX4_melisma 62 = .ok (.iaload, 1) := by decide +kernel
theorem dX4_melisma_63 : decode cX4_melisma 63 = .ok (.ldc 115, 2) := by decide +kernel
theorem dX4_melisma_65 : decode cX4_melisma 65 = .ok (.if_icmp .ne 17, 3) := by decide +kernel
theorem dX4_melisma_68 : decode cX4_melisma 68 = .ok (.iload_n 3, 1) := by decide +kernel
theorem dX4_melisma_69 : decode cX4_melisma 69 = .ok (.iload_n 1, 1) := by decide +kernel
theorem dX4_melisma_70 : decode cX4_melisma 70 = .ok (.if_icmp .le 15, 3) := by decide +kernel
theorem dX4_melisma_73 : decode cX4_melisma 73 = .ok (.aload_n 0, 1) := by decide +kernel
theorem dX4_melisma_74 : decode cX4_melisma 74 = .ok (.iload_n 3, 1) := by decide +kernel
theorem dX4_melisma_75 : decode cX4_melisma 75 = .ok (.iconst 0, 1) := by decide +kernel
theorem dX4_melisma_76 : decode cX4_melisma 76 = .ok (.invokevirtual 128, 3) := by decide +kernel
theorem dX4_melisma_79 : decode cX4_melisma 79 = .ok (.ifCond .le 6, 3) := by decide +kernel
theorem dX4_melisma_82 : decode cX4_melisma 82 = .ok (.ldc 127, 2) := by decide +kernel
theorem dX4_melisma_84 : decode cX4_melisma 84 = .ok (.ireturn, 1) := by decide +kernel
theorem dX4_melisma_85 : decode cX4_melisma 85 = .ok (.iinc 3 1, 3) := by decide +kernel
theorem dX4_melisma_88 : decode cX4_melisma 88 = .ok (.goto (-47), 3) := by decide +kernel
theorem dX4_melisma_91 : decode cX4_melisma 91 = .ok (.iload_n 1, 1) := by decide +kernel
theorem dX4_melisma_92 : decode cX4_melisma 92 = .ok (.istore_n 3, 1) := by decide +kernel
theorem dX4_melisma_93 : decode cX4_melisma 93 = .ok (.iload_n 3, 1) := by decide +kernel
theorem dX4_melisma_94 : decode cX4_melisma 94 = .ok (.iload_n 1, 1) := by decide +kernel
theorem dX4_melisma_95 : decode cX4_melisma 95 = .ok (.iload_n 2, 1) := by decide +kernel
theorem dX4_melisma_96 : decode cX4_melisma 96 = .ok (.iadd, 1) := by decide +kernel
theorem dX4_melisma_97 : decode cX4_melisma 97 = .ok (.if_icmp .ge 16, 3) := by decide +kernel
theorem dX4_melisma_100 : decode cX4_melisma 100 = .ok (.aload_n 0, 1) := by decide +kernel
theorem dX4_melisma_101 : decode cX4_melisma 101 = .ok (.getfield 64, 3) := by decide +kernel
theorem dX4_melisma_104 : decode cX4_melisma 104 = .ok (.iload_n 3, 1) := by decide +kernel
theorem dX4_melisma_105 : decode cX4_melisma 105 = .ok (.iload_n 1, 1) := by decide +kernel
theorem dX4_melisma_106 : decode cX4_melisma 106 = .ok (.iastore, 1) := by decide +kernel
theorem dX4_melisma_107 : decode cX4_melisma 107 = .ok (.iinc 3 1, 3) := by decide +kernel
theorem dX4_melisma_110 : decode cX4_melisma 110 = .ok (.goto (-17), 3) := by decide +kernel
theorem dX4_melisma_113 : decode cX4_melisma 113 = .ok (.aload_n 0, 1) := by decide +kernel
theorem dX4_melisma_114 : decode cX4_melisma 114 = .ok (.getfield 67, 3) := by decide +kernel
theorem dX4_melisma_117 : decode cX4_melisma 117 = .ok (.iload_n 1, 1) := by decide +kernel
theorem dX4_melisma_118 : decode cX4_melisma 118 = .ok (.iload_n 2, 1) := by decide +kernel
theorem dX4_melisma_119 : decode cX4_melisma 119 = .ok (.iastore, 1) := by decide +kernel
theorem dX4_melisma_120 : decode cX4_melisma 120 = .ok (.aload_n 0, 1) := by decide +kernel
theorem dX4_melisma_121 : decode cX4_melisma 121 = .ok (.dup, 1) := by decide +kernel
theorem dX4_melisma_122 : decode cX4_melisma 122 = .ok (.getfield 10, 3) := by decide +kernel
theorem dX4_melisma_125 : decode cX4_melisma 125 = .ok (.iconst 1, 1) := by decide +kernel
theorem dX4_melisma_126 : decode cX4_melisma 126 = .ok (.iadd, 1) := by decide +kernel
theorem dX4_melisma_127 : decode cX4_melisma 127 = .ok (.putfield 10, 3) := by decide +kernel
theorem dX4_melisma_130 : decode cX4_melisma 130 = .ok (.aload_n 0, 1) := by decide +kernel
theorem dX4_melisma_131 : decode cX4_melisma 131 = .ok (.iconst 0, 1) := by decide +kernel
theorem dX4_melisma_132 : decode cX4_melisma 132 = .ok (.putfield 19, 3) := by decide +kernel
theorem dX4_melisma_135 : decode cX4_melisma 135 = .ok (.aload_n 0, 1) := by decide +kernel
theorem dX4_melisma_136 : decode cX4_melisma 136 = .ok (.getfield 10, 3) := by decide +kernel
theorem dX4_melisma_139 : decode cX4_melisma 139 = .ok (.ireturn, 1) := by decide +kernel
theorem dX4_refrain_0 : decode cX4_refrain 0 = .ok (.aload_n 0, 1) := by decide +kernel
theorem dX4_refrain_1 : decode cX4_refrain 1 = .ok (.iconst 0, 1) := by decide +kernel
theorem dX4_refrain_2 : decode cX4_refrain 2 = .ok (.putfield 1, 3) := by decide +kernel
theorem dX4_refrain_5 : decode cX4_refrain 5 = .ok (.aload_n 0, 1) := by decide +kernel
theorem dX4_refrain_6 : decode cX4_refrain 6 = .ok (.iload_n 1, 1) := by decide +kernel
theorem dX4_refrain_7 : decode cX4_refrain 7 = .ok (.invokevirtual 116, 3) := by decide +kernel
theorem dX4_refrain_10 : decode cX4_refrain 10 = .ok (.ifCond .ne 6, 3) := by decide +kernel
theorem dX4_refrain_13 : decode cX4_refrain 13 = .ok (.ldc 123, 2) := by decide +kernel
theorem dX4_refrain_15 : decode cX4_refrain 15 = .ok (.ireturn, 1) := by decide +kernel
theorem dX4_refrain_16 : decode cX4_refrain 16 = .ok (.iload_n 2, 1) := by decide +kernel
theorem dX4_refrain_17 : decode cX4_refrain 17 = .ok (.iconst 1, 1) := by decide +kernel
theorem dX4_refrain_18 : decode cX4_refrain 18 = .ok (.bipush 60, 2) := by decide +kernel
theorem dX4_refrain_20 : decode cX4_refrain 20 = .ok (.invokestatic 109, 3) := by decide +kernel
theorem dX4_refrain_23 : decode cX4_refrain 23 = .ok (.ifCond .eq 13, 3) := by decide +kernel
theorem dX4_refrain_26 : decode cX4_refrain 26 = .ok (.iload_n 1, 1) := by decide +kernel
theorem dX4_refrain_27 : decode cX4_refrain 27 = .ok (.iload_n 2, 1) := by decide +kernel
theorem dX4_refrain_28 : decode cX4_refrain 28 = .ok (.iadd, 1) := by decide +kernel
theorem dX4_refrain_29 : decode cX4_refrain 29 = .ok (.aload_n 0, 1) := by decide +kernel
theorem dX4_refrain_30 : decode cX4_refrain 30 = .ok (.getfield 7, 3) := by decide +kernel
theorem dX4_refrain_33 : decode cX4_refrain 33 = .ok (.if_icmp .le 6, 3) := by decide +kernel
theorem dX4_refrain_36 : decode cX4_refrain 36 = .ok (.ldc 113, 2) := by decide +kernel
theorem dX4_refrain_38 : decode cX4_refrain 38 = .ok (.ireturn, 1) := by decide +kernel
theorem dX4_refrain_39 : decode cX4_refrain 39 = .ok (.iload_n 1, 1) := by decide +kernel
theorem dX4_refrain_40 : decode cX4_refrain 40 = .ok (.istore_n 3, 1) := by decide +kernel
theorem dX4_refrain_41 : decode cX4_refrain 41 = .ok (.iload_n 3, 1) := by decide +kernel
theorem dX4_refrain_42 : decode cX4_refrain 42 = .ok (.iload_n 1, 1) := by decide +kernel
theorem dX4_refrain_43 : decode cX4_refrain 43 = .ok (.iload_n 2, 1) := by decide +kernel
theorem dX4_refrain_44 : decode cX4_refrain 44 = .ok (.iadd, 1) := by decide +kernel
theorem dX4_refrain_45 : decode cX4_refrain 45 = .ok (.if_icmp .ge 32, 3) := by decide +kernel
theorem dX4_refrain_48 : decode cX4_refrain 48 = .ok (.aload_n 0, 1) := by decide +kernel
theorem dX4_refrain_49 : decode cX4_refrain 49 = .ok (.getfield 70, 3) := by decide +kernel
theorem dX4_refrain_52 : decode cX4_refrain 52 = .ok (.iload_n 3, 1) := by decide +kernel
theorem dX4_refrain_53 : decode cX4_refrain 53 = .ok (.iaload, 1) := by decide +kernel
theorem dX4_refrain_54 : decode cX4_refrain 54 = .ok (.ldc 115, 2) := by decide +kernel
theorem dX4_refrain_56 : decode cX4_refrain 56 = .ok (.if_icmp .ne 12, 3) := by decide +kernel
theorem dX4_refrain_59 : decode cX4_refrain 59 = .ok (.aload_n 0, 1) := by decide +kernel
theorem dX4_refrain_60 : decode cX4_refrain 60 = .ok (.iload_n 3, 1) := by decide +kernel
theorem dX4_refrain_61 : decode cX4_refrain 61 = .ok (.iconst 1, 1) := by decide +kernel
theorem dX4_refrain_62 : decode cX4_refrain 62 = .ok (.invokevirtual 128, 3) := by decide +kernel
theorem dX4_refrain_65 : decode cX4_refrain 65 = .ok (.ifCond .le 6, 3) := by decide +kernel
theorem dX4_refrain_68 : decode cX4_refrain 68 = .ok (.ldc 127, 2) := by decide +kernel
theorem dX4_refrain_70 : decode cX4_refrain 70 = .ok (.ireturn, 1) := by decide +kernel
theorem dX4_refrain_71 : decode cX4_refrain 71 = .ok (.iinc 3 1, 3) := by decide +kernel
theorem dX4_refrain_74 : decode cX4_refrain 74 = .ok (.goto (-33), 3) := by decide +kernel
theorem dX4_refrain_77 : decode cX4_refrain 77 = .ok (.aload_n 0, 1) := by decide +kernel
theorem dX4_refrain_78 : decode cX4_refrain 78 = .ok (.getfield 13, 3) := by decide +kernel
theorem dX4_refrain_81 : decode cX4_refrain 81 = .ok (.iconst 3, 1) := by decide +kernel
theorem dX4_refrain_82 : decode cX4_refrain 82 = .ok (.if_icmp .ne 6, 3) := by decide +kernel
theorem dX4_refrain_85 : decode cX4_refrain 85 = .ok (.ldc 114, 2) := by decide +kernel
theorem dX4_refrain_87 : decode cX4_refrain 87 = .ok (.ireturn, 1) := by decide +kernel
theorem dX4_refrain_88 : decode cX4_refrain 88 = .ok (.iload_n 1, 1) := by decide +kernel
theorem dX4_refrain_89 : decode cX4_refrain 89 = .ok (.istore_n 3, 1) := by decide +kernel
theorem dX4_refrain_90 : decode cX4_refrain 90 = .ok (.iload_n 3, 1) := by decide +kernel
theorem dX4_refrain_91 : decode cX4_refrain 91 = .ok (.iload_n 1, 1) := by decide +kernel
theorem dX4_refrain_92 : decode cX4_refrain 92 = .ok (.iload_n 2, 1) := by decide +kernel
theorem dX4_refrain_93 : decode cX4_refrain 93 = .ok (.iadd, 1) := by decide +kernel
theorem dX4_refrain_94 : decode cX4_refrain 94 = .ok (.if_icmp .ge 16, 3) := by decide +kernel
theorem dX4_refrain_97 : decode cX4_refrain 97 = .ok (.aload_n 0, 1) := by decide +kernel
theorem dX4_refrain_98 : decode cX4_refrain 98 = .ok (.getfield 70, 3) := by decide +kernel
theorem dX4_refrain_101 : decode cX4_refrain 101 = .ok (.iload_n 3, 1) := by decide +kernel
theorem dX4_refrain_102 : decode cX4_refrain 102 = .ok (.iload_n 1, 1) := by decide +kernel
theorem dX4_refrain_103 : decode cX4_refrain 103 = .ok (.iastore, 1) := by decide +kernel
theorem dX4_refrain_104 : decode cX4_refrain 104 = .ok (.iinc 3 1, 3) := by decide +kernel
theorem dX4_refrain_107 : decode cX4_refrain 107 = .ok (.goto (-17), 3) := by decide +kernel
theorem dX4_refrain_110 : decode cX4_refrain 110 = .ok (.aload_n 0, 1) := by decide +kernel
theorem dX4_refrain_111 : decode cX4_refrain 111 = .ok (.dup, 1) := by decide +kernel
theorem dX4_refrain_112 : decode cX4_refrain 112 = .ok (.getfield 13, 3) := by decide +kernel
theorem dX4_refrain_115 : decode cX4_refrain 115 = .ok (.iconst 1, 1) := by decide +kernel
theorem dX4_refrain_116 : decode cX4_refrain 116 = .ok (.iadd, 1) := by decide +kernel
theorem dX4_refrain_117 : decode cX4_refrain 117 = .ok (.putfield 13, 3) := by decide +kernel
theorem dX4_refrain_120 : decode cX4_refrain 120 = .ok (.aload_n 0, 1) := by decide +kernel
theorem dX4_refrain_121 : decode cX4_refrain 121 = .ok (.iconst 0, 1) := by decide +kernel
theorem dX4_refrain_122 : decode cX4_refrain 122 = .ok (.putfield 19, 3) := by decide +kernel
theorem dX4_refrain_125 : decode cX4_refrain 125 = .ok (.aload_n 0, 1) := by decide +kernel
theorem dX4_refrain_126 : decode cX4_refrain 126 = .ok (.getfield 13, 3) := by decide +kernel
theorem dX4_refrain_129 : decode cX4_refrain 129 = .ok (.ireturn, 1) := by decide +kernel
theorem dX4_align_0 : decode cX4_align 0 = .ok (.aload_n 0, 1) := by decide +kernel
theorem dX4_align_1 : decode cX4_align 1 = .ok (.iconst 0, 1) := by decide +kernel
theorem dX4_align_2 : decode cX4_align 2 = .ok (.putfield 1, 3) := by decide +kernel
theorem dX4_align_5 : decode cX4_align 5 = .ok (.iload_n 1, 1) := by decide +kernel
theorem dX4_align_6 : decode cX4_align 6 = .ok (.invokestatic 120, 3) := by decide +kernel
theorem dX4_align_9 : decode cX4_align 9 = .ok (.ifCond .ne 6, 3) := by decide +kernel
theorem dX4_align_12 : decode cX4_align 12 = .ok (.ldc 123, 2) := by decide +kernel
theorem dX4_align_14 : decode cX4_align 14 = .ok (.ireturn, 1) := by decide +kernel
theorem dX4_align_15 : decode cX4_align 15 = .ok (.iload_n 2, 1) := by decide +kernel
theorem dX4_align_16 : decode cX4_align 16 = .ok (.iconst 0, 1) := by decide +kernel
theorem dX4_align_17 : decode cX4_align 17 = .ok (.iconst 2, 1) := by decide +kernel
theorem dX4_align_18 : decode cX4_align 18 = .ok (.invokestatic 109, 3) := by decide +kernel
theorem dX4_align_21 : decode cX4_align 21 = .ok (.ifCond .ne 6, 3) := by decide +kernel
theorem dX4_align_24 : decode cX4_align 24 = .ok (.ldc 113, 2) := by decide +kernel
theorem dX4_align_26 : decode cX4_align 26 = .ok (.ireturn, 1) := by decide +kernel
theorem dX4_align_27 : decode cX4_align 27 = .ok (.aload_n 0, 1) := by decide +kernel
theorem dX4_align_28 : decode cX4_align 28 = .ok (.getfield 38, 3) := by decide +kernel
theorem dX4_align_31 : decode cX4_align 31 = .ok (.iload_n 1, 1) := by decide +kernel
theorem dX4_align_32 : decode cX4_align 32 = .ok (.iaload, 1) := by decide +kernel
theorem dX4_align_33 : decode cX4_align 33 = .ok (.istore_n 3, 1) := by decide +kernel
theorem dX4_align_34 : decode cX4_align 34 = .ok (.aload_n 0, 1) := by decide +kernel
theorem dX4_align_35 : decode cX4_align 35 = .ok (.getfield 38, 3) := by decide +kernel
theorem dX4_align_38 : decode cX4_align 38 = .ok (.iload_n 1, 1) := by decide +kernel
theorem dX4_align_39 : decode cX4_align 39 = .ok (.iload_n 2, 1) := by decide +kernel
theorem dX4_align_40 : decode cX4_align 40 = .ok (.iastore, 1) := by decide +kernel
theorem dX4_align_41 : decode cX4_align 41 = .ok (.aload_n 0, 1) := by decide +kernel
theorem dX4_align_42 : decode cX4_align 42 = .ok (.iconst 0, 1) := by decide +kernel
theorem dX4_align_43 : decode cX4_align 43 = .ok (.putfield 19, 3) := by decide +kernel
theorem dX4_align_46 : decode cX4_align 46 = .ok (.iload_n 3, 1) := by decide +kernel
theorem dX4_align_47 : decode cX4_align 47 = .ok (.ireturn, 1) := by decide +kernel
theorem dX4_translation_0 : decode cX4_translation 0 = .ok (.aload_n 0, 1) := by decide +kernel
theorem dX4_translation_1 : decode cX4_translation 1 = .ok (.iconst 0, 1) := by decide +kernel
theorem dX4_translation_2 : decode cX4_translation 2 = .ok (.putfield 1, 3) := by decide +kernel
theorem dX4_translation_5 : decode cX4_translation 5 = .ok (.iload_n 1, 1) := by decide +kernel
theorem dX4_translation_6 : decode cX4_translation 6 = .ok (.invokestatic 120, 3) := by decide +kernel
theorem dX4_translation_9 : decode cX4_translation 9 = .ok (.ifCond .ne 6, 3) := by decide +kernel
theorem dX4_translation_12 : decode cX4_translation 12 = .ok (.ldc 123, 2) := by decide +kernel
theorem dX4_translation_14 : decode cX4_translation 14 = .ok (.ireturn, 1) := by decide +kernel
theorem dX4_translation_15 : decode cX4_translation 15 = .ok (.aload_n 0, 1) := by decide +kernel
theorem dX4_translation_16 : decode cX4_translation 16 = .ok (.getfield 42, 3) := by decide +kernel
theorem dX4_translation_19 : decode cX4_translation 19 = .ok (.iload_n 1, 1) := by decide +kernel
theorem dX4_translation_20 : decode cX4_translation 20 = .ok (.baload, 1) := by decide +kernel
theorem dX4_translation_21 : decode cX4_translation 21 = .ok (.ifCond .eq 7, 3) := by decide +kernel
theorem dX4_translation_24 : decode cX4_translation 24 = .ok (.iconst 1, 1) := by decide +kernel
theorem dX4_translation_25 : decode cX4_translation 25 = .ok (.goto 4, 3) := by decide +kernel
theorem dX4_translation_28 : decode cX4_translation 28 = .ok (.iconst 0, 1) := by decide +kernel
theorem dX4_translation_29 : decode cX4_translation 29 = .ok (.istore_n 3, 1) := by decide +kernel
theorem dX4_translation_30 : decode cX4_translation 30 = .ok (.aload_n 0, 1) := by decide +kernel
theorem dX4_translation_31 : decode cX4_translation 31 = .ok (.getfield 42, 3) := by decide +kernel
theorem dX4_translation_34 : decode cX4_translation 34 = .ok (.iload_n 1, 1) := by decide +kernel
theorem dX4_translation_35 : decode cX4_translation 35 = .ok (.iload_n 2, 1) := by decide +kernel
theorem dX4_translation_36 : decode cX4_translation 36 = .ok (.bastore, 1) := by decide +kernel
theorem dX4_translation_37 : decode cX4_translation 37 = .ok (.aload_n 0, 1) := by decide +kernel
theorem dX4_translation_38 : decode cX4_translation 38 = .ok (.iconst 0, 1) := by decide +kernel
theorem dX4_translation_39 : decode cX4_translation 39 = .ok (.putfield 19, 3) := by decide +kernel
theorem dX4_translation_42 : decode cX4_translation 42 = .ok (.iload_n 3, 1) := by decide +kernel
theorem dX4_translation_43 : decode cX4_translation 43 = .ok (.ireturn, 1) := by decide +kernel
theorem dX4_limit_0 : decode cX4_limit 0 = .ok (.aload_n 0, 1) := by decide +kernel
theorem dX4_limit_1 : decode cX4_limit 1 = .ok (.iconst 0, 1) := by decide +kernel
theorem dX4_limit_2 : decode cX4_limit 2 = .ok (.putfield 1, 3) := by decide +kernel
theorem dX4_limit_5 : decode cX4_limit 5 = .ok (.iload_n 1, 1) := by decide +kernel
theorem dX4_limit_6 : decode cX4_limit 6 = .ok (.bipush 100, 2) := by decide +kernel
theorem dX4_limit_8 : decode cX4_limit 8 = .ok (.sipush 30000, 3) := by decide +kernel
theorem dX4_limit_11 : decode cX4_limit 11 = .ok (.invokestatic 109, 3) := by decide +kernel
theorem dX4_limit_14 : decode cX4_limit 14 = .ok (.ifCond .ne 6, 3) := by decide +kernel
theorem dX4_limit_17 : decode cX4_limit 17 = .ok (.ldc 113, 2) := by decide +kernel
theorem dX4_limit_19 : decode cX4_limit 19 = .ok (.ireturn, 1) := by decide +kernel
theorem dX4_limit_20 : decode cX4_limit 20 = .ok (.aload_n 0, 1) := by decide +kernel
theorem dX4_limit_21 : decode cX4_limit 21 = .ok (.getfield 16, 3) := by decide +kernel
theorem dX4_limit_24 : decode cX4_limit 24 = .ok (.istore_n 2, 1) := by decide +kernel
theorem dX4_limit_25 : decode cX4_limit 25 = .ok (.aload_n 0, 1) := by decide +kernel
theorem dX4_limit_26 : decode cX4_limit 26 = .ok (.iload_n 1, 1) := by decide +kernel
theorem dX4_limit_27 : decode cX4_limit 27 = .ok (.putfield 16, 3) := by decide +kernel
theorem dX4_limit_30 : decode cX4_limit 30 = .ok (.aload_n 0, 1) := by decide +kernel
theorem dX4_limit_31 : decode cX4_limit 31 = .ok (.iconst 0, 1) := by decide +kernel
theorem dX4_limit_32 : decode cX4_limit 32 = .ok (.putfield 19, 3) := by decide +kernel
theorem dX4_limit_35 : decode cX4_limit 35 = .ok (.iload_n 2, 1) := by decide +kernel
theorem dX4_limit_36 : decode cX4_limit 36 = .ok (.ireturn, 1) := by decide +kernel
theorem dX4_isBox_0 : decode cX4_isBox 0 = .ok (.aload_n 0, 1) := by decide +kernel
theorem dX4_isBox_1 : decode cX4_isBox 1 = .ok (.getfield 73, 3) := by decide +kernel
theorem dX4_isBox_4 : decode cX4_isBox 4 = .ok (.iconst 4, 1) := by decide +kernel
theorem dX4_isBox_5 : decode cX4_isBox 5 = .ok (.iload_n 1, 1) := by decide +kernel
theorem dX4_isBox_6 : decode cX4_isBox 6 = .ok (.imul, 1) := by decide +kernel
theorem dX4_isBox_7 : decode cX4_isBox 7 = .ok (.iload_n 2, 1) := by decide +kernel
theorem dX4_isBox_8 : decode cX4_isBox 8 = .ok (.iadd, 1) := by decide +kernel
theorem dX4_isBox_9 : decode cX4_isBox 9 = .ok (.iaload, 1) := by decide +kernel
theorem dX4_isBox_10 : decode cX4_isBox 10 = .ok (.ifCond .le 7, 3) := by decide +kernel
theorem dX4_isBox_13 : decode cX4_isBox 13 = .ok (.iconst 1, 1) := by decide +kernel
theorem dX4_isBox_14 : decode cX4_isBox 14 = .ok (.goto 4, 3) := by decide +kernel
theorem dX4_isBox_17 : decode cX4_isBox 17 = .ok (.iconst 0, 1) := by decide +kernel
theorem dX4_isBox_18 : decode cX4_isBox 18 = .ok (.ireturn, 1) := by decide +kernel
theorem dX4_wideOf_0 : decode cX4_wideOf 0 = .ok (.bipush 8, 2) := by decide +kernel
theorem dX4_wideOf_2 : decode cX4_wideOf 2 = .ok (.iload_n 1, 1) := by decide +kernel
theorem dX4_wideOf_3 : decode cX4_wideOf 3 = .ok (.imul, 1) := by decide +kernel
theorem dX4_wideOf_4 : decode cX4_wideOf 4 = .ok (.iconst 2, 1) := by decide +kernel
theorem dX4_wideOf_5 : decode cX4_wideOf 5 = .ok (.iload_n 2, 1) := by decide +kernel
theorem dX4_wideOf_6 : decode cX4_wideOf 6 = .ok (.imul, 1) := by decide +kernel
theorem dX4_wideOf_7 : decode cX4_wideOf 7 = .ok (.iadd, 1) := by decide +kernel
theorem dX4_wideOf_8 : decode cX4_wideOf 8 = .ok (.istore_n 3, 1) := by decide +kernel
theorem dX4_wideOf_9 : decode cX4_wideOf 9 = .ok (.aload_n 0, 1) := by decide +kernel
theorem dX4_wideOf_10 : decode cX4_wideOf 10 = .ok (.getfield 73, 3) := by decide +kernel
theorem dX4_wideOf_13 : decode cX4_wideOf 13 = .ok (.iconst 4, 1) := by decide +kernel
theorem dX4_wideOf_14 : decode cX4_wideOf 14 = .ok (.iload_n 1, 1) := by decide +kernel
theorem dX4_wideOf_15 : decode cX4_wideOf 15 = .ok (.imul, 1) := by decide +kernel
theorem dX4_wideOf_16 : decode cX4_wideOf 16 = .ok (.iload_n 2, 1) := by decide +kernel
theorem dX4_wideOf_17 : decode cX4_wideOf 17 = .ok (.iadd, 1) := by decide +kernel
theorem dX4_wideOf_18 : decode cX4_wideOf 18 = .ok (.iaload, 1) := by decide +kernel
theorem dX4_wideOf_19 : decode cX4_wideOf 19 = .ok (.iconst 2, 1) := by decide +kernel
theorem dX4_wideOf_20 : decode cX4_wideOf 20 = .ok (.if_icmp .ne 23, 3) := by decide +kernel
theorem dX4_wideOf_23 : decode cX4_wideOf 23 = .ok (.aload_n 0, 1) := by decide +kernel
theorem dX4_wideOf_24 : decode cX4_wideOf 24 = .ok (.getfield 76, 3) := by decide +kernel
theorem dX4_wideOf_27 : decode cX4_wideOf 27 = .ok (.iload_n 3, 1) := by decide +kernel
theorem dX4_wideOf_28 : decode cX4_wideOf 28 = .ok (.iaload, 1) := by decide +kernel
theorem dX4_wideOf_29 : decode cX4_wideOf 29 = .ok (.aload_n 0, 1) := by decide +kernel
theorem dX4_wideOf_30 : decode cX4_wideOf 30 = .ok (.getfield 76, 3) := by decide +kernel
theorem dX4_wideOf_33 : decode cX4_wideOf 33 = .ok (.iload_n 3, 1) := by decide +kernel
theorem dX4_wideOf_34 : decode cX4_wideOf 34 = .ok (.iconst 1, 1) := by decide +kernel
theorem dX4_wideOf_35 : decode cX4_wideOf 35 = .ok (.iadd, 1) := by decide +kernel
theorem dX4_wideOf_36 : decode cX4_wideOf 36 = .ok (.iaload, 1) := by decide +kernel
theorem dX4_wideOf_37 : decode cX4_wideOf 37 = .ok (.iadd, 1) := by decide +kernel
theorem dX4_wideOf_38 : decode cX4_wideOf 38 = .ok (.iconst 5, 1) := by decide +kernel
theorem dX4_wideOf_39 : decode cX4_wideOf 39 = .ok (.iadd, 1) := by decide +kernel
theorem dX4_wideOf_40 : decode cX4_wideOf 40 = .ok (.goto 9, 3) := by decide +kernel
theorem dX4_wideOf_43 : decode cX4_wideOf 43 = .ok (.aload_n 0, 1) := by decide +kernel
theorem dX4_wideOf_44 : decode cX4_wideOf 44 = .ok (.getfield 76, 3) := by decide +kernel
theorem dX4_wideOf_47 : decode cX4_wideOf 47 = .ok (.iload_n 3, 1) := by decide +kernel
theorem dX4_wideOf_48 : decode cX4_wideOf 48 = .ok (.iaload, 1) := by decide +kernel
theorem dX4_wideOf_49 : decode cX4_wideOf 49 = .ok (.ireturn, 1) := by decide +kernel
theorem dX4_goesOn_0 : decode cX4_goesOn 0 = .ok (.aload_n 0, 1) := by decide +kernel
theorem dX4_goesOn_1 : decode cX4_goesOn 1 = .ok (.getfield 82, 3) := by decide +kernel
theorem dX4_goesOn_4 : decode cX4_goesOn 4 = .ok (.bipush 8, 2) := by decide +kernel
theorem dX4_goesOn_6 : decode cX4_goesOn 6 = .ok (.iload_n 1, 1) := by decide +kernel
theorem dX4_goesOn_7 : decode cX4_goesOn 7 = .ok (.imul, 1) := by decide +kernel
theorem dX4_goesOn_8 : decode cX4_goesOn 8 = .ok (.iconst 2, 1) := by decide +kernel
theorem dX4_goesOn_9 : decode cX4_goesOn 9 = .ok (.iload_n 2, 1) := by decide +kernel
theorem dX4_goesOn_10 : decode cX4_goesOn 10 = .ok (.imul, 1) := by decide +kernel
theorem dX4_goesOn_11 : decode cX4_goesOn 11 = .ok (.iadd, 1) := by decide +kernel
theorem dX4_goesOn_12 : decode cX4_goesOn 12 = .ok (.aload_n 0, 1) := by decide +kernel
theorem dX4_goesOn_13 : decode cX4_goesOn 13 = .ok (.getfield 73, 3) := by decide +kernel
theorem dX4_goesOn_16 : decode cX4_goesOn 16 = .ok (.iconst 4, 1) := by decide +kernel
theorem dX4_goesOn_17 : decode cX4_goesOn 17 = .ok (.iload_n 1, 1) := by decide +kernel
theorem dX4_goesOn_18 : decode cX4_goesOn 18 = .ok (.imul, 1) := by decide +kernel
theorem dX4_goesOn_19 : decode cX4_goesOn 19 = .ok (.iload_n 2, 1) := by decide +kernel
theorem dX4_goesOn_20 : decode cX4_goesOn 20 = .ok (.iadd, 1) := by decide +kernel
theorem dX4_goesOn_21 : decode cX4_goesOn 21 = .ok (.iaload, 1) := by decide +kernel
theorem dX4_goesOn_22 : decode cX4_goesOn 22 = .ok (.iadd, 1) := by decide +kernel
theorem dX4_goesOn_23 : decode cX4_goesOn 23 = .ok (.iconst 1, 1) := by decide +kernel
theorem dX4_goesOn_24 : decode cX4_goesOn 24 = .ok (.isub, 1) := by decide +kernel
theorem dX4_goesOn_25 : decode cX4_goesOn 25 = .ok (.baload, 1) := by decide +kernel
theorem dX4_goesOn_26 : decode cX4_goesOn 26 = .ok (.ireturn, 1) := by decide +kernel
theorem dX4_offset_0 : decode cX4_offset 0 = .ok (.aload_n 0, 1) := by decide +kernel
theorem dX4_offset_1 : decode cX4_offset 1 = .ok (.getfield 38, 3) := by decide +kernel
theorem dX4_offset_4 : decode cX4_offset 4 = .ok (.iload_n 2, 1) := by decide +kernel
theorem dX4_offset_5 : decode cX4_offset 5 = .ok (.iaload, 1) := by decide +kernel
theorem dX4_offset_6 : decode cX4_offset 6 = .ok (.ifCond .ne 14, 3) := by decide +kernel
theorem dX4_offset_9 : decode cX4_offset 9 = .ok (.aload_n 0, 1) := by decide +kernel
theorem dX4_offset_10 : decode cX4_offset 10 = .ok (.iload_n 1, 1) := by decide +kernel
theorem dX4_offset_11 : decode cX4_offset 11 = .ok (.iload_n 2, 1) := by decide +kernel
theorem dX4_offset_12 : decode cX4_offset 12 = .ok (.invokevirtual 132, 3) := by decide +kernel
theorem dX4_offset_15 : decode cX4_offset 15 = .ok (.iconst 2, 1) := by decide +kernel
theorem dX4_offset_16 : decode cX4_offset 16 = .ok (.idiv, 1) := by decide +kernel
theorem dX4_offset_17 : decode cX4_offset 17 = .ok (.goto 30, 3) := by decide +kernel
theorem dX4_offset_20 : decode cX4_offset 20 = .ok (.aload_n 0, 1) := by decide +kernel
theorem dX4_offset_21 : decode cX4_offset 21 = .ok (.getfield 38, 3) := by decide +kernel
theorem dX4_offset_24 : decode cX4_offset 24 = .ok (.iload_n 2, 1) := by decide +kernel
theorem dX4_offset_25 : decode cX4_offset 25 = .ok (.iaload, 1) := by decide +kernel
theorem dX4_offset_26 : decode cX4_offset 26 = .ok (.iconst 1, 1) := by decide +kernel
theorem dX4_offset_27 : decode cX4_offset 27 = .ok (.if_icmp .ne 7, 3) := by decide +kernel
theorem dX4_offset_30 : decode cX4_offset 30 = .ok (.iconst 0, 1) := by decide +kernel
theorem dX4_offset_31 : decode cX4_offset 31 = .ok (.goto 16, 3) := by decide +kernel
theorem dX4_offset_34 : decode cX4_offset 34 = .ok (.aload_n 0, 1) := by decide +kernel
theorem dX4_offset_35 : decode cX4_offset 35 = .ok (.getfield 79, 3) := by decide +kernel
theorem dX4_offset_38 : decode cX4_offset 38 = .ok (.bipush 8, 2) := by decide +kernel
theorem dX4_offset_40 : decode cX4_offset 40 = .ok (.iload_n 1, 1) := by decide +kernel
theorem dX4_offset_41 : decode cX4_offset 41 = .ok (.imul, 1) := by decide +kernel
theorem dX4_offset_42 : decode cX4_offset 42 = .ok (.iconst 2, 1) := by decide +kernel
theorem dX4_offset_43 : decode cX4_offset 43 = .ok (.iload_n 2, 1) := by decide +kernel
theorem dX4_offset_44 : decode cX4_offset 44 = .ok (.imul, 1) := by decide +kernel
theorem dX4_offset_45 : decode cX4_offset 45 = .ok (.iadd, 1) := by decide +kernel
theorem dX4_offset_46 : decode cX4_offset 46 = .ok (.iaload, 1) := by decide +kernel
theorem dX4_offset_47 : decode cX4_offset 47 = .ok (.ireturn, 1) := by decide +kernel
theorem dX4_other_0 : decode cX4_other 0 = .ok (.iload_n 1, 1) := by decide +kernel
theorem dX4_other_1 : decode cX4_other 1 = .ok (.iload_n 3, 1) := by decide +kernel
theorem dX4_other_2 : decode cX4_other 2 = .ok (.iadd, 1) := by decide +kernel
theorem dX4_other_3 : decode cX4_other 3 = .ok (.istore 4, 2) := by decide +kernel
theorem dX4_other_5 : decode cX4_other 5 = .ok (.iload 4, 2) := by decide +kernel
theorem dX4_other_7 : decode cX4_other 7 = .ok (.ifCond .lt 31, 3) := by decide +kernel
theorem dX4_other_10 : decode cX4_other 10 = .ok (.iload 4, 2) := by decide +kernel
theorem dX4_other_12 : decode cX4_other 12 = .ok (.aload_n 0, 1) := by decide +kernel
theorem dX4_other_13 : decode cX4_other 13 = .ok (.getfield 7, 3) := by decide +kernel
theorem dX4_other_16 : decode cX4_other 16 = .ok (.if_icmp .ge 22, 3) := by decide +kernel
theorem dX4_other_19 : decode cX4_other 19 = .ok (.aload_n 0, 1) := by decide +kernel
theorem dX4_other_20 : decode cX4_other 20 = .ok (.iload 4, 2) := by decide +kernel
theorem dX4_other_22 : decode cX4_other 22 = .ok (.iload_n 2, 1) := by decide +kernel
theorem dX4_other_23 : decode cX4_other 23 = .ok (.invokevirtual 135, 3) := by decide +kernel
theorem dX4_other_26 : decode cX4_other 26 = .ok (.ifCond .ne 12, 3) := by decide +kernel
theorem dX4_other_29 : decode cX4_other 29 = .ok (.iload 4, 2) := by decide +kernel
theorem dX4_other_31 : decode cX4_other 31 = .ok (.iload_n 3, 1) := by decide +kernel
theorem dX4_other_32 : decode cX4_other 32 = .ok (.iadd, 1) := by decide +kernel
theorem dX4_other_33 : decode cX4_other 33 = .ok (.istore 4, 2) := by decide +kernel
theorem dX4_other_35 : decode cX4_other 35 = .ok (.goto (-30), 3) := by decide +kernel
theorem dX4_other_38 : decode cX4_other 38 = .ok (.iload 4, 2) := by decide +kernel
theorem dX4_other_40 : decode cX4_other 40 = .ok (.ifCond .lt 17, 3) := by decide +kernel
theorem dX4_other_43 : decode cX4_other 43 = .ok (.iload 4, 2) := by decide +kernel
theorem dX4_other_45 : decode cX4_other 45 = .ok (.aload_n 0, 1) := by decide +kernel
theorem dX4_other_46 : decode cX4_other 46 = .ok (.getfield 7, 3) := by decide +kernel
theorem dX4_other_49 : decode cX4_other 49 = .ok (.if_icmp .ge 8, 3) := by decide +kernel
theorem dX4_other_52 : decode cX4_other 52 = .ok (.iload 4, 2) := by decide +kernel
theorem dX4_other_54 : decode cX4_other 54 = .ok (.goto 5, 3) := by decide +kernel
theorem dX4_other_57 : decode cX4_other 57 = .ok (.ldc 115, 2) := by decide +kernel
theorem dX4_other_59 : decode cX4_other 59 = .ok (.ireturn, 1) := by decide +kernel
theorem dX4_chordBefore_0 : decode cX4_chordBefore 0 = .ok (.iload_n 1, 1) := by decide +kernel
theorem dX4_chordBefore_1 : decode cX4_chordBefore 1 = .ok (.iconst 1, 1) := by decide +kernel
theorem dX4_chordBefore_2 : decode cX4_chordBefore 2 = .ok (.isub, 1) := by decide +kernel
theorem dX4_chordBefore_3 : decode cX4_chordBefore 3 = .ok (.istore_n 2, 1) := by decide +kernel
theorem dX4_chordBefore_4 : decode cX4_chordBefore 4 = .ok (.iload_n 2, 1) := by decide +kernel
theorem dX4_chordBefore_5 : decode cX4_chordBefore 5 = .ok (.ifCond .lt 18, 3) := by decide +kernel
theorem dX4_chordBefore_8 : decode cX4_chordBefore 8 = .ok (.aload_n 0, 1) := by decide +kernel
theorem dX4_chordBefore_9 : decode cX4_chordBefore 9 = .ok (.getfield 61, 3) := by decide +kernel
theorem dX4_chordBefore_12 : decode cX4_chordBefore 12 = .ok (.iload_n 2, 1) := by decide +kernel
theorem dX4_chordBefore_13 : decode cX4_chordBefore 13 = .ok (.iaload, 1) := by decide +kernel
theorem dX4_chordBefore_14 : decode cX4_chordBefore 14 = .ok (.ifCond .ne 9, 3) := by decide +kernel
theorem dX4_chordBefore_17 : decode cX4_chordBefore 17 = .ok (.iinc 2 (-1), 3) := by decide +kernel
theorem dX4_chordBefore_20 : decode cX4_chordBefore 20 = .ok (.goto (-16), 3) := by decide +kernel
theorem dX4_chordBefore_23 : decode cX4_chordBefore 23 = .ok (.iload_n 2, 1) := by decide +kernel
theorem dX4_chordBefore_24 : decode cX4_chordBefore 24 = .ok (.ireturn, 1) := by decide +kernel
theorem dX4_endOf_0 : decode cX4_endOf 0 = .ok (.aload_n 0, 1) := by decide +kernel
theorem dX4_endOf_1 : decode cX4_endOf 1 = .ok (.getfield 88, 3) := by decide +kernel
theorem dX4_endOf_4 : decode cX4_endOf 4 = .ok (.iconst 4, 1) := by decide +kernel
theorem dX4_endOf_5 : decode cX4_endOf 5 = .ok (.iload_n 1, 1) := by decide +kernel
theorem dX4_endOf_6 : decode cX4_endOf 6 = .ok (.imul, 1) := by decide +kernel
theorem dX4_endOf_7 : decode cX4_endOf 7 = .ok (.iload_n 2, 1) := by decide +kernel
theorem dX4_endOf_8 : decode cX4_endOf 8 = .ok (.iadd, 1) := by decide +kernel
theorem dX4_endOf_9 : decode cX4_endOf 9 = .ok (.iaload, 1) := by decide +kernel
theorem dX4_endOf_10 : decode cX4_endOf 10 = .ok (.aload_n 0, 1) := by decide +kernel
theorem dX4_endOf_11 : decode cX4_endOf 11 = .ok (.iload_n 1, 1) := by decide +kernel
theorem dX4_endOf_12 : decode cX4_endOf 12 = .ok (.iload_n 2, 1) := by decide +kernel
theorem dX4_endOf_13 : decode cX4_endOf 13 = .ok (.invokevirtual 132, 3) := by decide +kernel
theorem dX4_endOf_16 : decode cX4_endOf 16 = .ok (.iadd, 1) := by decide +kernel
theorem dX4_endOf_17 : decode cX4_endOf 17 = .ok (.ireturn, 1) := by decide +kernel
theorem dX4_free_0 : decode cX4_free 0 = .ok (.aload_n 0, 1) := by decide +kernel
theorem dX4_free_1 : decode cX4_free 1 = .ok (.iload_n 1, 1) := by decide +kernel
theorem dX4_free_2 : decode cX4_free 2 = .ok (.iload_n 2, 1) := by decide +kernel
theorem dX4_free_3 : decode cX4_free 3 = .ok (.iconst (-1), 1) := by decide +kernel
theorem dX4_free_4 : decode cX4_free 4 = .ok (.invokevirtual 139, 3) := by decide +kernel
theorem dX4_free_7 : decode cX4_free 7 = .ok (.istore_n 3, 1) := by decide +kernel
theorem dX4_free_8 : decode cX4_free 8 = .ok (.iload_n 3, 1) := by decide +kernel
theorem dX4_free_9 : decode cX4_free 9 = .ok (.ldc 115, 2) := by decide +kernel
theorem dX4_free_11 : decode cX4_free 11 = .ok (.if_icmp .ne 7, 3) := by decide +kernel
theorem dX4_free_14 : decode cX4_free 14 = .ok (.iconst (-1), 1) := by decide +kernel
theorem dX4_free_15 : decode cX4_free 15 = .ok (.goto 25, 3) := by decide +kernel
theorem dX4_free_18 : decode cX4_free 18 = .ok (.aload_n 0, 1) := by decide +kernel
theorem dX4_free_19 : decode cX4_free 19 = .ok (.iload_n 3, 1) := by decide +kernel
theorem dX4_free_20 : decode cX4_free 20 = .ok (.iload_n 2, 1) := by decide +kernel
theorem dX4_free_21 : decode cX4_free 21 = .ok (.invokevirtual 143, 3) := by decide +kernel
theorem dX4_free_24 : decode cX4_free 24 = .ok (.aload_n 0, 1) := by decide +kernel
theorem dX4_free_25 : decode cX4_free 25 = .ok (.iload_n 3, 1) := by decide +kernel
theorem dX4_free_26 : decode cX4_free 26 = .ok (.iload_n 2, 1) := by decide +kernel
theorem dX4_free_27 : decode cX4_free 27 = .ok (.invokevirtual 146, 3) := by decide +kernel
theorem dX4_free_30 : decode cX4_free 30 = .ok (.ifCond .eq 7, 3) := by decide +kernel
theorem dX4_free_33 : decode cX4_free 33 = .ok (.iconst 4, 1) := by decide +kernel
theorem dX4_free_34 : decode cX4_free 34 = .ok (.goto 5, 3) := by decide +kernel
theorem dX4_free_37 : decode cX4_free 37 = .ok (.bipush 12, 2) := by decide +kernel
theorem dX4_free_39 : decode cX4_free 39 = .ok (.iadd, 1) := by decide +kernel
theorem dX4_free_40 : decode cX4_free 40 = .ok (.ireturn, 1) := by decide +kernel
theorem dX4_alone_0 : decode cX4_alone 0 = .ok (.iload_n 1, 1) := by decide +kernel
theorem dX4_alone_1 : decode cX4_alone 1 = .ok (.ifCond .ne 7, 3) := by decide +kernel
theorem dX4_alone_4 : decode cX4_alone 4 = .ok (.iconst 0, 1) := by decide +kernel
theorem dX4_alone_5 : decode cX4_alone 5 = .ok (.goto 32, 3) := by decide +kernel
theorem dX4_alone_8 : decode cX4_alone 8 = .ok (.aload_n 0, 1) := by decide +kernel
theorem dX4_alone_9 : decode cX4_alone 9 = .ok (.getfield 85, 3) := by decide +kernel
theorem dX4_alone_12 : decode cX4_alone 12 = .ok (.iload_n 1, 1) := by decide +kernel
theorem dX4_alone_13 : decode cX4_alone 13 = .ok (.iconst 1, 1) := by decide +kernel
theorem dX4_alone_14 : decode cX4_alone 14 = .ok (.isub, 1) := by decide +kernel
theorem dX4_alone_15 : decode cX4_alone 15 = .ok (.iaload, 1) := by decide +kernel
theorem dX4_alone_16 : decode cX4_alone 16 = .ok (.aload_n 0, 1) := by decide +kernel
theorem dX4_alone_17 : decode cX4_alone 17 = .ok (.getfield 52, 3) := by decide +kernel
theorem dX4_alone_20 : decode cX4_alone 20 = .ok (.iload_n 1, 1) := by decide +kernel
theorem dX4_alone_21 : decode cX4_alone 21 = .ok (.iconst 1, 1) := by decide +kernel
theorem dX4_alone_22 : decode cX4_alone 22 = .ok (.isub, 1) := by decide +kernel
theorem dX4_alone_23 : decode cX4_alone 23 = .ok (.iaload, 1) := by decide +kernel
theorem dX4_alone_24 : decode cX4_alone 24 = .ok (.iadd, 1) := by decide +kernel
theorem dX4_alone_25 : decode cX4_alone 25 = .ok (.bipush 10, 2) := by decide +kernel
theorem dX4_alone_27 : decode cX4_alone 27 = .ok (.aload_n 0, 1) := by decide +kernel
theorem dX4_alone_28 : decode cX4_alone 28 = .ok (.getfield 55, 3) := by decide +kernel
theorem dX4_alone_31 : decode cX4_alone 31 = .ok (.iload_n 1, 1) := by decide +kernel
theorem dX4_alone_32 : decode cX4_alone 32 = .ok (.iconst 1, 1) := by decide +kernel
theorem dX4_alone_33 : decode cX4_alone 33 = .ok (.isub, 1) := by decide +kernel
theorem dX4_alone_34 : decode cX4_alone 34 = .ok (.iaload, 1) := by decide +kernel
theorem dX4_alone_35 : decode cX4_alone 35 = .ok (.imul, 1) := by decide +kernel
theorem dX4_alone_36 : decode cX4_alone 36 = .ok (.iadd, 1) := by decide +kernel
theorem dX4_alone_37 : decode cX4_alone 37 = .ok (.ireturn, 1) := by decide +kernel
theorem dX4_greater_0 : decode cX4_greater 0 = .ok (.iload_n 0, 1) := by decide +kernel
theorem dX4_greater_1 : decode cX4_greater 1 = .ok (.iload_n 1, 1) := by decide +kernel
theorem dX4_greater_2 : decode cX4_greater 2 = .ok (.if_icmp .le 7, 3) := by decide +kernel
theorem dX4_greater_5 : decode cX4_greater 5 = .ok (.iload_n 0, 1) := by decide +kernel
theorem dX4_greater_6 : decode cX4_greater 6 = .ok (.goto 4, 3) := by decide +kernel
theorem dX4_greater_9 : decode cX4_greater 9 = .ok (.iload_n 1, 1) := by decide +kernel
theorem dX4_greater_10 : decode cX4_greater 10 = .ok (.ireturn, 1) := by decide +kernel
theorem dX4_placeNote_0 : decode cX4_placeNote 0 = .ok (.aload_n 0, 1) := by decide +kernel
theorem dX4_placeNote_1 : decode cX4_placeNote 1 = .ok (.iload_n 1, 1) := by decide +kernel
theorem dX4_placeNote_2 : decode cX4_placeNote 2 = .ok (.invokevirtual 149, 3) := by decide +kernel
theorem dX4_placeNote_5 : decode cX4_placeNote 5 = .ok (.istore_n 2, 1) := by decide +kernel
theorem dX4_placeNote_6 : decode cX4_placeNote 6 = .ok (.iconst 0, 1) := by decide +kernel
theorem dX4_placeNote_7 : decode cX4_placeNote 7 = .ok (.istore_n 3, 1) := by decide +kernel
theorem dX4_placeNote_8 : decode cX4_placeNote 8 = .ok (.iload_n 3, 1) := by decide +kernel
theorem dX4_placeNote_9 : decode cX4_placeNote 9 = .ok (.iconst 4, 1) := by decide +kernel
theorem dX4_placeNote_10 : decode cX4_placeNote 10 = .ok (.if_icmp .ge 69, 3) := by decide +kernel
theorem dX4_placeNote_13 : decode cX4_placeNote 13 = .ok (.aload_n 0, 1) := by decide +kernel
theorem dX4_placeNote_14 : decode cX4_placeNote 14 = .ok (.iload_n 1, 1) := by decide +kernel
theorem dX4_placeNote_15 : decode cX4_placeNote 15 = .ok (.iload_n 3, 1) := by decide +kernel
theorem dX4_placeNote_16 : decode cX4_placeNote 16 = .ok (.invokevirtual 135, 3) := by decide +kernel
theorem dX4_placeNote_19 : decode cX4_placeNote 19 = .ok (.ifCond .eq 54, 3) := by decide +kernel
theorem dX4_placeNote_22 : decode cX4_placeNote 22 = .ok (.aload_n 0, 1) := by decide +kernel
theorem dX4_placeNote_23 : decode cX4_placeNote 23 = .ok (.getfield 42, 3) := by decide +kernel
theorem dX4_placeNote_26 : decode cX4_placeNote 26 = .ok (.iload_n 3, 1) := by decide +kernel
theorem dX4_placeNote_27 : decode cX4_placeNote 27 = .ok (.baload, 1) := by decide +kernel
theorem dX4_placeNote_28 : decode cX4_placeNote 28 = .ok (.ifCond .ne 45, 3) := by decide +kernel
theorem dX4_placeNote_31 : decode cX4_placeNote 31 = .ok (.iload_n 2, 1) := by decide +kernel
theorem dX4_placeNote_32 : decode cX4_placeNote 32 = .ok (.aload_n 0, 1) := by decide +kernel
theorem dX4_placeNote_33 : decode cX4_placeNote 33 = .ok (.iload_n 1, 1) := by decide +kernel
theorem dX4_placeNote_34 : decode cX4_placeNote 34 = .ok (.iload_n 3, 1) := by decide +kernel
theorem dX4_placeNote_35 : decode cX4_placeNote 35 = .ok (.invokevirtual 153, 3) := by decide +kernel
theorem dX4_placeNote_38 : decode cX4_placeNote 38 = .ok (.invokestatic 156, 3) := by decide +kernel
theorem dX4_placeNote_41 : decode cX4_placeNote 41 = .ok (.istore_n 2, 1) := by decide +kernel
theorem dX4_placeNote_42 : decode cX4_placeNote 42 = .ok (.aload_n 0, 1) := by decide +kernel
theorem dX4_placeNote_43 : decode cX4_placeNote 43 = .ok (.iload_n 1, 1) := by decide +kernel
theorem dX4_placeNote_44 : decode cX4_placeNote 44 = .ok (.iload_n 3, 1) := by decide +kernel
theorem dX4_placeNote_45 : decode cX4_placeNote 45 = .ok (.invokevirtual 159, 3) := by decide +kernel
theorem dX4_placeNote_48 : decode cX4_placeNote 48 = .ok (.istore 4, 2) := by decide +kernel
theorem dX4_placeNote_50 : decode cX4_placeNote 50 = .ok (.iload 4, 2) := by decide +kernel
theorem dX4_placeNote_52 : decode cX4_placeNote 52 = .ok (.ifCond .ge 7, 3) := by decide +kernel
theorem dX4_placeNote_55 : decode cX4_placeNote 55 = .ok (.iload_n 2, 1) := by decide +kernel
theorem dX4_placeNote_56 : decode cX4_placeNote 56 = .ok (.goto 16, 3) := by decide +kernel
theorem dX4_placeNote_59 : decode cX4_placeNote 59 = .ok (.iload_n 2, 1) := by decide +kernel
theorem dX4_placeNote_60 : decode cX4_placeNote 60 = .ok (.iload 4, 2) := by decide +kernel
theorem dX4_placeNote_62 : decode cX4_placeNote 62 = .ok (.aload_n 0, 1) := by decide +kernel
theorem dX4_placeNote_63 : decode cX4_placeNote 63 = .ok (.iload_n 1, 1) := by decide +kernel
theorem dX4_placeNote_64 : decode cX4_placeNote 64 = .ok (.iload_n 3, 1) := by decide +kernel
theorem dX4_placeNote_65 : decode cX4_placeNote 65 = .ok (.invokevirtual 153, 3) := by decide +kernel
theorem dX4_placeNote_68 : decode cX4_placeNote 68 = .ok (.iadd, 1) := by decide +kernel
theorem dX4_placeNote_69 : decode cX4_placeNote 69 = .ok (.invokestatic 156, 3) := by decide +kernel
theorem dX4_placeNote_72 : decode cX4_placeNote 72 = .ok (.istore_n 2, 1) := by decide +kernel
theorem dX4_placeNote_73 : decode cX4_placeNote 73 = .ok (.iinc 3 1, 3) := by decide +kernel
theorem dX4_placeNote_76 : decode cX4_placeNote 76 = .ok (.goto (-68), 3) := by decide +kernel
theorem dX4_placeNote_79 : decode cX4_placeNote 79 = .ok (.aload_n 0, 1) := by decide +kernel
theorem dX4_placeNote_80 : decode cX4_placeNote 80 = .ok (.iload_n 1, 1) := by decide +kernel
theorem dX4_placeNote_81 : decode cX4_placeNote 81 = .ok (.invokevirtual 162, 3) := by decide +kernel
theorem dX4_placeNote_84 : decode cX4_placeNote 84 = .ok (.istore_n 3, 1) := by decide +kernel
theorem dX4_placeNote_85 : decode cX4_placeNote 85 = .ok (.aload_n 0, 1) := by decide +kernel
theorem dX4_placeNote_86 : decode cX4_placeNote 86 = .ok (.getfield 61, 3) := by decide +kernel
theorem dX4_placeNote_89 : decode cX4_placeNote 89 = .ok (.iload_n 1, 1) := by decide +kernel
theorem dX4_placeNote_90 : decode cX4_placeNote 90 = .ok (.iaload, 1) := by decide +kernel
theorem dX4_placeNote_91 : decode cX4_placeNote 91 = .ok (.ifCond .le 28, 3) := by decide +kernel
theorem dX4_placeNote_94 : decode cX4_placeNote 94 = .ok (.iload_n 3, 1) := by decide +kernel
theorem dX4_placeNote_95 : decode cX4_placeNote 95 = .ok (.ifCond .lt 24, 3) := by decide +kernel
theorem dX4_placeNote_98 : decode cX4_placeNote 98 = .ok (.iload_n 2, 1) := by decide +kernel
theorem dX4_placeNote_99 : decode cX4_placeNote 99 = .ok (.aload_n 0, 1) := by decide +kernel
theorem dX4_placeNote_100 : decode cX4_placeNote 100 = .ok (.getfield 85, 3) := by decide +kernel
theorem dX4_placeNote_103 : decode cX4_placeNote 103 = .ok (.iload_n 3, 1) := by decide +kernel
theorem dX4_placeNote_104 : decode cX4_placeNote 104 = .ok (.iaload, 1) := by decide +kernel
theorem dX4_placeNote_105 : decode cX4_placeNote 105 = .ok (.aload_n 0, 1) := by decide +kernel
theorem dX4_placeNote_106 : decode cX4_placeNote 106 = .ok (.getfield 61, 3) := by decide +kernel
theorem dX4_placeNote_109 : decode cX4_placeNote 109 = .ok (.iload_n 3, 1) := by decide +kernel
theorem dX4_placeNote_110 : decode cX4_placeNote 110 = .ok (.iaload, 1) := by decide +kernel
theorem dX4_placeNote_111 : decode cX4_placeNote 111 = .ok (.iadd, 1) := by decide +kernel
theorem dX4_placeNote_112 : decode cX4_placeNote 112 = .ok (.bipush 10, 2) := by decide +kernel
theorem dX4_placeNote_114 : decode cX4_placeNote 114 = .ok (.iadd, 1) := by decide +kernel
theorem dX4_placeNote_115 : decode cX4_placeNote 115 = .ok (.invokestatic 156, 3) := by decide +kernel
theorem dX4_placeNote_118 : decode cX4_placeNote 118 = .ok (.istore_n 2, 1) := by decide +kernel
theorem dX4_placeNote_119 : decode cX4_placeNote 119 = .ok (.aload_n 0, 1) := by decide +kernel
theorem dX4_placeNote_120 : decode cX4_placeNote 120 = .ok (.getfield 85, 3) := by decide +kernel
theorem dX4_placeNote_123 : decode cX4_placeNote 123 = .ok (.iload_n 1, 1) := by decide +kernel
theorem dX4_placeNote_124 : decode cX4_placeNote 124 = .ok (.iload_n 2, 1) := by decide +kernel
theorem dX4_placeNote_125 : decode cX4_placeNote 125 = .ok (.iastore, 1) := by decide +kernel
theorem dX4_placeNote_126 : decode cX4_placeNote 126 = .ok (.iconst 0, 1) := by decide +kernel
theorem dX4_placeNote_127 : decode cX4_placeNote 127 = .ok (.istore 4, 2) := by decide +kernel
theorem dX4_placeNote_129 : decode cX4_placeNote 129 = .ok (.iload 4, 2) := by decide +kernel
theorem dX4_placeNote_131 : decode cX4_placeNote 131 = .ok (.iconst 4, 1) := by decide +kernel
theorem dX4_placeNote_132 : decode cX4_placeNote 132 = .ok (.if_icmp .ge 72, 3) := by decide +kernel
theorem dX4_placeNote_135 : decode cX4_placeNote 135 = .ok (.aload_n 0, 1) := by decide +kernel
theorem dX4_placeNote_136 : decode cX4_placeNote 136 = .ok (.iload_n 1, 1) := by decide +kernel
theorem dX4_placeNote_137 : decode cX4_placeNote 137 = .ok (.iload 4, 2) := by decide +kernel
theorem dX4_placeNote_139 : decode cX4_placeNote 139 = .ok (.invokevirtual 135, 3) := by decide +kernel
theorem dX4_placeNote_142 : decode cX4_placeNote 142 = .ok (.ifCond .eq 56, 3) := by decide +kernel
theorem dX4_placeNote_145 : decode cX4_placeNote 145 = .ok (.iload_n 2, 1) := by decide +kernel
theorem dX4_placeNote_146 : decode cX4_placeNote 146 = .ok (.aload_n 0, 1) := by decide +kernel
theorem dX4_placeNote_147 : decode cX4_placeNote 147 = .ok (.iload_n 1, 1) := by decide +kernel
theorem dX4_placeNote_148 : decode cX4_placeNote 148 = .ok (.iload 4, 2) := by decide +kernel
theorem dX4_placeNote_150 : decode cX4_placeNote 150 = .ok (.invokevirtual 153, 3) := by decide +kernel
theorem dX4_placeNote_153 : decode cX4_placeNote 153 = .ok (.isub, 1) := by decide +kernel
theorem dX4_placeNote_154 : decode cX4_placeNote 154 = .ok (.istore 5, 2) := by decide +kernel
theorem dX4_placeNote_156 : decode cX4_placeNote 156 = .ok (.aload_n 0, 1) := by decide +kernel
theorem dX4_placeNote_157 : decode cX4_placeNote 157 = .ok (.getfield 88, 3) := by decide +kernel
theorem dX4_placeNote_160 : decode cX4_placeNote 160 = .ok (.iconst 4, 1) := by decide +kernel
theorem dX4_placeNote_161 : decode cX4_placeNote 161 = .ok (.iload_n 1, 1) := by decide +kernel
theorem dX4_placeNote_162 : decode cX4_placeNote 162 = .ok (.imul, 1) := by decide +kernel
theorem dX4_placeNote_163 : decode cX4_placeNote 163 = .ok (.iload 4, 2) := by decide +kernel
theorem dX4_placeNote_165 : decode cX4_placeNote 165 = .ok (.iadd, 1) := by decide +kernel
theorem dX4_placeNote_166 : decode cX4_placeNote 166 = .ok (.aload_n 0, 1) := by decide +kernel
theorem dX4_placeNote_167 : decode cX4_placeNote 167 = .ok (.getfield 42, 3) := by decide +kernel
theorem dX4_placeNote_170 : decode cX4_placeNote 170 = .ok (.iload 4, 2) := by decide +kernel
theorem dX4_placeNote_172 : decode cX4_placeNote 172 = .ok (.baload, 1) := by decide +kernel
theorem dX4_placeNote_173 : decode cX4_placeNote 173 = .ok (.ifCond .eq 22, 3) := by decide +kernel
theorem dX4_placeNote_176 : decode cX4_placeNote 176 = .ok (.iconst 0, 1) := by decide +kernel
theorem dX4_placeNote_177 : decode cX4_placeNote 177 = .ok (.iload 5, 2) := by decide +kernel
theorem dX4_placeNote_179 : decode cX4_placeNote 179 = .ok (.invokestatic 156, 3) := by decide +kernel
theorem dX4_placeNote_182 : decode cX4_placeNote 182 = .ok (.aload_n 0, 1) := by decide +kernel
theorem dX4_placeNote_183 : decode cX4_placeNote 183 = .ok (.iload_n 1, 1) := by decide +kernel
theorem dX4_placeNote_184 : decode cX4_placeNote 184 = .ok (.iload 4, 2) := by decide +kernel
theorem dX4_placeNote_186 : decode cX4_placeNote 186 = .ok (.invokevirtual 159, 3) := by decide +kernel
theorem dX4_placeNote_189 : decode cX4_placeNote 189 = .ok (.invokestatic 156, 3) := by decide +kernel
theorem dX4_placeNote_192 : decode cX4_placeNote 192 = .ok (.goto 5, 3) := by decide +kernel
theorem dX4_placeNote_195 : decode cX4_placeNote 195 = .ok (.iload 5, 2) := by decide +kernel
theorem dX4_placeNote_197 : decode cX4_placeNote 197 = .ok (.iastore, 1) := by decide +kernel
theorem dX4_placeNote_198 : decode cX4_placeNote 198 = .ok (.iinc 4 1, 3) := by decide +kernel
theorem dX4_placeNote_201 : decode cX4_placeNote 201 = .ok (.goto (-72), 3) := by decide +kernel
theorem dX4_placeNote_204 : decode cX4_placeNote 204 = .ok (.return_, 1) := by decide +kernel
theorem dX4_place_0 : decode cX4_place 0 = .ok (.aload_n 0, 1) := by decide +kernel
theorem dX4_place_1 : decode cX4_place 1 = .ok (.iconst 0, 1) := by decide +kernel
theorem dX4_place_2 : decode cX4_place 2 = .ok (.putfield 1, 3) := by decide +kernel
theorem dX4_place_5 : decode cX4_place 5 = .ok (.iconst 0, 1) := by decide +kernel
theorem dX4_place_6 : decode cX4_place 6 = .ok (.istore_n 1, 1) := by decide +kernel
theorem dX4_place_7 : decode cX4_place 7 = .ok (.iconst 0, 1) := by decide +kernel
theorem dX4_place_8 : decode cX4_place 8 = .ok (.istore_n 2, 1) := by decide +kernel
theorem dX4_place_9 : decode cX4_place 9 = .ok (.iload_n 2, 1) := by decide +kernel
theorem dX4_place_10 : decode cX4_place 10 = .ok (.aload_n 0, 1) := by decide +kernel
theorem dX4_place_11 : decode cX4_place 11 = .ok (.getfield 7, 3) := by decide +kernel
theorem dX4_place_14 : decode cX4_place 14 = .ok (.if_icmp .ge 82, 3) := by decide +kernel
theorem dX4_place_17 : decode cX4_place 17 = .ok (.aload_n 0, 1) := by decide +kernel
theorem dX4_place_18 : decode cX4_place 18 = .ok (.iload_n 2, 1) := by decide +kernel
theorem dX4_place_19 : decode cX4_place 19 = .ok (.invokevirtual 165, 3) := by decide +kernel
theorem dX4_place_22 : decode cX4_place 22 = .ok (.iconst 0, 1) := by decide +kernel
theorem dX4_place_23 : decode cX4_place 23 = .ok (.istore_n 3, 1) := by decide +kernel
theorem dX4_place_24 : decode cX4_place 24 = .ok (.iload_n 3, 1) := by decide +kernel
theorem dX4_place_25 : decode cX4_place 25 = .ok (.iconst 4, 1) := by decide +kernel
theorem dX4_place_26 : decode cX4_place 26 = .ok (.if_icmp .ge 33, 3) := by decide +kernel
theorem dX4_place_29 : decode cX4_place 29 = .ok (.aload_n 0, 1) := by decide +kernel
theorem dX4_place_30 : decode cX4_place 30 = .ok (.iload_n 2, 1) := by decide +kernel
theorem dX4_place_31 : decode cX4_place 31 = .ok (.iload_n 3, 1) := by decide +kernel
theorem dX4_place_32 : decode cX4_place 32 = .ok (.invokevirtual 135, 3) := by decide +kernel
theorem dX4_place_35 : decode cX4_place 35 = .ok (.ifCond .eq 16, 3) := by decide +kernel
theorem dX4_place_38 : decode cX4_place 38 = .ok (.iload_n 1, 1) := by decide +kernel
theorem dX4_place_39 : decode cX4_place 39 = .ok (.aload_n 0, 1) := by decide +kernel
theorem dX4_place_40 : decode cX4_place 40 = .ok (.iload_n 2, 1) := by decide +kernel
theorem dX4_place_41 : decode cX4_place 41 = .ok (.iload_n 3, 1) := by decide +kernel
theorem dX4_place_42 : decode cX4_place 42 = .ok (.invokevirtual 143, 3) := by decide +kernel
theorem dX4_place_45 : decode cX4_place 45 = .ok (.invokestatic 156, 3) := by decide +kernel
theorem dX4_place_48 : decode cX4_place 48 = .ok (.goto 4, 3) := by decide +kernel
theorem dX4_place_51 : decode cX4_place 51 = .ok (.iload_n 1, 1) := by decide +kernel
theorem dX4_place_52 : decode cX4_place 52 = .ok (.istore_n 1, 1) := by decide +kernel
theorem dX4_place_53 : decode cX4_place 53 = .ok (.iinc 3 1, 3) := by decide +kernel
theorem dX4_place_56 : decode cX4_place 56 = .ok (.goto (-32), 3) := by decide +kernel
theorem dX4_place_59 : decode cX4_place 59 = .ok (.aload_n 0, 1) := by decide +kernel
theorem dX4_place_60 : decode cX4_place 60 = .ok (.getfield 61, 3) := by decide +kernel
theorem dX4_place_63 : decode cX4_place 63 = .ok (.iload_n 2, 1) := by decide +kernel
theorem dX4_place_64 : decode cX4_place 64 = .ok (.iaload, 1) := by decide +kernel
theorem dX4_place_65 : decode cX4_place 65 = .ok (.ifCond .le 23, 3) := by decide +kernel
theorem dX4_place_68 : decode cX4_place 68 = .ok (.iload_n 1, 1) := by decide +kernel
theorem dX4_place_69 : decode cX4_place 69 = .ok (.aload_n 0, 1) := by decide +kernel
theorem dX4_place_70 : decode cX4_place 70 = .ok (.getfield 85, 3) := by decide +kernel
theorem dX4_place_73 : decode cX4_place 73 = .ok (.iload_n 2, 1) := by decide +kernel
theorem dX4_place_74 : decode cX4_place 74 = .ok (.iaload, 1) := by decide +kernel
theorem dX4_place_75 : decode cX4_place 75 = .ok (.aload_n 0, 1) := by decide +kernel
theorem dX4_place_76 : decode cX4_place 76 = .ok (.getfield 61, 3) := by decide +kernel
theorem dX4_place_79 : decode cX4_place 79 = .ok (.iload_n 2, 1) := by decide +kernel
theorem dX4_place_80 : decode cX4_place 80 = .ok (.iaload, 1) := by decide +kernel
theorem dX4_place_81 : decode cX4_place 81 = .ok (.iadd, 1) := by decide +kernel
theorem dX4_place_82 : decode cX4_place 82 = .ok (.invokestatic 156, 3) := by decide +kernel
theorem dX4_place_85 : decode cX4_place 85 = .ok (.goto 4, 3) := by decide +kernel
theorem dX4_place_88 : decode cX4_place 88 = .ok (.iload_n 1, 1) := by decide +kernel
theorem dX4_place_89 : decode cX4_place 89 = .ok (.istore_n 1, 1) := by decide +kernel
theorem dX4_place_90 : decode cX4_place 90 = .ok (.iinc 2 1, 3) := by decide +kernel
theorem dX4_place_93 : decode cX4_place 93 = .ok (.goto (-84), 3) := by decide +kernel
theorem dX4_place_96 : decode cX4_place 96 = .ok (.aload_n 0, 1) := by decide +kernel
theorem dX4_place_97 : decode cX4_place 97 = .ok (.getfield 7, 3) := by decide +kernel
theorem dX4_place_100 : decode cX4_place 100 = .ok (.ifCond .le 33, 3) := by decide +kernel
theorem dX4_place_103 : decode cX4_place 103 = .ok (.iload_n 1, 1) := by decide +kernel
theorem dX4_place_104 : decode cX4_place 104 = .ok (.aload_n 0, 1) := by decide +kernel
theorem dX4_place_105 : decode cX4_place 105 = .ok (.getfield 85, 3) := by decide +kernel
theorem dX4_place_108 : decode cX4_place 108 = .ok (.aload_n 0, 1) := by decide +kernel
theorem dX4_place_109 : decode cX4_place 109 = .ok (.getfield 7, 3) := by decide +kernel
theorem dX4_place_112 : decode cX4_place 112 = .ok (.iconst 1, 1) := by decide +kernel
theorem dX4_place_113 : decode cX4_place 113 = .ok (.isub, 1) := by decide +kernel
theorem dX4_place_114 : decode cX4_place 114 = .ok (.iaload, 1) := by decide +kernel
theorem dX4_place_115 : decode cX4_place 115 = .ok (.aload_n 0, 1) := by decide +kernel
theorem dX4_place_116 : decode cX4_place 116 = .ok (.getfield 52, 3) := by decide +kernel
theorem dX4_place_119 : decode cX4_place 119 = .ok (.aload_n 0, 1) := by decide +kernel
theorem dX4_place_120 : decode cX4_place 120 = .ok (.getfield 7, 3) := by decide +kernel
theorem dX4_place_123 : decode cX4_place 123 = .ok (.iconst 1, 1) := by decide +kernel
theorem dX4_place_124 : decode cX4_place 124 = .ok (.isub, 1) := by decide +kernel
theorem dX4_place_125 : decode cX4_place 125 = .ok (.iaload, 1) := by decide +kernel
theorem dX4_place_126 : decode cX4_place 126 = .ok (.iadd, 1) := by decide +kernel
theorem dX4_place_127 : decode cX4_place 127 = .ok (.invokestatic 156, 3) := by decide +kernel
theorem dX4_place_130 : decode cX4_place 130 = .ok (.goto 4, 3) := by decide +kernel
theorem dX4_place_133 : decode cX4_place 133 = .ok (.iload_n 1, 1) := by decide +kernel
theorem dX4_place_134 : decode cX4_place 134 = .ok (.istore_n 1, 1) := by decide +kernel
theorem dX4_place_135 : decode cX4_place 135 = .ok (.aload_n 0, 1) := by decide +kernel
theorem dX4_place_136 : decode cX4_place 136 = .ok (.iconst 1, 1) := by decide +kernel
theorem dX4_place_137 : decode cX4_place 137 = .ok (.putfield 19, 3) := by decide +kernel
theorem dX4_place_140 : decode cX4_place 140 = .ok (.iconst 0, 1) := by decide +kernel
theorem dX4_place_141 : decode cX4_place 141 = .ok (.iload_n 1, 1) := by decide +kernel
theorem dX4_place_142 : decode cX4_place 142 = .ok (.aload_n 0, 1) := by decide +kernel
theorem dX4_place_143 : decode cX4_place 143 = .ok (.getfield 16, 3) := by decide +kernel
theorem dX4_place_146 : decode cX4_place 146 = .ok (.isub, 1) := by decide +kernel
theorem dX4_place_147 : decode cX4_place 147 = .ok (.invokestatic 156, 3) := by decide +kernel
theorem dX4_place_150 : decode cX4_place 150 = .ok (.ireturn, 1) := by decide +kernel
theorem dX4_x_0 : decode cX4_x 0 = .ok (.aload_n 0, 1) := by decide +kernel
theorem dX4_x_1 : decode cX4_x 1 = .ok (.iconst 0, 1) := by decide +kernel
theorem dX4_x_2 : decode cX4_x 2 = .ok (.putfield 1, 3) := by decide +kernel
theorem dX4_x_5 : decode cX4_x 5 = .ok (.aload_n 0, 1) := by decide +kernel
theorem dX4_x_6 : decode cX4_x 6 = .ok (.iload_n 1, 1) := by decide +kernel
theorem dX4_x_7 : decode cX4_x 7 = .ok (.invokevirtual 116, 3) := by decide +kernel
theorem dX4_x_10 : decode cX4_x 10 = .ok (.ifCond .ne 6, 3) := by decide +kernel
theorem dX4_x_13 : decode cX4_x 13 = .ok (.ldc 123, 2) := by decide +kernel
theorem dX4_x_15 : decode cX4_x 15 = .ok (.ireturn, 1) := by decide +kernel
theorem dX4_x_16 : decode cX4_x 16 = .ok (.iload_n 2, 1) := by decide +kernel
theorem dX4_x_17 : decode cX4_x 17 = .ok (.iconst 0, 1) := by decide +kernel
theorem dX4_x_18 : decode cX4_x 18 = .ok (.iconst 1, 1) := by decide +kernel
theorem dX4_x_19 : decode cX4_x 19 = .ok (.invokestatic 109, 3) := by decide +kernel
theorem dX4_x_22 : decode cX4_x 22 = .ok (.ifCond .ne 6, 3) := by decide +kernel
theorem dX4_x_25 : decode cX4_x 25 = .ok (.ldc 113, 2) := by decide +kernel
theorem dX4_x_27 : decode cX4_x 27 = .ok (.ireturn, 1) := by decide +kernel
theorem dX4_x_28 : decode cX4_x 28 = .ok (.aload_n 0, 1) := by decide +kernel
theorem dX4_x_29 : decode cX4_x 29 = .ok (.getfield 19, 3) := by decide +kernel
theorem dX4_x_32 : decode cX4_x 32 = .ok (.ifCond .ne 6, 3) := by decide +kernel
theorem dX4_x_35 : decode cX4_x 35 = .ok (.ldc 127, 2) := by decide +kernel
theorem dX4_x_37 : decode cX4_x 37 = .ok (.ireturn, 1) := by decide +kernel
theorem dX4_x_38 : decode cX4_x 38 = .ok (.iload_n 2, 1) := by decide +kernel
theorem dX4_x_39 : decode cX4_x 39 = .ok (.ifCond .ne 12, 3) := by decide +kernel
theorem dX4_x_42 : decode cX4_x 42 = .ok (.aload_n 0, 1) := by decide +kernel
theorem dX4_x_43 : decode cX4_x 43 = .ok (.getfield 85, 3) := by decide +kernel
theorem dX4_x_46 : decode cX4_x 46 = .ok (.iload_n 1, 1) := by decide +kernel
theorem dX4_x_47 : decode cX4_x 47 = .ok (.iaload, 1) := by decide +kernel
theorem dX4_x_48 : decode cX4_x 48 = .ok (.goto 15, 3) := by decide +kernel
theorem dX4_x_51 : decode cX4_x 51 = .ok (.aload_n 0, 1) := by decide +kernel
theorem dX4_x_52 : decode cX4_x 52 = .ok (.getfield 85, 3) := by decide +kernel
theorem dX4_x_55 : decode cX4_x 55 = .ok (.iload_n 1, 1) := by decide +kernel
theorem dX4_x_56 : decode cX4_x 56 = .ok (.iaload, 1) := by decide +kernel
theorem dX4_x_57 : decode cX4_x 57 = .ok (.aload_n 0, 1) := by decide +kernel
theorem dX4_x_58 : decode cX4_x 58 = .ok (.iload_n 1, 1) := by decide +kernel
theorem dX4_x_59 : decode cX4_x 59 = .ok (.invokevirtual 149, 3) := by decide +kernel
theorem dX4_x_62 : decode cX4_x 62 = .ok (.isub, 1) := by decide +kernel
theorem dX4_x_63 : decode cX4_x 63 = .ok (.ireturn, 1) := by decide +kernel
theorem dX4_noBox_0 : decode cX4_noBox 0 = .ok (.aload_n 0, 1) := by decide +kernel
theorem dX4_noBox_1 : decode cX4_noBox 1 = .ok (.iload_n 1, 1) := by decide +kernel
theorem dX4_noBox_2 : decode cX4_noBox 2 = .ok (.invokevirtual 116, 3) := by decide +kernel
theorem dX4_noBox_5 : decode cX4_noBox 5 = .ok (.ifCond .eq 19, 3) := by decide +kernel
theorem dX4_noBox_8 : decode cX4_noBox 8 = .ok (.iload_n 2, 1) := by decide +kernel
theorem dX4_noBox_9 : decode cX4_noBox 9 = .ok (.invokestatic 120, 3) := by decide +kernel
theorem dX4_noBox_12 : decode cX4_noBox 12 = .ok (.ifCond .eq 12, 3) := by decide +kernel
theorem dX4_noBox_15 : decode cX4_noBox 15 = .ok (.aload_n 0, 1) := by decide +kernel
theorem dX4_noBox_16 : decode cX4_noBox 16 = .ok (.iload_n 1, 1) := by decide +kernel
theorem dX4_noBox_17 : decode cX4_noBox 17 = .ok (.iload_n 2, 1) := by decide +kernel
theorem dX4_noBox_18 : decode cX4_noBox 18 = .ok (.invokevirtual 135, 3) := by decide +kernel
theorem dX4_noBox_21 : decode cX4_noBox 21 = .ok (.ifCond .ne 7, 3) := by decide +kernel
theorem dX4_noBox_24 : decode cX4_noBox 24 = .ok (.iconst 1, 1) := by decide +kernel
theorem dX4_noBox_25 : decode cX4_noBox 25 = .ok (.goto 4, 3) := by decide +kernel
theorem dX4_noBox_28 : decode cX4_noBox 28 = .ok (.iconst 0, 1) := by decide +kernel
theorem dX4_noBox_29 : decode cX4_noBox 29 = .ok (.ireturn, 1) := by decide +kernel
theorem dX4_box_0 : decode cX4_box 0 = .ok (.aload_n 0, 1) := by decide +kernel
theorem dX4_box_1 : decode cX4_box 1 = .ok (.iconst 0, 1) := by decide +kernel
theorem dX4_box_2 : decode cX4_box 2 = .ok (.putfield 1, 3) := by decide +kernel
theorem dX4_box_5 : decode cX4_box 5 = .ok (.aload_n 0, 1) := by decide +kernel
theorem dX4_box_6 : decode cX4_box 6 = .ok (.iload_n 1, 1) := by decide +kernel
theorem dX4_box_7 : decode cX4_box 7 = .ok (.iload_n 2, 1) := by decide +kernel
theorem dX4_box_8 : decode cX4_box 8 = .ok (.invokevirtual 169, 3) := by decide +kernel
theorem dX4_box_11 : decode cX4_box 11 = .ok (.ifCond .eq 6, 3) := by decide +kernel
theorem dX4_box_14 : decode cX4_box 14 = .ok (.ldc 123, 2) := by decide +kernel
theorem dX4_box_16 : decode cX4_box 16 = .ok (.ireturn, 1) := by decide +kernel
theorem dX4_box_17 : decode cX4_box 17 = .ok (.iload_n 3, 1) := by decide +kernel
theorem dX4_box_18 : decode cX4_box 18 = .ok (.iconst 0, 1) := by decide +kernel
theorem dX4_box_19 : decode cX4_box 19 = .ok (.iconst 4, 1) := by decide +kernel
theorem dX4_box_20 : decode cX4_box 20 = .ok (.invokestatic 109, 3) := by decide +kernel
theorem dX4_box_23 : decode cX4_box 23 = .ok (.ifCond .ne 6, 3) := by decide +kernel
theorem dX4_box_26 : decode cX4_box 26 = .ok (.ldc 113, 2) := by decide +kernel
theorem dX4_box_28 : decode cX4_box 28 = .ok (.ireturn, 1) := by decide +kernel
theorem dX4_box_29 : decode cX4_box 29 = .ok (.aload_n 0, 1) := by decide +kernel
theorem dX4_box_30 : decode cX4_box 30 = .ok (.getfield 19, 3) := by decide +kernel
theorem dX4_box_33 : decode cX4_box 33 = .ok (.ifCond .ne 6, 3) := by decide +kernel
theorem dX4_box_36 : decode cX4_box 36 = .ok (.ldc 127, 2) := by decide +kernel
theorem dX4_box_38 : decode cX4_box 38 = .ok (.ireturn, 1) := by decide +kernel
theorem dX4_box_39 : decode cX4_box 39 = .ok (.aload_n 0, 1) := by decide +kernel
theorem dX4_box_40 : decode cX4_box 40 = .ok (.getfield 88, 3) := by decide +kernel
theorem dX4_box_43 : decode cX4_box 43 = .ok (.iconst 4, 1) := by decide +kernel
theorem dX4_box_44 : decode cX4_box 44 = .ok (.iload_n 1, 1) := by decide +kernel
theorem dX4_box_45 : decode cX4_box 45 = .ok (.imul, 1) := by decide +kernel
theorem dX4_box_46 : decode cX4_box 46 = .ok (.iload_n 2, 1) := by decide +kernel
theorem dX4_box_47 : decode cX4_box 47 = .ok (.iadd, 1) := by decide +kernel
theorem dX4_box_48 : decode cX4_box 48 = .ok (.iaload, 1) := by decide +kernel
theorem dX4_box_49 : decode cX4_box 49 = .ok (.istore 4, 2) := by decide +kernel
theorem dX4_box_51 : decode cX4_box 51 = .ok (.aload_n 0, 1) := by decide +kernel
theorem dX4_box_52 : decode cX4_box 52 = .ok (.iload_n 1, 1) := by decide +kernel
theorem dX4_box_53 : decode cX4_box 53 = .ok (.iload_n 2, 1) := by decide +kernel
theorem dX4_box_54 : decode cX4_box 54 = .ok (.invokevirtual 143, 3) := by decide +kernel
theorem dX4_box_57 : decode cX4_box 57 = .ok (.istore 5, 2) := by decide +kernel
theorem dX4_box_59 : decode cX4_box 59 = .ok (.iload_n 3, 1) := by decide +kernel
theorem dX4_box_60 : decode cX4_box 60 = .ok (.tableswitch 65 0 3 #[32, 35, 42, 62], 32) := by decide +kernel
theorem dX4_box_92 : decode cX4_box 92 = .ok (.iload 4, 2) := by decide +kernel
theorem dX4_box_94 : decode cX4_box 94 = .ok (.ireturn, 1) := by decide +kernel
theorem dX4_box_95 : decode cX4_box 95 = .ok (.aload_n 0, 1) := by decide +kernel
theorem dX4_box_96 : decode cX4_box 96 = .ok (.iload_n 1, 1) := by decide +kernel
theorem dX4_box_97 : decode cX4_box 97 = .ok (.iload_n 2, 1) := by decide +kernel
theorem dX4_box_98 : decode cX4_box 98 = .ok (.invokevirtual 132, 3) := by decide +kernel
theorem dX4_box_101 : decode cX4_box 101 = .ok (.ireturn, 1) := by decide +kernel
theorem dX4_box_102 : decode cX4_box 102 = .ok (.aload_n 0, 1) := by decide +kernel
theorem dX4_box_103 : decode cX4_box 103 = .ok (.getfield 73, 3) := by decide +kernel
theorem dX4_box_106 : decode cX4_box 106 = .ok (.iconst 4, 1) := by decide +kernel
theorem dX4_box_107 : decode cX4_box 107 = .ok (.iload_n 1, 1) := by decide +kernel
theorem dX4_box_108 : decode cX4_box 108 = .ok (.imul, 1) := by decide +kernel
theorem dX4_box_109 : decode cX4_box 109 = .ok (.iload_n 2, 1) := by decide +kernel
theorem dX4_box_110 : decode cX4_box 110 = .ok (.iadd, 1) := by decide +kernel
theorem dX4_box_111 : decode cX4_box 111 = .ok (.iaload, 1) := by decide +kernel
theorem dX4_box_112 : decode cX4_box 112 = .ok (.iconst 2, 1) := by decide +kernel
theorem dX4_box_113 : decode cX4_box 113 = .ok (.if_icmp .ne 7, 3) := by decide +kernel
theorem dX4_box_116 : decode cX4_box 116 = .ok (.iconst 1, 1) := by decide +kernel
theorem dX4_box_117 : decode cX4_box 117 = .ok (.goto 4, 3) := by decide +kernel
theorem dX4_box_120 : decode cX4_box 120 = .ok (.iconst 0, 1) := by decide +kernel
theorem dX4_box_121 : decode cX4_box 121 = .ok (.ireturn, 1) := by decide +kernel
theorem dX4_box_122 : decode cX4_box 122 = .ok (.iload 5, 2) := by decide +kernel
theorem dX4_box_124 : decode cX4_box 124 = .ok (.ireturn, 1) := by decide +kernel
theorem dX4_box_125 : decode cX4_box 125 = .ok (.aload_n 0, 1) := by decide +kernel
theorem dX4_box_126 : decode cX4_box 126 = .ok (.getfield 85, 3) := by decide +kernel
theorem dX4_box_129 : decode cX4_box 129 = .ok (.iload_n 1, 1) := by decide +kernel
theorem dX4_box_130 : decode cX4_box 130 = .ok (.iaload, 1) := by decide +kernel
theorem dX4_box_131 : decode cX4_box 131 = .ok (.iload 4, 2) := by decide +kernel
theorem dX4_box_133 : decode cX4_box 133 = .ok (.if_icmp .lt 18, 3) := by decide +kernel
theorem dX4_box_136 : decode cX4_box 136 = .ok (.aload_n 0, 1) := by decide +kernel
theorem dX4_box_137 : decode cX4_box 137 = .ok (.getfield 85, 3) := by decide +kernel
theorem dX4_box_140 : decode cX4_box 140 = .ok (.iload_n 1, 1) := by decide +kernel
theorem dX4_box_141 : decode cX4_box 141 = .ok (.iaload, 1) := by decide +kernel
theorem dX4_box_142 : decode cX4_box 142 = .ok (.iload 5, 2) := by decide +kernel
theorem dX4_box_144 : decode cX4_box 144 = .ok (.if_icmp .gt 7, 3) := by decide +kernel
theorem dX4_box_147 : decode cX4_box 147 = .ok (.iconst 1, 1) := by decide +kernel
theorem dX4_box_148 : decode cX4_box 148 = .ok (.goto 4, 3) := by decide +kernel
theorem dX4_box_151 : decode cX4_box 151 = .ok (.iconst 0, 1) := by decide +kernel
theorem dX4_box_152 : decode cX4_box 152 = .ok (.ireturn, 1) := by decide +kernel
theorem dX4_hyphenMany_0 : decode cX4_hyphenMany 0 = .ok (.aload_n 0, 1) := by decide +kernel
theorem dX4_hyphenMany_1 : decode cX4_hyphenMany 1 = .ok (.iload_n 1, 1) := by decide +kernel
theorem dX4_hyphenMany_2 : decode cX4_hyphenMany 2 = .ok (.iload_n 2, 1) := by decide +kernel
theorem dX4_hyphenMany_3 : decode cX4_hyphenMany 3 = .ok (.iconst 1, 1) := by decide +kernel
theorem dX4_hyphenMany_4 : decode cX4_hyphenMany 4 = .ok (.invokevirtual 139, 3) := by decide +kernel
theorem dX4_hyphenMany_7 : decode cX4_hyphenMany 7 = .ok (.istore_n 3, 1) := by decide +kernel
theorem dX4_hyphenMany_8 : decode cX4_hyphenMany 8 = .ok (.aload_n 0, 1) := by decide +kernel
theorem dX4_hyphenMany_9 : decode cX4_hyphenMany 9 = .ok (.iload_n 1, 1) := by decide +kernel
theorem dX4_hyphenMany_10 : decode cX4_hyphenMany 10 = .ok (.iload_n 2, 1) := by decide +kernel
theorem dX4_hyphenMany_11 : decode cX4_hyphenMany 11 = .ok (.invokevirtual 146, 3) := by decide +kernel
theorem dX4_hyphenMany_14 : decode cX4_hyphenMany 14 = .ok (.ifCond .eq 9, 3) := by decide +kernel
theorem dX4_hyphenMany_17 : decode cX4_hyphenMany 17 = .ok (.iload_n 3, 1) := by decide +kernel
theorem dX4_hyphenMany_18 : decode cX4_hyphenMany 18 = .ok (.ldc 115, 2) := by decide +kernel
theorem dX4_hyphenMany_20 : decode cX4_hyphenMany 20 = .ok (.if_icmp .ne 5, 3) := by decide +kernel
theorem dX4_hyphenMany_23 : decode cX4_hyphenMany 23 = .ok (.iconst 0, 1) := by decide +kernel
theorem dX4_hyphenMany_24 : decode cX4_hyphenMany 24 = .ok (.ireturn, 1) := by decide +kernel
theorem dX4_hyphenMany_25 : decode cX4_hyphenMany 25 = .ok (.aload_n 0, 1) := by decide +kernel
theorem dX4_hyphenMany_26 : decode cX4_hyphenMany 26 = .ok (.aload_n 0, 1) := by decide +kernel
theorem dX4_hyphenMany_27 : decode cX4_hyphenMany 27 = .ok (.getfield 88, 3) := by decide +kernel
theorem dX4_hyphenMany_30 : decode cX4_hyphenMany 30 = .ok (.iconst 4, 1) := by decide +kernel
theorem dX4_hyphenMany_31 : decode cX4_hyphenMany 31 = .ok (.iload_n 3, 1) := by decide +kernel
theorem dX4_hyphenMany_32 : decode cX4_hyphenMany 32 = .ok (.imul, 1) := by decide +kernel
theorem dX4_hyphenMany_33 : decode cX4_hyphenMany 33 = .ok (.iload_n 2, 1) := by decide +kernel
theorem dX4_hyphenMany_34 : decode cX4_hyphenMany 34 = .ok (.iadd, 1) := by decide +kernel
theorem dX4_hyphenMany_35 : decode cX4_hyphenMany 35 = .ok (.iaload, 1) := by decide +kernel
theorem dX4_hyphenMany_36 : decode cX4_hyphenMany 36 = .ok (.aload_n 0, 1) := by decide +kernel
theorem dX4_hyphenMany_37 : decode cX4_hyphenMany 37 = .ok (.iload_n 1, 1) := by decide +kernel
theorem dX4_hyphenMany_38 : decode cX4_hyphenMany 38 = .ok (.iload_n 2, 1) := by decide +kernel
theorem dX4_hyphenMany_39 : decode cX4_hyphenMany 39 = .ok (.invokevirtual 143, 3) := by decide +kernel
theorem dX4_hyphenMany_42 : decode cX4_hyphenMany 42 = .ok (.isub, 1) := by decide +kernel
theorem dX4_hyphenMany_43 : decode cX4_hyphenMany 43 = .ok (.putfield 172, 3) := by decide +kernel
theorem dX4_hyphenMany_46 : decode cX4_hyphenMany 46 = .ok (.aload_n 0, 1) := by decide +kernel
theorem dX4_hyphenMany_47 : decode cX4_hyphenMany 47 = .ok (.getfield 172, 3) := by decide +kernel
theorem dX4_hyphenMany_50 : decode cX4_hyphenMany 50 = .ok (.bipush 10, 2) := by decide +kernel
theorem dX4_hyphenMany_52 : decode cX4_hyphenMany 52 = .ok (.if_icmp .ge 7, 3) := by decide +kernel
theorem dX4_hyphenMany_55 : decode cX4_hyphenMany 55 = .ok (.iconst 0, 1) := by decide +kernel
theorem dX4_hyphenMany_56 : decode cX4_hyphenMany 56 = .ok (.goto 15, 3) := by decide +kernel
theorem dX4_hyphenMany_59 : decode cX4_hyphenMany 59 = .ok (.iconst 1, 1) := by decide +kernel
theorem dX4_hyphenMany_60 : decode cX4_hyphenMany 60 = .ok (.aload_n 0, 1) := by decide +kernel
theorem dX4_hyphenMany_61 : decode cX4_hyphenMany 61 = .ok (.getfield 172, 3) := by decide +kernel
theorem dX4_hyphenMany_64 : decode cX4_hyphenMany 64 = .ok (.bipush 10, 2) := by decide +kernel
theorem dX4_hyphenMany_66 : decode cX4_hyphenMany 66 = .ok (.isub, 1) := by decide +kernel
theorem dX4_hyphenMany_67 : decode cX4_hyphenMany 67 = .ok (.bipush 80, 2) := by decide +kernel
theorem dX4_hyphenMany_69 : decode cX4_hyphenMany 69 = .ok (.idiv, 1) := by decide +kernel
theorem dX4_hyphenMany_70 : decode cX4_hyphenMany 70 = .ok (.iadd, 1) := by decide +kernel
theorem dX4_hyphenMany_71 : decode cX4_hyphenMany 71 = .ok (.ireturn, 1) := by decide +kernel
theorem dX4_hyphens_0 : decode cX4_hyphens 0 = .ok (.aload_n 0, 1) := by decide +kernel
theorem dX4_hyphens_1 : decode cX4_hyphens 1 = .ok (.iconst 0, 1) := by decide +kernel
theorem dX4_hyphens_2 : decode cX4_hyphens 2 = .ok (.putfield 1, 3) := by decide +kernel
theorem dX4_hyphens_5 : decode cX4_hyphens 5 = .ok (.aload_n 0, 1) := by decide +kernel
theorem dX4_hyphens_6 : decode cX4_hyphens 6 = .ok (.iload_n 1, 1) := by decide +kernel
theorem dX4_hyphens_7 : decode cX4_hyphens 7 = .ok (.iload_n 2, 1) := by decide +kernel
theorem dX4_hyphens_8 : decode cX4_hyphens 8 = .ok (.invokevirtual 169, 3) := by decide +kernel
theorem dX4_hyphens_11 : decode cX4_hyphens 11 = .ok (.ifCond .eq 6, 3) := by decide +kernel
theorem dX4_hyphens_14 : decode cX4_hyphens 14 = .ok (.ldc 123, 2) := by decide +kernel
theorem dX4_hyphens_16 : decode cX4_hyphens 16 = .ok (.ireturn, 1) := by decide +kernel
theorem dX4_hyphens_17 : decode cX4_hyphens 17 = .ok (.aload_n 0, 1) := by decide +kernel
theorem dX4_hyphens_18 : decode cX4_hyphens 18 = .ok (.getfield 19, 3) := by decide +kernel
theorem dX4_hyphens_21 : decode cX4_hyphens 21 = .ok (.ifCond .eq 12, 3) := by decide +kernel
theorem dX4_hyphens_24 : decode cX4_hyphens 24 = .ok (.aload_n 0, 1) := by decide +kernel
theorem dX4_hyphens_25 : decode cX4_hyphens 25 = .ok (.iload_n 1, 1) := by decide +kernel
theorem dX4_hyphens_26 : decode cX4_hyphens 26 = .ok (.iload_n 2, 1) := by decide +kernel
theorem dX4_hyphens_27 : decode cX4_hyphens 27 = .ok (.invokevirtual 175, 3) := by decide +kernel
theorem dX4_hyphens_30 : decode cX4_hyphens 30 = .ok (.goto 5, 3) := by decide +kernel
theorem dX4_hyphens_33 : decode cX4_hyphens 33 = .ok (.ldc 127, 2) := by decide +kernel
theorem dX4_hyphens_35 : decode cX4_hyphens 35 = .ok (.ireturn, 1) := by decide +kernel
theorem dX4_hyphen_0 : decode cX4_hyphen 0 = .ok (.aload_n 0, 1) := by decide +kernel
theorem dX4_hyphen_1 : decode cX4_hyphen 1 = .ok (.iconst 0, 1) := by decide +kernel
theorem dX4_hyphen_2 : decode cX4_hyphen 2 = .ok (.putfield 1, 3) := by decide +kernel
theorem dX4_hyphen_5 : decode cX4_hyphen 5 = .ok (.aload_n 0, 1) := by decide +kernel
theorem dX4_hyphen_6 : decode cX4_hyphen 6 = .ok (.iload_n 1, 1) := by decide +kernel
theorem dX4_hyphen_7 : decode cX4_hyphen 7 = .ok (.iload_n 2, 1) := by decide +kernel
theorem dX4_hyphen_8 : decode cX4_hyphen 8 = .ok (.invokevirtual 169, 3) := by decide +kernel
theorem dX4_hyphen_11 : decode cX4_hyphen 11 = .ok (.ifCond .eq 6, 3) := by decide +kernel
theorem dX4_hyphen_14 : decode cX4_hyphen 14 = .ok (.ldc 123, 2) := by decide +kernel
theorem dX4_hyphen_16 : decode cX4_hyphen 16 = .ok (.ireturn, 1) := by decide +kernel
theorem dX4_hyphen_17 : decode cX4_hyphen 17 = .ok (.aload_n 0, 1) := by decide +kernel
theorem dX4_hyphen_18 : decode cX4_hyphen 18 = .ok (.getfield 19, 3) := by decide +kernel
theorem dX4_hyphen_21 : decode cX4_hyphen 21 = .ok (.ifCond .ne 6, 3) := by decide +kernel
theorem dX4_hyphen_24 : decode cX4_hyphen 24 = .ok (.ldc 127, 2) := by decide +kernel
theorem dX4_hyphen_26 : decode cX4_hyphen 26 = .ok (.ireturn, 1) := by decide +kernel
theorem dX4_hyphen_27 : decode cX4_hyphen 27 = .ok (.aload_n 0, 1) := by decide +kernel
theorem dX4_hyphen_28 : decode cX4_hyphen 28 = .ok (.iload_n 1, 1) := by decide +kernel
theorem dX4_hyphen_29 : decode cX4_hyphen 29 = .ok (.iload_n 2, 1) := by decide +kernel
theorem dX4_hyphen_30 : decode cX4_hyphen 30 = .ok (.invokevirtual 175, 3) := by decide +kernel
theorem dX4_hyphen_33 : decode cX4_hyphen 33 = .ok (.istore 4, 2) := by decide +kernel
theorem dX4_hyphen_35 : decode cX4_hyphen 35 = .ok (.iload_n 3, 1) := by decide +kernel
theorem dX4_hyphen_36 : decode cX4_hyphen 36 = .ok (.iconst 0, 1) := by decide +kernel
theorem dX4_hyphen_37 : decode cX4_hyphen 37 = .ok (.iload 4, 2) := by decide +kernel
theorem dX4_hyphen_39 : decode cX4_hyphen 39 = .ok (.iconst 1, 1) := by decide +kernel
theorem dX4_hyphen_40 : decode cX4_hyphen 40 = .ok (.isub, 1) := by decide +kernel
theorem dX4_hyphen_41 : decode cX4_hyphen 41 = .ok (.invokestatic 109, 3) := by decide +kernel
theorem dX4_hyphen_44 : decode cX4_hyphen 44 = .ok (.ifCond .ne 10, 3) := by decide +kernel
theorem dX4_hyphen_47 : decode cX4_hyphen 47 = .ok (.aload_n 0, 1) := by decide +kernel
theorem dX4_hyphen_48 : decode cX4_hyphen 48 = .ok (.iconst 1, 1) := by decide +kernel
theorem dX4_hyphen_49 : decode cX4_hyphen 49 = .ok (.putfield 1, 3) := by decide +kernel
theorem dX4_hyphen_52 : decode cX4_hyphen 52 = .ok (.iconst 0, 1) := by decide +kernel
theorem dX4_hyphen_53 : decode cX4_hyphen 53 = .ok (.ireturn, 1) := by decide +kernel
theorem dX4_hyphen_54 : decode cX4_hyphen 54 = .ok (.aload_n 0, 1) := by decide +kernel
theorem dX4_hyphen_55 : decode cX4_hyphen 55 = .ok (.iload_n 1, 1) := by decide +kernel
theorem dX4_hyphen_56 : decode cX4_hyphen 56 = .ok (.iload_n 2, 1) := by decide +kernel
theorem dX4_hyphen_57 : decode cX4_hyphen 57 = .ok (.invokevirtual 143, 3) := by decide +kernel
theorem dX4_hyphen_60 : decode cX4_hyphen 60 = .ok (.iconst 2, 1) := by decide +kernel
theorem dX4_hyphen_61 : decode cX4_hyphen 61 = .ok (.iload_n 3, 1) := by decide +kernel
theorem dX4_hyphen_62 : decode cX4_hyphen 62 = .ok (.imul, 1) := by decide +kernel
theorem dX4_hyphen_63 : decode cX4_hyphen 63 = .ok (.iconst 1, 1) := by decide +kernel
theorem dX4_hyphen_64 : decode cX4_hyphen 64 = .ok (.iadd, 1) := by decide +kernel
theorem dX4_hyphen_65 : decode cX4_hyphen 65 = .ok (.aload_n 0, 1) := by decide +kernel
theorem dX4_hyphen_66 : decode cX4_hyphen 66 = .ok (.getfield 172, 3) := by decide +kernel
theorem dX4_hyphen_69 : decode cX4_hyphen 69 = .ok (.imul, 1) := by decide +kernel
theorem dX4_hyphen_70 : decode cX4_hyphen 70 = .ok (.iconst 2, 1) := by decide +kernel
theorem dX4_hyphen_71 : decode cX4_hyphen 71 = .ok (.iload 4, 2) := by decide +kernel
theorem dX4_hyphen_73 : decode cX4_hyphen 73 = .ok (.imul, 1) := by decide +kernel
theorem dX4_hyphen_74 : decode cX4_hyphen 74 = .ok (.idiv, 1) := by decide +kernel
theorem dX4_hyphen_75 : decode cX4_hyphen 75 = .ok (.iadd, 1) := by decide +kernel
theorem dX4_hyphen_76 : decode cX4_hyphen 76 = .ok (.iconst 3, 1) := by decide +kernel
theorem dX4_hyphen_77 : decode cX4_hyphen 77 = .ok (.isub, 1) := by decide +kernel
theorem dX4_hyphen_78 : decode cX4_hyphen 78 = .ok (.ireturn, 1) := by decide +kernel
theorem dX4_line_0 : decode cX4_line 0 = .ok (.aload_n 0, 1) := by decide +kernel
theorem dX4_line_1 : decode cX4_line 1 = .ok (.iconst 0, 1) := by decide +kernel
theorem dX4_line_2 : decode cX4_line 2 = .ok (.putfield 1, 3) := by decide +kernel
theorem dX4_line_5 : decode cX4_line 5 = .ok (.aload_n 0, 1) := by decide +kernel
theorem dX4_line_6 : decode cX4_line 6 = .ok (.iload_n 1, 1) := by decide +kernel
theorem dX4_line_7 : decode cX4_line 7 = .ok (.iload_n 2, 1) := by decide +kernel
theorem dX4_line_8 : decode cX4_line 8 = .ok (.invokevirtual 169, 3) := by decide +kernel
theorem dX4_line_11 : decode cX4_line 11 = .ok (.ifCond .eq 6, 3) := by decide +kernel
theorem dX4_line_14 : decode cX4_line 14 = .ok (.ldc 123, 2) := by decide +kernel
theorem dX4_line_16 : decode cX4_line 16 = .ok (.ireturn, 1) := by decide +kernel
theorem dX4_line_17 : decode cX4_line 17 = .ok (.iload_n 3, 1) := by decide +kernel
theorem dX4_line_18 : decode cX4_line 18 = .ok (.iconst 0, 1) := by decide +kernel
theorem dX4_line_19 : decode cX4_line 19 = .ok (.iconst 1, 1) := by decide +kernel
theorem dX4_line_20 : decode cX4_line 20 = .ok (.invokestatic 109, 3) := by decide +kernel
theorem dX4_line_23 : decode cX4_line 23 = .ok (.ifCond .ne 6, 3) := by decide +kernel
theorem dX4_line_26 : decode cX4_line 26 = .ok (.ldc 113, 2) := by decide +kernel
theorem dX4_line_28 : decode cX4_line 28 = .ok (.ireturn, 1) := by decide +kernel
theorem dX4_line_29 : decode cX4_line 29 = .ok (.aload_n 0, 1) := by decide +kernel
theorem dX4_line_30 : decode cX4_line 30 = .ok (.getfield 19, 3) := by decide +kernel
theorem dX4_line_33 : decode cX4_line 33 = .ok (.ifCond .ne 6, 3) := by decide +kernel
theorem dX4_line_36 : decode cX4_line 36 = .ok (.ldc 127, 2) := by decide +kernel
theorem dX4_line_38 : decode cX4_line 38 = .ok (.ireturn, 1) := by decide +kernel
theorem dX4_line_39 : decode cX4_line 39 = .ok (.aload_n 0, 1) := by decide +kernel
theorem dX4_line_40 : decode cX4_line 40 = .ok (.iload_n 1, 1) := by decide +kernel
theorem dX4_line_41 : decode cX4_line 41 = .ok (.iload_n 2, 1) := by decide +kernel
theorem dX4_line_42 : decode cX4_line 42 = .ok (.invokevirtual 146, 3) := by decide +kernel
theorem dX4_line_45 : decode cX4_line 45 = .ok (.ifCond .ne 13, 3) := by decide +kernel
theorem dX4_line_48 : decode cX4_line 48 = .ok (.aload_n 0, 1) := by decide +kernel
theorem dX4_line_49 : decode cX4_line 49 = .ok (.getfield 64, 3) := by decide +kernel
theorem dX4_line_52 : decode cX4_line 52 = .ok (.iload_n 1, 1) := by decide +kernel
theorem dX4_line_53 : decode cX4_line 53 = .ok (.iaload, 1) := by decide +kernel
theorem dX4_line_54 : decode cX4_line 54 = .ok (.iload_n 1, 1) := by decide +kernel
theorem dX4_line_55 : decode cX4_line 55 = .ok (.if_icmp .eq 6, 3) := by decide +kernel
theorem dX4_line_58 : decode cX4_line 58 = .ok (.ldc 115, 2) := by decide +kernel
theorem dX4_line_60 : decode cX4_line 60 = .ok (.ireturn, 1) := by decide +kernel
theorem dX4_line_61 : decode cX4_line 61 = .ok (.aload_n 0, 1) := by decide +kernel
theorem dX4_line_62 : decode cX4_line 62 = .ok (.iload_n 1, 1) := by decide +kernel
theorem dX4_line_63 : decode cX4_line 63 = .ok (.iload_n 2, 1) := by decide +kernel
theorem dX4_line_64 : decode cX4_line 64 = .ok (.invokevirtual 143, 3) := by decide +kernel
theorem dX4_line_67 : decode cX4_line 67 = .ok (.iconst 2, 1) := by decide +kernel
theorem dX4_line_68 : decode cX4_line 68 = .ok (.iadd, 1) := by decide +kernel
theorem dX4_line_69 : decode cX4_line 69 = .ok (.istore 4, 2) := by decide +kernel
theorem dX4_line_71 : decode cX4_line 71 = .ok (.iload_n 1, 1) := by decide +kernel
theorem dX4_line_72 : decode cX4_line 72 = .ok (.aload_n 0, 1) := by decide +kernel
theorem dX4_line_73 : decode cX4_line 73 = .ok (.getfield 67, 3) := by decide +kernel
theorem dX4_line_76 : decode cX4_line 76 = .ok (.iload_n 1, 1) := by decide +kernel
theorem dX4_line_77 : decode cX4_line 77 = .ok (.iaload, 1) := by decide +kernel
theorem dX4_line_78 : decode cX4_line 78 = .ok (.iadd, 1) := by decide +kernel
theorem dX4_line_79 : decode cX4_line 79 = .ok (.iconst 1, 1) := by decide +kernel
theorem dX4_line_80 : decode cX4_line 80 = .ok (.isub, 1) := by decide +kernel
theorem dX4_line_81 : decode cX4_line 81 = .ok (.istore 5, 2) := by decide +kernel
theorem dX4_line_83 : decode cX4_line 83 = .ok (.aload_n 0, 1) := by decide +kernel
theorem dX4_line_84 : decode cX4_line 84 = .ok (.getfield 85, 3) := by decide +kernel
theorem dX4_line_87 : decode cX4_line 87 = .ok (.iload 5, 2) := by decide +kernel
theorem dX4_line_89 : decode cX4_line 89 = .ok (.iaload, 1) := by decide +kernel
theorem dX4_line_90 : decode cX4_line 90 = .ok (.aload_n 0, 1) := by decide +kernel
theorem dX4_line_91 : decode cX4_line 91 = .ok (.getfield 52, 3) := by decide +kernel
theorem dX4_line_94 : decode cX4_line 94 = .ok (.iload 5, 2) := by decide +kernel
theorem dX4_line_96 : decode cX4_line 96 = .ok (.iaload, 1) := by decide +kernel
theorem dX4_line_97 : decode cX4_line 97 = .ok (.iadd, 1) := by decide +kernel
theorem dX4_line_98 : decode cX4_line 98 = .ok (.istore 6, 2) := by decide +kernel
theorem dX4_line_100 : decode cX4_line 100 = .ok (.aload_n 0, 1) := by decide +kernel
theorem dX4_line_101 : decode cX4_line 101 = .ok (.iload_n 1, 1) := by decide +kernel
theorem dX4_line_102 : decode cX4_line 102 = .ok (.iload_n 2, 1) := by decide +kernel
theorem dX4_line_103 : decode cX4_line 103 = .ok (.iconst 1, 1) := by decide +kernel
theorem dX4_line_104 : decode cX4_line 104 = .ok (.invokevirtual 139, 3) := by decide +kernel
theorem dX4_line_107 : decode cX4_line 107 = .ok (.istore 7, 2) := by decide +kernel
theorem dX4_line_109 : decode cX4_line 109 = .ok (.iload 7, 2) := by decide +kernel
theorem dX4_line_111 : decode cX4_line 111 = .ok (.ldc 115, 2) := by decide +kernel
theorem dX4_line_113 : decode cX4_line 113 = .ok (.if_icmp .eq 36, 3) := by decide +kernel
theorem dX4_line_116 : decode cX4_line 116 = .ok (.aload_n 0, 1) := by decide +kernel
theorem dX4_line_117 : decode cX4_line 117 = .ok (.getfield 88, 3) := by decide +kernel
theorem dX4_line_120 : decode cX4_line 120 = .ok (.iconst 4, 1) := by decide +kernel
theorem dX4_line_121 : decode cX4_line 121 = .ok (.iload 7, 2) := by decide +kernel
theorem dX4_line_123 : decode cX4_line 123 = .ok (.imul, 1) := by decide +kernel
theorem dX4_line_124 : decode cX4_line 124 = .ok (.iload_n 2, 1) := by decide +kernel
theorem dX4_line_125 : decode cX4_line 125 = .ok (.iadd, 1) := by decide +kernel
theorem dX4_line_126 : decode cX4_line 126 = .ok (.iaload, 1) := by decide +kernel
theorem dX4_line_127 : decode cX4_line 127 = .ok (.iconst 4, 1) := by decide +kernel
theorem dX4_line_128 : decode cX4_line 128 = .ok (.isub, 1) := by decide +kernel
theorem dX4_line_129 : decode cX4_line 129 = .ok (.iload 6, 2) := by decide +kernel
theorem dX4_line_131 : decode cX4_line 131 = .ok (.if_icmp .ge 18, 3) := by decide +kernel
theorem dX4_line_134 : decode cX4_line 134 = .ok (.aload_n 0, 1) := by decide +kernel
theorem dX4_line_135 : decode cX4_line 135 = .ok (.getfield 88, 3) := by decide +kernel
theorem dX4_line_138 : decode cX4_line 138 = .ok (.iconst 4, 1) := by decide +kernel
theorem dX4_line_139 : decode cX4_line 139 = .ok (.iload 7, 2) := by decide +kernel
theorem dX4_line_141 : decode cX4_line 141 = .ok (.imul, 1) := by decide +kernel
theorem dX4_line_142 : decode cX4_line 142 = .ok (.iload_n 2, 1) := by decide +kernel
theorem dX4_line_143 : decode cX4_line 143 = .ok (.iadd, 1) := by decide +kernel
theorem dX4_line_144 : decode cX4_line 144 = .ok (.iaload, 1) := by decide +kernel
theorem dX4_line_145 : decode cX4_line 145 = .ok (.iconst 4, 1) := by decide +kernel
theorem dX4_line_146 : decode cX4_line 146 = .ok (.isub, 1) := by decide +kernel
theorem dX4_line_147 : decode cX4_line 147 = .ok (.istore 6, 2) := by decide +kernel
theorem dX4_line_149 : decode cX4_line 149 = .ok (.iload 6, 2) := by decide +kernel
theorem dX4_line_151 : decode cX4_line 151 = .ok (.iload 4, 2) := by decide +kernel
theorem dX4_line_153 : decode cX4_line 153 = .ok (.isub, 1) := by decide +kernel
theorem dX4_line_154 : decode cX4_line 154 = .ok (.bipush 10, 2) := by decide +kernel
theorem dX4_line_156 : decode cX4_line 156 = .ok (.if_icmp .ge 8, 3) := by decide +kernel
theorem dX4_line_159 : decode cX4_line 159 = .ok (.ldc 115, 2) := by decide +kernel
theorem dX4_line_161 : decode cX4_line 161 = .ok (.goto 14, 3) := by decide +kernel
theorem dX4_line_164 : decode cX4_line 164 = .ok (.iload_n 3, 1) := by decide +kernel
theorem dX4_line_165 : decode cX4_line 165 = .ok (.ifCond .ne 8, 3) := by decide +kernel
theorem dX4_line_168 : decode cX4_line 168 = .ok (.iload 4, 2) := by decide +kernel
theorem dX4_line_170 : decode cX4_line 170 = .ok (.goto 5, 3) := by decide +kernel
theorem dX4_line_173 : decode cX4_line 173 = .ok (.iload 6, 2) := by decide +kernel
theorem dX4_line_175 : decode cX4_line 175 = .ok (.ireturn, 1) := by decide +kernel
theorem dX4_strain_0 : decode cX4_strain 0 = .ok (.aload_n 0, 1) := by decide +kernel
theorem dX4_strain_1 : decode cX4_strain 1 = .ok (.iconst 0, 1) := by decide +kernel
theorem dX4_strain_2 : decode cX4_strain 2 = .ok (.putfield 1, 3) := by decide +kernel
theorem dX4_strain_5 : decode cX4_strain 5 = .ok (.aload_n 0, 1) := by decide +kernel
theorem dX4_strain_6 : decode cX4_strain 6 = .ok (.getfield 19, 3) := by decide +kernel
theorem dX4_strain_9 : decode cX4_strain 9 = .ok (.ifCond .ne 6, 3) := by decide +kernel
theorem dX4_strain_12 : decode cX4_strain 12 = .ok (.ldc 127, 2) := by decide +kernel
theorem dX4_strain_14 : decode cX4_strain 14 = .ok (.ireturn, 1) := by decide +kernel
theorem dX4_strain_15 : decode cX4_strain 15 = .ok (.aload_n 0, 1) := by decide +kernel
theorem dX4_strain_16 : decode cX4_strain 16 = .ok (.getfield 7, 3) := by decide +kernel
theorem dX4_strain_19 : decode cX4_strain 19 = .ok (.ifCond .eq 17, 3) := by decide +kernel
theorem dX4_strain_22 : decode cX4_strain 22 = .ok (.aload_n 0, 1) := by decide +kernel
theorem dX4_strain_23 : decode cX4_strain 23 = .ok (.getfield 85, 3) := by decide +kernel
theorem dX4_strain_26 : decode cX4_strain 26 = .ok (.aload_n 0, 1) := by decide +kernel
theorem dX4_strain_27 : decode cX4_strain 27 = .ok (.getfield 7, 3) := by decide +kernel
theorem dX4_strain_30 : decode cX4_strain 30 = .ok (.iconst 1, 1) := by decide +kernel
theorem dX4_strain_31 : decode cX4_strain 31 = .ok (.isub, 1) := by decide +kernel
theorem dX4_strain_32 : decode cX4_strain 32 = .ok (.iaload, 1) := by decide +kernel
theorem dX4_strain_33 : decode cX4_strain 33 = .ok (.ifCond .ne 10, 3) := by decide +kernel
theorem dX4_strain_36 : decode cX4_strain 36 = .ok (.aload_n 0, 1) := by decide +kernel
theorem dX4_strain_37 : decode cX4_strain 37 = .ok (.iconst 1, 1) := by decide +kernel
theorem dX4_strain_38 : decode cX4_strain 38 = .ok (.putfield 1, 3) := by decide +kernel
theorem dX4_strain_41 : decode cX4_strain 41 = .ok (.iconst 0, 1) := by decide +kernel
theorem dX4_strain_42 : decode cX4_strain 42 = .ok (.ireturn, 1) := by decide +kernel
theorem dX4_strain_43 : decode cX4_strain 43 = .ok (.iconst 0, 1) := by decide +kernel
theorem dX4_strain_44 : decode cX4_strain 44 = .ok (.istore_n 1, 1) := by decide +kernel
theorem dX4_strain_45 : decode cX4_strain 45 = .ok (.iconst 0, 1) := by decide +kernel
theorem dX4_strain_46 : decode cX4_strain 46 = .ok (.istore_n 2, 1) := by decide +kernel
theorem dX4_strain_47 : decode cX4_strain 47 = .ok (.iload_n 2, 1) := by decide +kernel
theorem dX4_strain_48 : decode cX4_strain 48 = .ok (.aload_n 0, 1) := by decide +kernel
theorem dX4_strain_49 : decode cX4_strain 49 = .ok (.getfield 7, 3) := by decide +kernel
theorem dX4_strain_52 : decode cX4_strain 52 = .ok (.if_icmp .ge 24, 3) := by decide +kernel
theorem dX4_strain_55 : decode cX4_strain 55 = .ok (.iload_n 1, 1) := by decide +kernel
theorem dX4_strain_56 : decode cX4_strain 56 = .ok (.aload_n 0, 1) := by decide +kernel
theorem dX4_strain_57 : decode cX4_strain 57 = .ok (.getfield 85, 3) := by decide +kernel
theorem dX4_strain_60 : decode cX4_strain 60 = .ok (.iload_n 2, 1) := by decide +kernel
theorem dX4_strain_61 : decode cX4_strain 61 = .ok (.iaload, 1) := by decide +kernel
theorem dX4_strain_62 : decode cX4_strain 62 = .ok (.aload_n 0, 1) := by decide +kernel
theorem dX4_strain_63 : decode cX4_strain 63 = .ok (.iload_n 2, 1) := by decide +kernel
theorem dX4_strain_64 : decode cX4_strain 64 = .ok (.invokevirtual 149, 3) := by decide +kernel
theorem dX4_strain_67 : decode cX4_strain 67 = .ok (.isub, 1) := by decide +kernel
theorem dX4_strain_68 : decode cX4_strain 68 = .ok (.iadd, 1) := by decide +kernel
theorem dX4_strain_69 : decode cX4_strain 69 = .ok (.istore_n 1, 1) := by decide +kernel
theorem dX4_strain_70 : decode cX4_strain 70 = .ok (.iinc 2 1, 3) := by decide +kernel
theorem dX4_strain_73 : decode cX4_strain 73 = .ok (.goto (-26), 3) := by decide +kernel
theorem dX4_strain_76 : decode cX4_strain 76 = .ok (.ldc2_w 178, 3) := by decide +kernel
theorem dX4_strain_79 : decode cX4_strain 79 = .ok (.iload_n 1, 1) := by decide +kernel
theorem dX4_strain_80 : decode cX4_strain 80 = .ok (.i2l, 1) := by decide +kernel
theorem dX4_strain_81 : decode cX4_strain 81 = .ok (.lmul, 1) := by decide +kernel
theorem dX4_strain_82 : decode cX4_strain 82 = .ok (.aload_n 0, 1) := by decide +kernel
theorem dX4_strain_83 : decode cX4_strain 83 = .ok (.getfield 85, 3) := by decide +kernel
theorem dX4_strain_86 : decode cX4_strain 86 = .ok (.aload_n 0, 1) := by decide +kernel
theorem dX4_strain_87 : decode cX4_strain 87 = .ok (.getfield 7, 3) := by decide +kernel
theorem dX4_strain_90 : decode cX4_strain 90 = .ok (.iconst 1, 1) := by decide +kernel
theorem dX4_strain_91 : decode cX4_strain 91 = .ok (.isub, 1) := by decide +kernel
theorem dX4_strain_92 : decode cX4_strain 92 = .ok (.iaload, 1) := by decide +kernel
theorem dX4_strain_93 : decode cX4_strain 93 = .ok (.i2l, 1) := by decide +kernel
theorem dX4_strain_94 : decode cX4_strain 94 = .ok (.ldiv, 1) := by decide +kernel
theorem dX4_strain_95 : decode cX4_strain 95 = .ok (.l2i, 1) := by decide +kernel
theorem dX4_strain_96 : decode cX4_strain 96 = .ok (.ireturn, 1) := by decide +kernel
theorem dX4_hasBoxes_0 : decode cX4_hasBoxes 0 = .ok (.iconst 0, 1) := by decide +kernel
theorem dX4_hasBoxes_1 : decode cX4_hasBoxes 1 = .ok (.istore_n 2, 1) := by decide +kernel
theorem dX4_hasBoxes_2 : decode cX4_hasBoxes 2 = .ok (.iconst 0, 1) := by decide +kernel
theorem dX4_hasBoxes_3 : decode cX4_hasBoxes 3 = .ok (.istore_n 3, 1) := by decide +kernel
theorem dX4_hasBoxes_4 : decode cX4_hasBoxes 4 = .ok (.iload_n 3, 1) := by decide +kernel
theorem dX4_hasBoxes_5 : decode cX4_hasBoxes 5 = .ok (.aload_n 0, 1) := by decide +kernel
theorem dX4_hasBoxes_6 : decode cX4_hasBoxes 6 = .ok (.getfield 7, 3) := by decide +kernel
theorem dX4_hasBoxes_9 : decode cX4_hasBoxes 9 = .ok (.if_icmp .ge 28, 3) := by decide +kernel
theorem dX4_hasBoxes_12 : decode cX4_hasBoxes 12 = .ok (.iload_n 2, 1) := by decide +kernel
theorem dX4_hasBoxes_13 : decode cX4_hasBoxes 13 = .ok (.ifCond .ne 12, 3) := by decide +kernel
theorem dX4_hasBoxes_16 : decode cX4_hasBoxes 16 = .ok (.aload_n 0, 1) := by decide +kernel
theorem dX4_hasBoxes_17 : decode cX4_hasBoxes 17 = .ok (.iload_n 3, 1) := by decide +kernel
theorem dX4_hasBoxes_18 : decode cX4_hasBoxes 18 = .ok (.iload_n 1, 1) := by decide +kernel
theorem dX4_hasBoxes_19 : decode cX4_hasBoxes 19 = .ok (.invokevirtual 135, 3) := by decide +kernel
theorem dX4_hasBoxes_22 : decode cX4_hasBoxes 22 = .ok (.ifCond .eq 7, 3) := by decide +kernel
theorem dX4_hasBoxes_25 : decode cX4_hasBoxes 25 = .ok (.iconst 1, 1) := by decide +kernel
theorem dX4_hasBoxes_26 : decode cX4_hasBoxes 26 = .ok (.goto 4, 3) := by decide +kernel
theorem dX4_hasBoxes_29 : decode cX4_hasBoxes 29 = .ok (.iconst 0, 1) := by decide +kernel
theorem dX4_hasBoxes_30 : decode cX4_hasBoxes 30 = .ok (.istore_n 2, 1) := by decide +kernel
theorem dX4_hasBoxes_31 : decode cX4_hasBoxes 31 = .ok (.iinc 3 1, 3) := by decide +kernel
theorem dX4_hasBoxes_34 : decode cX4_hasBoxes 34 = .ok (.goto (-30), 3) := by decide +kernel
theorem dX4_hasBoxes_37 : decode cX4_hasBoxes 37 = .ok (.iload_n 2, 1) := by decide +kernel
theorem dX4_hasBoxes_38 : decode cX4_hasBoxes 38 = .ok (.ireturn, 1) := by decide +kernel
theorem dX4_faultAt_0 : decode cX4_faultAt 0 = .ok (.aload_n 0, 1) := by decide +kernel
theorem dX4_faultAt_1 : decode cX4_faultAt 1 = .ok (.iload_n 2, 1) := by decide +kernel
theorem dX4_faultAt_2 : decode cX4_faultAt 2 = .ok (.iload_n 1, 1) := by decide +kernel
theorem dX4_faultAt_3 : decode cX4_faultAt 3 = .ok (.invokevirtual 135, 3) := by decide +kernel
theorem dX4_faultAt_6 : decode cX4_faultAt 6 = .ok (.ifCond .eq 30, 3) := by decide +kernel
theorem dX4_faultAt_9 : decode cX4_faultAt 9 = .ok (.aload_n 0, 1) := by decide +kernel
theorem dX4_faultAt_10 : decode cX4_faultAt 10 = .ok (.iload_n 2, 1) := by decide +kernel
theorem dX4_faultAt_11 : decode cX4_faultAt 11 = .ok (.iload_n 1, 1) := by decide +kernel
theorem dX4_faultAt_12 : decode cX4_faultAt 12 = .ok (.invokevirtual 146, 3) := by decide +kernel
theorem dX4_faultAt_15 : decode cX4_faultAt 15 = .ok (.ifCond .eq 19, 3) := by decide +kernel
theorem dX4_faultAt_18 : decode cX4_faultAt 18 = .ok (.aload_n 0, 1) := by decide +kernel
theorem dX4_faultAt_19 : decode cX4_faultAt 19 = .ok (.iload_n 2, 1) := by decide +kernel
theorem dX4_faultAt_20 : decode cX4_faultAt 20 = .ok (.iload_n 1, 1) := by decide +kernel
theorem dX4_faultAt_21 : decode cX4_faultAt 21 = .ok (.iconst 1, 1) := by decide +kernel
theorem dX4_faultAt_22 : decode cX4_faultAt 22 = .ok (.invokevirtual 139, 3) := by decide +kernel
theorem dX4_faultAt_25 : decode cX4_faultAt 25 = .ok (.ldc 115, 2) := by decide +kernel
theorem dX4_faultAt_27 : decode cX4_faultAt 27 = .ok (.if_icmp .ne 7, 3) := by decide +kernel
theorem dX4_faultAt_30 : decode cX4_faultAt 30 = .ok (.iconst 2, 1) := by decide +kernel
theorem dX4_faultAt_31 : decode cX4_faultAt 31 = .ok (.goto 4, 3) := by decide +kernel
theorem dX4_faultAt_34 : decode cX4_faultAt 34 = .ok (.iconst 0, 1) := by decide +kernel
theorem dX4_faultAt_35 : decode cX4_faultAt 35 = .ok (.ireturn, 1) := by decide +kernel
theorem dX4_faultAt_36 : decode cX4_faultAt 36 = .ok (.aload_n 0, 1) := by decide +kernel
theorem dX4_faultAt_37 : decode cX4_faultAt 37 = .ok (.getfield 58, 3) := by decide +kernel
theorem dX4_faultAt_40 : decode cX4_faultAt 40 = .ok (.iload_n 2, 1) := by decide +kernel
theorem dX4_faultAt_41 : decode cX4_faultAt 41 = .ok (.baload, 1) := by decide +kernel
theorem dX4_faultAt_42 : decode cX4_faultAt 42 = .ok (.ifCond .ne 35, 3) := by decide +kernel
theorem dX4_faultAt_45 : decode cX4_faultAt 45 = .ok (.aload_n 0, 1) := by decide +kernel
theorem dX4_faultAt_46 : decode cX4_faultAt 46 = .ok (.iload_n 2, 1) := by decide +kernel
theorem dX4_faultAt_47 : decode cX4_faultAt 47 = .ok (.invokevirtual 124, 3) := by decide +kernel
theorem dX4_faultAt_50 : decode cX4_faultAt 50 = .ok (.ifCond .ne 27, 3) := by decide +kernel
theorem dX4_faultAt_53 : decode cX4_faultAt 53 = .ok (.iload_n 1, 1) := by decide +kernel
theorem dX4_faultAt_54 : decode cX4_faultAt 54 = .ok (.ifCond .le 14, 3) := by decide +kernel
theorem dX4_faultAt_57 : decode cX4_faultAt 57 = .ok (.aload_n 0, 1) := by decide +kernel
theorem dX4_faultAt_58 : decode cX4_faultAt 58 = .ok (.getfield 70, 3) := by decide +kernel
theorem dX4_faultAt_61 : decode cX4_faultAt 61 = .ok (.iload_n 2, 1) := by decide +kernel
theorem dX4_faultAt_62 : decode cX4_faultAt 62 = .ok (.iaload, 1) := by decide +kernel
theorem dX4_faultAt_63 : decode cX4_faultAt 63 = .ok (.ldc 115, 2) := by decide +kernel
theorem dX4_faultAt_65 : decode cX4_faultAt 65 = .ok (.if_icmp .ne 12, 3) := by decide +kernel
theorem dX4_faultAt_68 : decode cX4_faultAt 68 = .ok (.aload_n 0, 1) := by decide +kernel
theorem dX4_faultAt_69 : decode cX4_faultAt 69 = .ok (.getfield 42, 3) := by decide +kernel
theorem dX4_faultAt_72 : decode cX4_faultAt 72 = .ok (.iload_n 1, 1) := by decide +kernel
theorem dX4_faultAt_73 : decode cX4_faultAt 73 = .ok (.baload, 1) := by decide +kernel
theorem dX4_faultAt_74 : decode cX4_faultAt 74 = .ok (.ifCond .eq 7, 3) := by decide +kernel
theorem dX4_faultAt_77 : decode cX4_faultAt 77 = .ok (.iconst 1, 1) := by decide +kernel
theorem dX4_faultAt_78 : decode cX4_faultAt 78 = .ok (.goto 4, 3) := by decide +kernel
theorem dX4_faultAt_81 : decode cX4_faultAt 81 = .ok (.iconst 0, 1) := by decide +kernel
theorem dX4_faultAt_82 : decode cX4_faultAt 82 = .ok (.istore_n 3, 1) := by decide +kernel
theorem dX4_faultAt_83 : decode cX4_faultAt 83 = .ok (.iload_n 3, 1) := by decide +kernel
theorem dX4_faultAt_84 : decode cX4_faultAt 84 = .ok (.ifCond .ne 11, 3) := by decide +kernel
theorem dX4_faultAt_87 : decode cX4_faultAt 87 = .ok (.aload_n 0, 1) := by decide +kernel
theorem dX4_faultAt_88 : decode cX4_faultAt 88 = .ok (.iload_n 1, 1) := by decide +kernel
theorem dX4_faultAt_89 : decode cX4_faultAt 89 = .ok (.invokevirtual 180, 3) := by decide +kernel
theorem dX4_faultAt_92 : decode cX4_faultAt 92 = .ok (.ifCond .ne 7, 3) := by decide +kernel
theorem dX4_faultAt_95 : decode cX4_faultAt 95 = .ok (.iconst 0, 1) := by decide +kernel
theorem dX4_faultAt_96 : decode cX4_faultAt 96 = .ok (.goto 4, 3) := by decide +kernel
theorem dX4_faultAt_99 : decode cX4_faultAt 99 = .ok (.iconst 1, 1) := by decide +kernel
theorem dX4_faultAt_100 : decode cX4_faultAt 100 = .ok (.ireturn, 1) := by decide +kernel
theorem dX4_faults_0 : decode cX4_faults 0 = .ok (.aload_n 0, 1) := by decide +kernel
theorem dX4_faults_1 : decode cX4_faults 1 = .ok (.iconst 0, 1) := by decide +kernel
theorem dX4_faults_2 : decode cX4_faults 2 = .ok (.putfield 1, 3) := by decide +kernel
theorem dX4_faults_5 : decode cX4_faults 5 = .ok (.iconst 0, 1) := by decide +kernel
theorem dX4_faults_6 : decode cX4_faults 6 = .ok (.istore_n 1, 1) := by decide +kernel
theorem dX4_faults_7 : decode cX4_faults 7 = .ok (.iconst 0, 1) := by decide +kernel
theorem dX4_faults_8 : decode cX4_faults 8 = .ok (.istore_n 2, 1) := by decide +kernel
theorem dX4_faults_9 : decode cX4_faults 9 = .ok (.iload_n 2, 1) := by decide +kernel
theorem dX4_faults_10 : decode cX4_faults 10 = .ok (.iconst 4, 1) := by decide +kernel
theorem dX4_faults_11 : decode cX4_faults 11 = .ok (.if_icmp .ge 42, 3) := by decide +kernel
theorem dX4_faults_14 : decode cX4_faults 14 = .ok (.iconst 0, 1) := by decide +kernel
theorem dX4_faults_15 : decode cX4_faults 15 = .ok (.istore_n 3, 1) := by decide +kernel
theorem dX4_faults_16 : decode cX4_faults 16 = .ok (.iload_n 3, 1) := by decide +kernel
theorem dX4_faults_17 : decode cX4_faults 17 = .ok (.aload_n 0, 1) := by decide +kernel
theorem dX4_faults_18 : decode cX4_faults 18 = .ok (.getfield 7, 3) := by decide +kernel
theorem dX4_faults_21 : decode cX4_faults 21 = .ok (.if_icmp .ge 26, 3) := by decide +kernel
theorem dX4_faults_24 : decode cX4_faults 24 = .ok (.iload_n 1, 1) := by decide +kernel
theorem dX4_faults_25 : decode cX4_faults 25 = .ok (.aload_n 0, 1) := by decide +kernel
theorem dX4_faults_26 : decode cX4_faults 26 = .ok (.iload_n 2, 1) := by decide +kernel
theorem dX4_faults_27 : decode cX4_faults 27 = .ok (.iload_n 3, 1) := by decide +kernel
theorem dX4_faults_28 : decode cX4_faults 28 = .ok (.invokevirtual 183, 3) := by decide +kernel
theorem dX4_faults_31 : decode cX4_faults 31 = .ok (.ifCond .le 7, 3) := by decide +kernel
theorem dX4_faults_34 : decode cX4_faults 34 = .ok (.iconst 1, 1) := by decide +kernel
theorem dX4_faults_35 : decode cX4_faults 35 = .ok (.goto 4, 3) := by decide +kernel
theorem dX4_faults_38 : decode cX4_faults 38 = .ok (.iconst 0, 1) := by decide +kernel
theorem dX4_faults_39 : decode cX4_faults 39 = .ok (.iadd, 1) := by decide +kernel
theorem dX4_faults_40 : decode cX4_faults 40 = .ok (.istore_n 1, 1) := by decide +kernel
theorem dX4_faults_41 : decode cX4_faults 41 = .ok (.iinc 3 1, 3) := by decide +kernel
theorem dX4_faults_44 : decode cX4_faults 44 = .ok (.goto (-28), 3) := by decide +kernel
theorem dX4_faults_47 : decode cX4_faults 47 = .ok (.iinc 2 1, 3) := by decide +kernel
theorem dX4_faults_50 : decode cX4_faults 50 = .ok (.goto (-41), 3) := by decide +kernel
theorem dX4_faults_53 : decode cX4_faults 53 = .ok (.iload_n 1, 1) := by decide +kernel
theorem dX4_faults_54 : decode cX4_faults 54 = .ok (.ireturn, 1) := by decide +kernel
theorem dX4_fault_0 : decode cX4_fault 0 = .ok (.aload_n 0, 1) := by decide +kernel
theorem dX4_fault_1 : decode cX4_fault 1 = .ok (.iconst 0, 1) := by decide +kernel
theorem dX4_fault_2 : decode cX4_fault 2 = .ok (.putfield 1, 3) := by decide +kernel
theorem dX4_fault_5 : decode cX4_fault 5 = .ok (.iload_n 1, 1) := by decide +kernel
theorem dX4_fault_6 : decode cX4_fault 6 = .ok (.ifCond .lt 11, 3) := by decide +kernel
theorem dX4_fault_9 : decode cX4_fault 9 = .ok (.iload_n 1, 1) := by decide +kernel
theorem dX4_fault_10 : decode cX4_fault 10 = .ok (.aload_n 0, 1) := by decide +kernel
theorem dX4_fault_11 : decode cX4_fault 11 = .ok (.invokevirtual 186, 3) := by decide +kernel
theorem dX4_fault_14 : decode cX4_fault 14 = .ok (.if_icmp .lt 6, 3) := by decide +kernel
theorem dX4_fault_17 : decode cX4_fault 17 = .ok (.ldc 123, 2) := by decide +kernel
theorem dX4_fault_19 : decode cX4_fault 19 = .ok (.ireturn, 1) := by decide +kernel
theorem dX4_fault_20 : decode cX4_fault 20 = .ok (.iload_n 2, 1) := by decide +kernel
theorem dX4_fault_21 : decode cX4_fault 21 = .ok (.iconst 0, 1) := by decide +kernel
theorem dX4_fault_22 : decode cX4_fault 22 = .ok (.iconst 2, 1) := by decide +kernel
theorem dX4_fault_23 : decode cX4_fault 23 = .ok (.invokestatic 109, 3) := by decide +kernel
theorem dX4_fault_26 : decode cX4_fault 26 = .ok (.ifCond .ne 6, 3) := by decide +kernel
theorem dX4_fault_29 : decode cX4_fault 29 = .ok (.ldc 113, 2) := by decide +kernel
theorem dX4_fault_31 : decode cX4_fault 31 = .ok (.ireturn, 1) := by decide +kernel
theorem dX4_fault_32 : decode cX4_fault 32 = .ok (.iload_n 1, 1) := by decide +kernel
theorem dX4_fault_33 : decode cX4_fault 33 = .ok (.istore_n 3, 1) := by decide +kernel
theorem dX4_fault_34 : decode cX4_fault 34 = .ok (.iconst 0, 1) := by decide +kernel
theorem dX4_fault_35 : decode cX4_fault 35 = .ok (.istore 4, 2) := by decide +kernel
theorem dX4_fault_37 : decode cX4_fault 37 = .ok (.aload_n 0, 1) := by decide +kernel
theorem dX4_fault_38 : decode cX4_fault 38 = .ok (.iload 4, 2) := by decide +kernel
theorem dX4_fault_40 : decode cX4_fault 40 = .ok (.aload_n 0, 1) := by decide +kernel
theorem dX4_fault_41 : decode cX4_fault 41 = .ok (.getfield 7, 3) := by decide +kernel
theorem dX4_fault_44 : decode cX4_fault 44 = .ok (.idiv, 1) := by decide +kernel
theorem dX4_fault_45 : decode cX4_fault 45 = .ok (.iload 4, 2) := by decide +kernel
theorem dX4_fault_47 : decode cX4_fault 47 = .ok (.aload_n 0, 1) := by decide +kernel
theorem dX4_fault_48 : decode cX4_fault 48 = .ok (.getfield 7, 3) := by decide +kernel
theorem dX4_fault_51 : decode cX4_fault 51 = .ok (.irem, 1) := by decide +kernel
theorem dX4_fault_52 : decode cX4_fault 52 = .ok (.invokevirtual 183, 3) := by decide +kernel
theorem dX4_fault_55 : decode cX4_fault 55 = .ok (.ifCond .eq 7, 3) := by decide +kernel
theorem dX4_fault_58 : decode cX4_fault 58 = .ok (.iload_n 3, 1) := by decide +kernel
theorem dX4_fault_59 : decode cX4_fault 59 = .ok (.ifCond .le 38, 3) := by decide +kernel
theorem dX4_fault_62 : decode cX4_fault 62 = .ok (.iload_n 3, 1) := by decide +kernel
theorem dX4_fault_63 : decode cX4_fault 63 = .ok (.aload_n 0, 1) := by decide +kernel
theorem dX4_fault_64 : decode cX4_fault 64 = .ok (.iload 4, 2) := by decide +kernel
theorem dX4_fault_66 : decode cX4_fault 66 = .ok (.aload_n 0, 1) := by decide +kernel
theorem dX4_fault_67 : decode cX4_fault 67 = .ok (.getfield 7, 3) := by decide +kernel
theorem dX4_fault_70 : decode cX4_fault 70 = .ok (.idiv, 1) := by decide +kernel
theorem dX4_fault_71 : decode cX4_fault 71 = .ok (.iload 4, 2) := by decide +kernel
theorem dX4_fault_73 : decode cX4_fault 73 = .ok (.aload_n 0, 1) := by decide +kernel
theorem dX4_fault_74 : decode cX4_fault 74 = .ok (.getfield 7, 3) := by decide +kernel
theorem dX4_fault_77 : decode cX4_fault 77 = .ok (.irem, 1) := by decide +kernel
theorem dX4_fault_78 : decode cX4_fault 78 = .ok (.invokevirtual 183, 3) := by decide +kernel
theorem dX4_fault_81 : decode cX4_fault 81 = .ok (.ifCond .le 7, 3) := by decide +kernel
theorem dX4_fault_84 : decode cX4_fault 84 = .ok (.iconst 1, 1) := by decide +kernel
theorem dX4_fault_85 : decode cX4_fault 85 = .ok (.goto 4, 3) := by decide +kernel
theorem dX4_fault_88 : decode cX4_fault 88 = .ok (.iconst 0, 1) := by decide +kernel
theorem dX4_fault_89 : decode cX4_fault 89 = .ok (.isub, 1) := by decide +kernel
theorem dX4_fault_90 : decode cX4_fault 90 = .ok (.istore_n 3, 1) := by decide +kernel
theorem dX4_fault_91 : decode cX4_fault 91 = .ok (.iinc 4 1, 3) := by decide +kernel
theorem dX4_fault_94 : decode cX4_fault 94 = .ok (.goto (-57), 3) := by decide +kernel
theorem dX4_fault_97 : decode cX4_fault 97 = .ok (.iload_n 2, 1) := by decide +kernel
theorem dX4_fault_98 : decode cX4_fault 98 = .ok (.ifCond .ne 24, 3) := by decide +kernel
theorem dX4_fault_101 : decode cX4_fault 101 = .ok (.aload_n 0, 1) := by decide +kernel
theorem dX4_fault_102 : decode cX4_fault 102 = .ok (.iload 4, 2) := by decide +kernel
theorem dX4_fault_104 : decode cX4_fault 104 = .ok (.aload_n 0, 1) := by decide +kernel
theorem dX4_fault_105 : decode cX4_fault 105 = .ok (.getfield 7, 3) := by decide +kernel
theorem dX4_fault_108 : decode cX4_fault 108 = .ok (.idiv, 1) := by decide +kernel
theorem dX4_fault_109 : decode cX4_fault 109 = .ok (.iload 4, 2) := by decide +kernel
theorem dX4_fault_111 : decode cX4_fault 111 = .ok (.aload_n 0, 1) := by decide +kernel
theorem dX4_fault_112 : decode cX4_fault 112 = .ok (.getfield 7, 3) := by decide +kernel
theorem dX4_fault_115 : decode cX4_fault 115 = .ok (.irem, 1) := by decide +kernel
theorem dX4_fault_116 : decode cX4_fault 116 = .ok (.invokevirtual 183, 3) := by decide +kernel
theorem dX4_fault_119 : decode cX4_fault 119 = .ok (.goto 25, 3) := by decide +kernel
theorem dX4_fault_122 : decode cX4_fault 122 = .ok (.iload_n 2, 1) := by decide +kernel
theorem dX4_fault_123 : decode cX4_fault 123 = .ok (.iconst 1, 1) := by decide +kernel
theorem dX4_fault_124 : decode cX4_fault 124 = .ok (.if_icmp .ne 13, 3) := by decide +kernel
theorem dX4_fault_127 : decode cX4_fault 127 = .ok (.iload 4, 2) := by decide +kernel
theorem dX4_fault_129 : decode cX4_fault 129 = .ok (.aload_n 0, 1) := by decide +kernel
theorem dX4_fault_130 : decode cX4_fault 130 = .ok (.getfield 7, 3) := by decide +kernel
theorem dX4_fault_133 : decode cX4_fault 133 = .ok (.idiv, 1) := by decide +kernel
theorem dX4_fault_134 : decode cX4_fault 134 = .ok (.goto 10, 3) := by decide +kernel
theorem dX4_fault_137 : decode cX4_fault 137 = .ok (.iload 4, 2) := by decide +kernel
theorem dX4_fault_139 : decode cX4_fault 139 = .ok (.aload_n 0, 1) := by decide +kernel
theorem dX4_fault_140 : decode cX4_fault 140 = .ok (.getfield 7, 3) := by decide +kernel
theorem dX4_fault_143 : decode cX4_fault 143 = .ok (.irem, 1) := by decide +kernel
theorem dX4_fault_144 : decode cX4_fault 144 = .ok (.ireturn, 1) := by decide +kernel
theorem dX4_areAlikeAt_0 : decode cX4_areAlikeAt 0 = .ok (.aload_n 0, 1) := by decide +kernel
theorem dX4_areAlikeAt_1 : decode cX4_areAlikeAt 1 = .ok (.getfield 73, 3) := by decide +kernel
theorem dX4_areAlikeAt_4 : decode cX4_areAlikeAt 4 = .ok (.iconst 4, 1) := by decide +kernel
theorem dX4_areAlikeAt_5 : decode cX4_areAlikeAt 5 = .ok (.iload_n 1, 1) := by decide +kernel
theorem dX4_areAlikeAt_6 : decode cX4_areAlikeAt 6 = .ok (.imul, 1) := by decide +kernel
theorem dX4_areAlikeAt_7 : decode cX4_areAlikeAt 7 = .ok (.iload_n 2, 1) := by decide +kernel
theorem dX4_areAlikeAt_8 : decode cX4_areAlikeAt 8 = .ok (.iadd, 1) := by decide +kernel
theorem dX4_areAlikeAt_9 : decode cX4_areAlikeAt 9 = .ok (.iaload, 1) := by decide +kernel
theorem dX4_areAlikeAt_10 : decode cX4_areAlikeAt 10 = .ok (.aload_n 0, 1) := by decide +kernel
theorem dX4_areAlikeAt_11 : decode cX4_areAlikeAt 11 = .ok (.getfield 73, 3) := by decide +kernel
theorem dX4_areAlikeAt_14 : decode cX4_areAlikeAt 14 = .ok (.iconst 4, 1) := by decide +kernel
theorem dX4_areAlikeAt_15 : decode cX4_areAlikeAt 15 = .ok (.iload_n 1, 1) := by decide +kernel
theorem dX4_areAlikeAt_16 : decode cX4_areAlikeAt 16 = .ok (.imul, 1) := by decide +kernel
theorem dX4_areAlikeAt_17 : decode cX4_areAlikeAt 17 = .ok (.iload_n 3, 1) := by decide +kernel
theorem dX4_areAlikeAt_18 : decode cX4_areAlikeAt 18 = .ok (.iadd, 1) := by decide +kernel
theorem dX4_areAlikeAt_19 : decode cX4_areAlikeAt 19 = .ok (.iaload, 1) := by decide +kernel
theorem dX4_areAlikeAt_20 : decode cX4_areAlikeAt 20 = .ok (.if_icmp .ne 7, 3) := by decide +kernel
theorem dX4_areAlikeAt_23 : decode cX4_areAlikeAt 23 = .ok (.iconst 1, 1) := by decide +kernel
theorem dX4_areAlikeAt_24 : decode cX4_areAlikeAt 24 = .ok (.goto 4, 3) := by decide +kernel
theorem dX4_areAlikeAt_27 : decode cX4_areAlikeAt 27 = .ok (.iconst 0, 1) := by decide +kernel
theorem dX4_areAlikeAt_28 : decode cX4_areAlikeAt 28 = .ok (.istore 4, 2) := by decide +kernel
theorem dX4_areAlikeAt_30 : decode cX4_areAlikeAt 30 = .ok (.iconst 0, 1) := by decide +kernel
theorem dX4_areAlikeAt_31 : decode cX4_areAlikeAt 31 = .ok (.istore 5, 2) := by decide +kernel
theorem dX4_areAlikeAt_33 : decode cX4_areAlikeAt 33 = .ok (.iload 4, 2) := by decide +kernel
theorem dX4_areAlikeAt_35 : decode cX4_areAlikeAt 35 = .ok (.ifCond .eq 108, 3) := by decide +kernel
theorem dX4_areAlikeAt_38 : decode cX4_areAlikeAt 38 = .ok (.iload 5, 2) := by decide +kernel
theorem dX4_areAlikeAt_40 : decode cX4_areAlikeAt 40 = .ok (.aload_n 0, 1) := by decide +kernel
theorem dX4_areAlikeAt_41 : decode cX4_areAlikeAt 41 = .ok (.getfield 73, 3) := by decide +kernel
theorem dX4_areAlikeAt_44 : decode cX4_areAlikeAt 44 = .ok (.iconst 4, 1) := by decide +kernel
theorem dX4_areAlikeAt_45 : decode cX4_areAlikeAt 45 = .ok (.iload_n 1, 1) := by decide +kernel
theorem dX4_areAlikeAt_46 : decode cX4_areAlikeAt 46 = .ok (.imul, 1) := by decide +kernel
theorem dX4_areAlikeAt_47 : decode cX4_areAlikeAt 47 = .ok (.iload_n 2, 1) := by decide +kernel
theorem dX4_areAlikeAt_48 : decode cX4_areAlikeAt 48 = .ok (.iadd, 1) := by decide +kernel
theorem dX4_areAlikeAt_49 : decode cX4_areAlikeAt 49 = .ok (.iaload, 1) := by decide +kernel
theorem dX4_areAlikeAt_50 : decode cX4_areAlikeAt 50 = .ok (.if_icmp .ge 93, 3) := by decide +kernel
theorem dX4_areAlikeAt_53 : decode cX4_areAlikeAt 53 = .ok (.bipush 8, 2) := by decide +kernel
theorem dX4_areAlikeAt_55 : decode cX4_areAlikeAt 55 = .ok (.iload_n 1, 1) := by decide +kernel
theorem dX4_areAlikeAt_56 : decode cX4_areAlikeAt 56 = .ok (.imul, 1) := by decide +kernel
theorem dX4_areAlikeAt_57 : decode cX4_areAlikeAt 57 = .ok (.iconst 2, 1) := by decide +kernel
theorem dX4_areAlikeAt_58 : decode cX4_areAlikeAt 58 = .ok (.iload_n 2, 1) := by decide +kernel
theorem dX4_areAlikeAt_59 : decode cX4_areAlikeAt 59 = .ok (.imul, 1) := by decide +kernel
theorem dX4_areAlikeAt_60 : decode cX4_areAlikeAt 60 = .ok (.iadd, 1) := by decide +kernel
theorem dX4_areAlikeAt_61 : decode cX4_areAlikeAt 61 = .ok (.iload 5, 2) := by decide +kernel
theorem dX4_areAlikeAt_63 : decode cX4_areAlikeAt 63 = .ok (.iadd, 1) := by decide +kernel
theorem dX4_areAlikeAt_64 : decode cX4_areAlikeAt 64 = .ok (.istore 6, 2) := by decide +kernel
theorem dX4_areAlikeAt_66 : decode cX4_areAlikeAt 66 = .ok (.bipush 8, 2) := by decide +kernel
theorem dX4_areAlikeAt_68 : decode cX4_areAlikeAt 68 = .ok (.iload_n 1, 1) := by decide +kernel
theorem dX4_areAlikeAt_69 : decode cX4_areAlikeAt 69 = .ok (.imul, 1) := by decide +kernel
theorem dX4_areAlikeAt_70 : decode cX4_areAlikeAt 70 = .ok (.iconst 2, 1) := by decide +kernel
theorem dX4_areAlikeAt_71 : decode cX4_areAlikeAt 71 = .ok (.iload_n 3, 1) := by decide +kernel
theorem dX4_areAlikeAt_72 : decode cX4_areAlikeAt 72 = .ok (.imul, 1) := by decide +kernel
theorem dX4_areAlikeAt_73 : decode cX4_areAlikeAt 73 = .ok (.iadd, 1) := by decide +kernel
theorem dX4_areAlikeAt_74 : decode cX4_areAlikeAt 74 = .ok (.iload 5, 2) := by decide +kernel
theorem dX4_areAlikeAt_76 : decode cX4_areAlikeAt 76 = .ok (.iadd, 1) := by decide +kernel
theorem dX4_areAlikeAt_77 : decode cX4_areAlikeAt 77 = .ok (.istore 7, 2) := by decide +kernel
theorem dX4_areAlikeAt_79 : decode cX4_areAlikeAt 79 = .ok (.aload_n 0, 1) := by decide +kernel
theorem dX4_areAlikeAt_80 : decode cX4_areAlikeAt 80 = .ok (.getfield 76, 3) := by decide +kernel
theorem dX4_areAlikeAt_83 : decode cX4_areAlikeAt 83 = .ok (.iload 6, 2) := by decide +kernel
theorem dX4_areAlikeAt_85 : decode cX4_areAlikeAt 85 = .ok (.iaload, 1) := by decide +kernel
theorem dX4_areAlikeAt_86 : decode cX4_areAlikeAt 86 = .ok (.aload_n 0, 1) := by decide +kernel
theorem dX4_areAlikeAt_87 : decode cX4_areAlikeAt 87 = .ok (.getfield 76, 3) := by decide +kernel
theorem dX4_areAlikeAt_90 : decode cX4_areAlikeAt 90 = .ok (.iload 7, 2) := by decide +kernel
theorem dX4_areAlikeAt_92 : decode cX4_areAlikeAt 92 = .ok (.iaload, 1) := by decide +kernel
theorem dX4_areAlikeAt_93 : decode cX4_areAlikeAt 93 = .ok (.if_icmp .ne 41, 3) := by decide +kernel
theorem dX4_areAlikeAt_96 : decode cX4_areAlikeAt 96 = .ok (.aload_n 0, 1) := by decide +kernel
theorem dX4_areAlikeAt_97 : decode cX4_areAlikeAt 97 = .ok (.getfield 79, 3) := by decide +kernel
theorem dX4_areAlikeAt_100 : decode cX4_areAlikeAt 100 = .ok (.iload 6, 2) := by decide +kernel
theorem dX4_areAlikeAt_102 : decode cX4_areAlikeAt 102 = .ok (.iaload, 1) := by decide +kernel
theorem dX4_areAlikeAt_103 : decode cX4_areAlikeAt 103 = .ok (.aload_n 0, 1) := by decide +kernel
theorem dX4_areAlikeAt_104 : decode cX4_areAlikeAt 104 = .ok (.getfield 79, 3) := by decide +kernel
theorem dX4_areAlikeAt_107 : decode cX4_areAlikeAt 107 = .ok (.iload 7, 2) := by decide +kernel
theorem dX4_areAlikeAt_109 : decode cX4_areAlikeAt 109 = .ok (.iaload, 1) := by decide +kernel
theorem dX4_areAlikeAt_110 : decode cX4_areAlikeAt 110 = .ok (.if_icmp .ne 24, 3) := by decide +kernel
theorem dX4_areAlikeAt_113 : decode cX4_areAlikeAt 113 = .ok (.aload_n 0, 1) := by decide +kernel
theorem dX4_areAlikeAt_114 : decode cX4_areAlikeAt 114 = .ok (.getfield 82, 3) := by decide +kernel
theorem dX4_areAlikeAt_117 : decode cX4_areAlikeAt 117 = .ok (.iload 6, 2) := by decide +kernel
theorem dX4_areAlikeAt_119 : decode cX4_areAlikeAt 119 = .ok (.baload, 1) := by decide +kernel
theorem dX4_areAlikeAt_120 : decode cX4_areAlikeAt 120 = .ok (.aload_n 0, 1) := by decide +kernel
theorem dX4_areAlikeAt_121 : decode cX4_areAlikeAt 121 = .ok (.getfield 82, 3) := by decide +kernel
theorem dX4_areAlikeAt_124 : decode cX4_areAlikeAt 124 = .ok (.iload 7, 2) := by decide +kernel
theorem dX4_areAlikeAt_126 : decode cX4_areAlikeAt 126 = .ok (.baload, 1) := by decide +kernel
theorem dX4_areAlikeAt_127 : decode cX4_areAlikeAt 127 = .ok (.if_icmp .ne 7, 3) := by decide +kernel
theorem dX4_areAlikeAt_130 : decode cX4_areAlikeAt 130 = .ok (.iconst 1, 1) := by decide +kernel
theorem dX4_areAlikeAt_131 : decode cX4_areAlikeAt 131 = .ok (.goto 4, 3) := by decide +kernel
theorem dX4_areAlikeAt_134 : decode cX4_areAlikeAt 134 = .ok (.iconst 0, 1) := by decide +kernel
theorem dX4_areAlikeAt_135 : decode cX4_areAlikeAt 135 = .ok (.istore 4, 2) := by decide +kernel
theorem dX4_areAlikeAt_137 : decode cX4_areAlikeAt 137 = .ok (.iinc 5 1, 3) := by decide +kernel
theorem dX4_areAlikeAt_140 : decode cX4_areAlikeAt 140 = .ok (.goto (-107), 3) := by decide +kernel
theorem dX4_areAlikeAt_143 : decode cX4_areAlikeAt 143 = .ok (.iload 4, 2) := by decide +kernel
theorem dX4_areAlikeAt_145 : decode cX4_areAlikeAt 145 = .ok (.ireturn, 1) := by decide +kernel
theorem dX4_areAlike_0 : decode cX4_areAlike 0 = .ok (.aload_n 0, 1) := by decide +kernel
theorem dX4_areAlike_1 : decode cX4_areAlike 1 = .ok (.iload_n 1, 1) := by decide +kernel
theorem dX4_areAlike_2 : decode cX4_areAlike 2 = .ok (.invokevirtual 180, 3) := by decide +kernel
theorem dX4_areAlike_5 : decode cX4_areAlike 5 = .ok (.ifCond .eq 45, 3) := by decide +kernel
theorem dX4_areAlike_8 : decode cX4_areAlike 8 = .ok (.aload_n 0, 1) := by decide +kernel
theorem dX4_areAlike_9 : decode cX4_areAlike 9 = .ok (.iload_n 2, 1) := by decide +kernel
theorem dX4_areAlike_10 : decode cX4_areAlike 10 = .ok (.invokevirtual 180, 3) := by decide +kernel
theorem dX4_areAlike_13 : decode cX4_areAlike 13 = .ok (.ifCond .eq 37, 3) := by decide +kernel
theorem dX4_areAlike_16 : decode cX4_areAlike 16 = .ok (.aload_n 0, 1) := by decide +kernel
theorem dX4_areAlike_17 : decode cX4_areAlike 17 = .ok (.getfield 38, 3) := by decide +kernel
theorem dX4_areAlike_20 : decode cX4_areAlike 20 = .ok (.iload_n 1, 1) := by decide +kernel
theorem dX4_areAlike_21 : decode cX4_areAlike 21 = .ok (.iaload, 1) := by decide +kernel
theorem dX4_areAlike_22 : decode cX4_areAlike 22 = .ok (.aload_n 0, 1) := by decide +kernel
theorem dX4_areAlike_23 : decode cX4_areAlike 23 = .ok (.getfield 38, 3) := by decide +kernel
theorem dX4_areAlike_26 : decode cX4_areAlike 26 = .ok (.iload_n 2, 1) := by decide +kernel
theorem dX4_areAlike_27 : decode cX4_areAlike 27 = .ok (.iaload, 1) := by decide +kernel
theorem dX4_areAlike_28 : decode cX4_areAlike 28 = .ok (.if_icmp .ne 22, 3) := by decide +kernel
theorem dX4_areAlike_31 : decode cX4_areAlike 31 = .ok (.aload_n 0, 1) := by decide +kernel
theorem dX4_areAlike_32 : decode cX4_areAlike 32 = .ok (.getfield 42, 3) := by decide +kernel
theorem dX4_areAlike_35 : decode cX4_areAlike 35 = .ok (.iload_n 1, 1) := by decide +kernel
theorem dX4_areAlike_36 : decode cX4_areAlike 36 = .ok (.baload, 1) := by decide +kernel
theorem dX4_areAlike_37 : decode cX4_areAlike 37 = .ok (.aload_n 0, 1) := by decide +kernel
theorem dX4_areAlike_38 : decode cX4_areAlike 38 = .ok (.getfield 42, 3) := by decide +kernel
theorem dX4_areAlike_41 : decode cX4_areAlike 41 = .ok (.iload_n 2, 1) := by decide +kernel
theorem dX4_areAlike_42 : decode cX4_areAlike 42 = .ok (.baload, 1) := by decide +kernel
theorem dX4_areAlike_43 : decode cX4_areAlike 43 = .ok (.if_icmp .ne 7, 3) := by decide +kernel
theorem dX4_areAlike_46 : decode cX4_areAlike 46 = .ok (.iconst 1, 1) := by decide +kernel
theorem dX4_areAlike_47 : decode cX4_areAlike 47 = .ok (.goto 4, 3) := by decide +kernel
theorem dX4_areAlike_50 : decode cX4_areAlike 50 = .ok (.iconst 0, 1) := by decide +kernel
theorem dX4_areAlike_51 : decode cX4_areAlike 51 = .ok (.istore_n 3, 1) := by decide +kernel
theorem dX4_areAlike_52 : decode cX4_areAlike 52 = .ok (.iconst 0, 1) := by decide +kernel
theorem dX4_areAlike_53 : decode cX4_areAlike 53 = .ok (.istore 4, 2) := by decide +kernel
theorem dX4_areAlike_55 : decode cX4_areAlike 55 = .ok (.iload 4, 2) := by decide +kernel
theorem dX4_areAlike_57 : decode cX4_areAlike 57 = .ok (.aload_n 0, 1) := by decide +kernel
theorem dX4_areAlike_58 : decode cX4_areAlike 58 = .ok (.getfield 7, 3) := by decide +kernel
theorem dX4_areAlike_61 : decode cX4_areAlike 61 = .ok (.if_icmp .ge 42, 3) := by decide +kernel
theorem dX4_areAlike_64 : decode cX4_areAlike 64 = .ok (.iload_n 3, 1) := by decide +kernel
theorem dX4_areAlike_65 : decode cX4_areAlike 65 = .ok (.ifCond .eq 30, 3) := by decide +kernel
theorem dX4_areAlike_68 : decode cX4_areAlike 68 = .ok (.aload_n 0, 1) := by decide +kernel
theorem dX4_areAlike_69 : decode cX4_areAlike 69 = .ok (.getfield 70, 3) := by decide +kernel
theorem dX4_areAlike_72 : decode cX4_areAlike 72 = .ok (.iload 4, 2) := by decide +kernel
theorem dX4_areAlike_74 : decode cX4_areAlike 74 = .ok (.iaload, 1) := by decide +kernel
theorem dX4_areAlike_75 : decode cX4_areAlike 75 = .ok (.ldc 115, 2) := by decide +kernel
theorem dX4_areAlike_77 : decode cX4_areAlike 77 = .ok (.if_icmp .ne 14, 3) := by decide +kernel
theorem dX4_areAlike_80 : decode cX4_areAlike 80 = .ok (.aload_n 0, 1) := by decide +kernel
theorem dX4_areAlike_81 : decode cX4_areAlike 81 = .ok (.iload 4, 2) := by decide +kernel
theorem dX4_areAlike_83 : decode cX4_areAlike 83 = .ok (.iload_n 1, 1) := by decide +kernel
theorem dX4_areAlike_84 : decode cX4_areAlike 84 = .ok (.iload_n 2, 1) := by decide +kernel
theorem dX4_areAlike_85 : decode cX4_areAlike 85 = .ok (.invokevirtual 190, 3) := by decide +kernel
theorem dX4_areAlike_88 : decode cX4_areAlike 88 = .ok (.ifCond .eq 7, 3) := by decide +kernel
theorem dX4_areAlike_91 : decode cX4_areAlike 91 = .ok (.iconst 1, 1) := by decide +kernel
theorem dX4_areAlike_92 : decode cX4_areAlike 92 = .ok (.goto 4, 3) := by decide +kernel
theorem dX4_areAlike_95 : decode cX4_areAlike 95 = .ok (.iconst 0, 1) := by decide +kernel
theorem dX4_areAlike_96 : decode cX4_areAlike 96 = .ok (.istore_n 3, 1) := by decide +kernel
theorem dX4_areAlike_97 : decode cX4_areAlike 97 = .ok (.iinc 4 1, 3) := by decide +kernel
theorem dX4_areAlike_100 : decode cX4_areAlike 100 = .ok (.goto (-45), 3) := by decide +kernel
theorem dX4_areAlike_103 : decode cX4_areAlike 103 = .ok (.iload_n 3, 1) := by decide +kernel
theorem dX4_areAlike_104 : decode cX4_areAlike 104 = .ok (.ireturn, 1) := by decide +kernel
theorem dX4_sharedWith_0 : decode cX4_sharedWith 0 = .ok (.iconst 0, 1) := by decide +kernel
theorem dX4_sharedWith_1 : decode cX4_sharedWith 1 = .ok (.istore_n 2, 1) := by decide +kernel
theorem dX4_sharedWith_2 : decode cX4_sharedWith 2 = .ok (.iload_n 2, 1) := by decide +kernel
theorem dX4_sharedWith_3 : decode cX4_sharedWith 3 = .ok (.iload_n 1, 1) := by decide +kernel
theorem dX4_sharedWith_4 : decode cX4_sharedWith 4 = .ok (.if_icmp .ge 20, 3) := by decide +kernel
theorem dX4_sharedWith_7 : decode cX4_sharedWith 7 = .ok (.aload_n 0, 1) := by decide +kernel
theorem dX4_sharedWith_8 : decode cX4_sharedWith 8 = .ok (.iload_n 2, 1) := by decide +kernel
theorem dX4_sharedWith_9 : decode cX4_sharedWith 9 = .ok (.iload_n 1, 1) := by decide +kernel
theorem dX4_sharedWith_10 : decode cX4_sharedWith 10 = .ok (.invokevirtual 193, 3) := by decide +kernel
theorem dX4_sharedWith_13 : decode cX4_sharedWith 13 = .ok (.ifCond .eq 5, 3) := by decide +kernel
theorem dX4_sharedWith_16 : decode cX4_sharedWith 16 = .ok (.iload_n 2, 1) := by decide +kernel
theorem dX4_sharedWith_17 : decode cX4_sharedWith 17 = .ok (.ireturn, 1) := by decide +kernel
theorem dX4_sharedWith_18 : decode cX4_sharedWith 18 = .ok (.iinc 2 1, 3) := by decide +kernel
theorem dX4_sharedWith_21 : decode cX4_sharedWith 21 = .ok (.goto (-19), 3) := by decide +kernel
theorem dX4_sharedWith_24 : decode cX4_sharedWith 24 = .ok (.ldc 115, 2) := by decide +kernel
theorem dX4_sharedWith_26 : decode cX4_sharedWith 26 = .ok (.ireturn, 1) := by decide +kernel
theorem dX4_shares_0 : decode cX4_shares 0 = .ok (.aload_n 0, 1) := by decide +kernel
theorem dX4_shares_1 : decode cX4_shares 1 = .ok (.iconst 0, 1) := by decide +kernel
theorem dX4_shares_2 : decode cX4_shares 2 = .ok (.putfield 1, 3) := by decide +kernel
theorem dX4_shares_5 : decode cX4_shares 5 = .ok (.iload_n 1, 1) := by decide +kernel
theorem dX4_shares_6 : decode cX4_shares 6 = .ok (.invokestatic 120, 3) := by decide +kernel
theorem dX4_shares_9 : decode cX4_shares 9 = .ok (.ifCond .eq 11, 3) := by decide +kernel
theorem dX4_shares_12 : decode cX4_shares 12 = .ok (.aload_n 0, 1) := by decide +kernel
theorem dX4_shares_13 : decode cX4_shares 13 = .ok (.iload_n 1, 1) := by decide +kernel
theorem dX4_shares_14 : decode cX4_shares 14 = .ok (.invokevirtual 196, 3) := by decide +kernel
theorem dX4_shares_17 : decode cX4_shares 17 = .ok (.goto 5, 3) := by decide +kernel
theorem dX4_shares_20 : decode cX4_shares 20 = .ok (.ldc 123, 2) := by decide +kernel
theorem dX4_shares_22 : decode cX4_shares 22 = .ok (.ireturn, 1) := by decide +kernel
theorem dX4_row_0 : decode cX4_row 0 = .ok (.aload_n 0, 1) := by decide +kernel
theorem dX4_row_1 : decode cX4_row 1 = .ok (.iconst 0, 1) := by decide +kernel
theorem dX4_row_2 : decode cX4_row 2 = .ok (.putfield 1, 3) := by decide +kernel
theorem dX4_row_5 : decode cX4_row 5 = .ok (.iload_n 1, 1) := by decide +kernel
theorem dX4_row_6 : decode cX4_row 6 = .ok (.invokestatic 120, 3) := by decide +kernel
theorem dX4_row_9 : decode cX4_row 9 = .ok (.ifCond .ne 6, 3) := by decide +kernel
theorem dX4_row_12 : decode cX4_row 12 = .ok (.ldc 123, 2) := by decide +kernel
theorem dX4_row_14 : decode cX4_row 14 = .ok (.ireturn, 1) := by decide +kernel
theorem dX4_row_15 : decode cX4_row 15 = .ok (.aload_n 0, 1) := by decide +kernel
theorem dX4_row_16 : decode cX4_row 16 = .ok (.iload_n 1, 1) := by decide +kernel
theorem dX4_row_17 : decode cX4_row 17 = .ok (.invokevirtual 180, 3) := by decide +kernel
theorem dX4_row_20 : decode cX4_row 20 = .ok (.ifCond .ne 6, 3) := by decide +kernel
theorem dX4_row_23 : decode cX4_row 23 = .ok (.ldc 115, 2) := by decide +kernel
theorem dX4_row_25 : decode cX4_row 25 = .ok (.ireturn, 1) := by decide +kernel
theorem dX4_row_26 : decode cX4_row 26 = .ok (.aload_n 0, 1) := by decide +kernel
theorem dX4_row_27 : decode cX4_row 27 = .ok (.iload_n 1, 1) := by decide +kernel
theorem dX4_row_28 : decode cX4_row 28 = .ok (.invokevirtual 196, 3) := by decide +kernel
theorem dX4_row_31 : decode cX4_row 31 = .ok (.ldc 115, 2) := by decide +kernel
theorem dX4_row_33 : decode cX4_row 33 = .ok (.if_icmp .ne 7, 3) := by decide +kernel
theorem dX4_row_36 : decode cX4_row 36 = .ok (.iload_n 1, 1) := by decide +kernel
theorem dX4_row_37 : decode cX4_row 37 = .ok (.goto 8, 3) := by decide +kernel
theorem dX4_row_40 : decode cX4_row 40 = .ok (.aload_n 0, 1) := by decide +kernel
theorem dX4_row_41 : decode cX4_row 41 = .ok (.iload_n 1, 1) := by decide +kernel
theorem dX4_row_42 : decode cX4_row 42 = .ok (.invokevirtual 196, 3) := by decide +kernel
theorem dX4_row_45 : decode cX4_row 45 = .ok (.istore_n 2, 1) := by decide +kernel
theorem dX4_row_46 : decode cX4_row 46 = .ok (.iconst 0, 1) := by decide +kernel
theorem dX4_row_47 : decode cX4_row 47 = .ok (.istore_n 3, 1) := by decide +kernel
theorem dX4_row_48 : decode cX4_row 48 = .ok (.iconst 0, 1) := by decide +kernel
theorem dX4_row_49 : decode cX4_row 49 = .ok (.istore 4, 2) := by decide +kernel
theorem dX4_row_51 : decode cX4_row 51 = .ok (.iload 4, 2) := by decide +kernel
theorem dX4_row_53 : decode cX4_row 53 = .ok (.iload_n 2, 1) := by decide +kernel
theorem dX4_row_54 : decode cX4_row 54 = .ok (.if_icmp .ge 37, 3) := by decide +kernel
theorem dX4_row_57 : decode cX4_row 57 = .ok (.iload_n 3, 1) := by decide +kernel
theorem dX4_row_58 : decode cX4_row 58 = .ok (.aload_n 0, 1) := by decide +kernel
theorem dX4_row_59 : decode cX4_row 59 = .ok (.iload 4, 2) := by decide +kernel
theorem dX4_row_61 : decode cX4_row 61 = .ok (.invokevirtual 180, 3) := by decide +kernel
theorem dX4_row_64 : decode cX4_row 64 = .ok (.ifCond .eq 18, 3) := by decide +kernel
theorem dX4_row_67 : decode cX4_row 67 = .ok (.aload_n 0, 1) := by decide +kernel
theorem dX4_row_68 : decode cX4_row 68 = .ok (.iload 4, 2) := by decide +kernel
theorem dX4_row_70 : decode cX4_row 70 = .ok (.invokevirtual 196, 3) := by decide +kernel
theorem dX4_row_73 : decode cX4_row 73 = .ok (.ldc 115, 2) := by decide +kernel
theorem dX4_row_75 : decode cX4_row 75 = .ok (.if_icmp .ne 7, 3) := by decide +kernel
theorem dX4_row_78 : decode cX4_row 78 = .ok (.iconst 1, 1) := by decide +kernel
theorem dX4_row_79 : decode cX4_row 79 = .ok (.goto 4, 3) := by decide +kernel
theorem dX4_row_82 : decode cX4_row 82 = .ok (.iconst 0, 1) := by decide +kernel
theorem dX4_row_83 : decode cX4_row 83 = .ok (.iadd, 1) := by decide +kernel
theorem dX4_row_84 : decode cX4_row 84 = .ok (.istore_n 3, 1) := by decide +kernel
theorem dX4_row_85 : decode cX4_row 85 = .ok (.iinc 4 1, 3) := by decide +kernel
theorem dX4_row_88 : decode cX4_row 88 = .ok (.goto (-37), 3) := by decide +kernel
theorem dX4_row_91 : decode cX4_row 91 = .ok (.iload_n 3, 1) := by decide +kernel
theorem dX4_row_92 : decode cX4_row 92 = .ok (.ireturn, 1) := by decide +kernel
theorem dX4_in_0 : decode cX4_in 0 = .ok (.aload_n 0, 1) := by decide +kernel
theorem dX4_in_1 : decode cX4_in 1 = .ok (.iconst 0, 1) := by decide +kernel
theorem dX4_in_2 : decode cX4_in 2 = .ok (.putfield 1, 3) := by decide +kernel
theorem dX4_in_5 : decode cX4_in 5 = .ok (.aload_n 0, 1) := by decide +kernel
theorem dX4_in_6 : decode cX4_in 6 = .ok (.iload_n 1, 1) := by decide +kernel
theorem dX4_in_7 : decode cX4_in 7 = .ok (.invokevirtual 116, 3) := by decide +kernel
theorem dX4_in_10 : decode cX4_in 10 = .ok (.ifCond .ne 6, 3) := by decide +kernel
theorem dX4_in_13 : decode cX4_in 13 = .ok (.ldc 123, 2) := by decide +kernel
theorem dX4_in_15 : decode cX4_in 15 = .ok (.ireturn, 1) := by decide +kernel
theorem dX4_in_16 : decode cX4_in 16 = .ok (.iload_n 2, 1) := by decide +kernel
theorem dX4_in_17 : decode cX4_in 17 = .ok (.ifCond .ne 12, 3) := by decide +kernel
theorem dX4_in_20 : decode cX4_in 20 = .ok (.aload_n 0, 1) := by decide +kernel
theorem dX4_in_21 : decode cX4_in 21 = .ok (.getfield 64, 3) := by decide +kernel
theorem dX4_in_24 : decode cX4_in 24 = .ok (.iload_n 1, 1) := by decide +kernel
theorem dX4_in_25 : decode cX4_in 25 = .ok (.iaload, 1) := by decide +kernel
theorem dX4_in_26 : decode cX4_in 26 = .ok (.goto 19, 3) := by decide +kernel
theorem dX4_in_29 : decode cX4_in 29 = .ok (.iload_n 2, 1) := by decide +kernel
theorem dX4_in_30 : decode cX4_in 30 = .ok (.iconst 1, 1) := by decide +kernel
theorem dX4_in_31 : decode cX4_in 31 = .ok (.if_icmp .ne 12, 3) := by decide +kernel
theorem dX4_in_34 : decode cX4_in 34 = .ok (.aload_n 0, 1) := by decide +kernel
theorem dX4_in_35 : decode cX4_in 35 = .ok (.getfield 70, 3) := by decide +kernel
theorem dX4_in_38 : decode cX4_in 38 = .ok (.iload_n 1, 1) := by decide +kernel
theorem dX4_in_39 : decode cX4_in 39 = .ok (.iaload, 1) := by decide +kernel
theorem dX4_in_40 : decode cX4_in 40 = .ok (.goto 5, 3) := by decide +kernel
theorem dX4_in_43 : decode cX4_in 43 = .ok (.ldc 113, 2) := by decide +kernel
theorem dX4_in_45 : decode cX4_in 45 = .ok (.ireturn, 1) := by decide +kernel
theorem dX4_pattern_0 : decode cX4_pattern 0 = .ok (.aload_n 0, 1) := by decide +kernel
theorem dX4_pattern_1 : decode cX4_pattern 1 = .ok (.iconst 0, 1) := by decide +kernel
theorem dX4_pattern_2 : decode cX4_pattern 2 = .ok (.putfield 1, 3) := by decide +kernel
theorem dX4_pattern_5 : decode cX4_pattern 5 = .ok (.lload_n 1, 1) := by decide +kernel
theorem dX4_pattern_6 : decode cX4_pattern 6 = .ok (.lconst 1, 1) := by decide +kernel
theorem dX4_pattern_7 : decode cX4_pattern 7 = .ok (.lcmp, 1) := by decide +kernel
theorem dX4_pattern_8 : decode cX4_pattern 8 = .ok (.ifCond .lt 7, 3) := by decide +kernel
theorem dX4_pattern_11 : decode cX4_pattern 11 = .ok (.iload_n 3, 1) := by decide +kernel
theorem dX4_pattern_12 : decode cX4_pattern 12 = .ok (.ifCond .ge 6, 3) := by decide +kernel
theorem dX4_pattern_15 : decode cX4_pattern 15 = .ok (.ldc 113, 2) := by decide +kernel
theorem dX4_pattern_17 : decode cX4_pattern 17 = .ok (.ireturn, 1) := by decide +kernel
theorem dX4_pattern_18 : decode cX4_pattern 18 = .ok (.iconst 0, 1) := by decide +kernel
theorem dX4_pattern_19 : decode cX4_pattern 19 = .ok (.istore 4, 2) := by decide +kernel
theorem dX4_pattern_21 : decode cX4_pattern 21 = .ok (.lload_n 1, 1) := by decide +kernel
theorem dX4_pattern_22 : decode cX4_pattern 22 = .ok (.lstore 5, 2) := by decide +kernel
theorem dX4_pattern_24 : decode cX4_pattern 24 = .ok (.bipush 10, 2) := by decide +kernel
theorem dX4_pattern_26 : decode cX4_pattern 26 = .ok (.istore 7, 2) := by decide +kernel
theorem dX4_pattern_28 : decode cX4_pattern 28 = .ok (.iconst 1, 1) := by decide +kernel
theorem dX4_pattern_29 : decode cX4_pattern 29 = .ok (.istore 8, 2) := by decide +kernel
theorem dX4_pattern_31 : decode cX4_pattern 31 = .ok (.iconst 0, 1) := by decide +kernel
theorem dX4_pattern_32 : decode cX4_pattern 32 = .ok (.istore 9, 2) := by decide +kernel
theorem dX4_pattern_34 : decode cX4_pattern 34 = .ok (.lload 5, 2) := by decide +kernel
theorem dX4_pattern_36 : decode cX4_pattern 36 = .ok (.ldc2_w 199, 3) := by decide +kernel
theorem dX4_pattern_39 : decode cX4_pattern 39 = .ok (.land, 1) := by decide +kernel
theorem dX4_pattern_40 : decode cX4_pattern 40 = .ok (.lconst 0, 1) := by decide +kernel
theorem dX4_pattern_41 : decode cX4_pattern 41 = .ok (.lcmp, 1) := by decide +kernel
theorem dX4_pattern_42 : decode cX4_pattern 42 = .ok (.ifCond .eq 107, 3) := by decide +kernel
theorem dX4_pattern_45 : decode cX4_pattern 45 = .ok (.lload 5, 2) := by decide +kernel
theorem dX4_pattern_47 : decode cX4_pattern 47 = .ok (.ldc2_w 199, 3) := by decide +kernel
theorem dX4_pattern_50 : decode cX4_pattern 50 = .ok (.land, 1) := by decide +kernel
theorem dX4_pattern_51 : decode cX4_pattern 51 = .ok (.l2i, 1) := by decide +kernel
theorem dX4_pattern_52 : decode cX4_pattern 52 = .ok (.istore 10, 2) := by decide +kernel
theorem dX4_pattern_54 : decode cX4_pattern 54 = .ok (.lload 5, 2) := by decide +kernel
theorem dX4_pattern_56 : decode cX4_pattern 56 = .ok (.iconst 5, 1) := by decide +kernel
theorem dX4_pattern_57 : decode cX4_pattern 57 = .ok (.lshr, 1) := by decide +kernel
theorem dX4_pattern_58 : decode cX4_pattern 58 = .ok (.lstore 5, 2) := by decide +kernel
theorem dX4_pattern_60 : decode cX4_pattern 60 = .ok (.iload 8, 2) := by decide +kernel
theorem dX4_pattern_62 : decode cX4_pattern 62 = .ok (.ifCond .eq 40, 3) := by decide +kernel
theorem dX4_pattern_65 : decode cX4_pattern 65 = .ok (.iload 4, 2) := by decide +kernel
theorem dX4_pattern_67 : decode cX4_pattern 67 = .ok (.bipush 6, 2) := by decide +kernel
theorem dX4_pattern_69 : decode cX4_pattern 69 = .ok (.if_icmp .ge 33, 3) := by decide +kernel
theorem dX4_pattern_72 : decode cX4_pattern 72 = .ok (.iload 10, 2) := by decide +kernel
theorem dX4_pattern_74 : decode cX4_pattern 74 = .ok (.bipush 28, 2) := by decide +kernel
theorem dX4_pattern_76 : decode cX4_pattern 76 = .ok (.if_icmp .ge 26, 3) := by decide +kernel
theorem dX4_pattern_79 : decode cX4_pattern 79 = .ok (.iload 10, 2) := by decide +kernel
theorem dX4_pattern_81 : decode cX4_pattern 81 = .ok (.bipush 27, 2) := by decide +kernel
theorem dX4_pattern_83 : decode cX4_pattern 83 = .ok (.if_icmp .lt 15, 3) := by decide +kernel
theorem dX4_pattern_86 : decode cX4_pattern 86 = .ok (.iload 4, 2) := by decide +kernel
theorem dX4_pattern_88 : decode cX4_pattern 88 = .ok (.ifCond .eq 10, 3) := by decide +kernel
theorem dX4_pattern_91 : decode cX4_pattern 91 = .ok (.lload 5, 2) := by decide +kernel
theorem dX4_pattern_93 : decode cX4_pattern 93 = .ok (.lconst 0, 1) := by decide +kernel
theorem dX4_pattern_94 : decode cX4_pattern 94 = .ok (.lcmp, 1) := by decide +kernel
theorem dX4_pattern_95 : decode cX4_pattern 95 = .ok (.ifCond .ne 7, 3) := by decide +kernel
theorem dX4_pattern_98 : decode cX4_pattern 98 = .ok (.iconst 1, 1) := by decide +kernel
theorem dX4_pattern_99 : decode cX4_pattern 99 = .ok (.goto 4, 3) := by decide +kernel
theorem dX4_pattern_102 : decode cX4_pattern 102 = .ok (.iconst 0, 1) := by decide +kernel
theorem dX4_pattern_103 : decode cX4_pattern 103 = .ok (.istore 8, 2) := by decide +kernel
theorem dX4_pattern_105 : decode cX4_pattern 105 = .ok (.iload 9, 2) := by decide +kernel
theorem dX4_pattern_107 : decode cX4_pattern 107 = .ok (.ifCond .ne 10, 3) := by decide +kernel
theorem dX4_pattern_110 : decode cX4_pattern 110 = .ok (.iload 10, 2) := by decide +kernel
theorem dX4_pattern_112 : decode cX4_pattern 112 = .ok (.bipush 27, 2) := by decide +kernel
theorem dX4_pattern_114 : decode cX4_pattern 114 = .ok (.if_icmp .ge 7, 3) := by decide +kernel
theorem dX4_pattern_117 : decode cX4_pattern 117 = .ok (.iconst 1, 1) := by decide +kernel
theorem dX4_pattern_118 : decode cX4_pattern 118 = .ok (.goto 4, 3) := by decide +kernel
theorem dX4_pattern_121 : decode cX4_pattern 121 = .ok (.iconst 0, 1) := by decide +kernel
theorem dX4_pattern_122 : decode cX4_pattern 122 = .ok (.istore 9, 2) := by decide +kernel
theorem dX4_pattern_124 : decode cX4_pattern 124 = .ok (.iload 4, 2) := by decide +kernel
theorem dX4_pattern_126 : decode cX4_pattern 126 = .ok (.bipush 6, 2) := by decide +kernel
theorem dX4_pattern_128 : decode cX4_pattern 128 = .ok (.if_icmp .ge 11, 3) := by decide +kernel
theorem dX4_pattern_131 : decode cX4_pattern 131 = .ok (.bipush 10, 2) := by decide +kernel
theorem dX4_pattern_133 : decode cX4_pattern 133 = .ok (.iload 7, 2) := by decide +kernel
theorem dX4_pattern_135 : decode cX4_pattern 135 = .ok (.imul, 1) := by decide +kernel
theorem dX4_pattern_136 : decode cX4_pattern 136 = .ok (.goto 5, 3) := by decide +kernel
theorem dX4_pattern_139 : decode cX4_pattern 139 = .ok (.iload 7, 2) := by decide +kernel
theorem dX4_pattern_141 : decode cX4_pattern 141 = .ok (.istore 7, 2) := by decide +kernel
theorem dX4_pattern_143 : decode cX4_pattern 143 = .ok (.iinc 4 1, 3) := by decide +kernel
theorem dX4_pattern_146 : decode cX4_pattern 146 = .ok (.goto (-112), 3) := by decide +kernel
theorem dX4_pattern_149 : decode cX4_pattern 149 = .ok (.iload 8, 2) := by decide +kernel
theorem dX4_pattern_151 : decode cX4_pattern 151 = .ok (.ifCond .eq 21, 3) := by decide +kernel
theorem dX4_pattern_154 : decode cX4_pattern 154 = .ok (.iload 9, 2) := by decide +kernel
theorem dX4_pattern_156 : decode cX4_pattern 156 = .ok (.ifCond .eq 16, 3) := by decide +kernel
theorem dX4_pattern_159 : decode cX4_pattern 159 = .ok (.lload 5, 2) := by decide +kernel
theorem dX4_pattern_161 : decode cX4_pattern 161 = .ok (.lconst 0, 1) := by decide +kernel
theorem dX4_pattern_162 : decode cX4_pattern 162 = .ok (.lcmp, 1) := by decide +kernel
theorem dX4_pattern_163 : decode cX4_pattern 163 = .ok (.ifCond .ne 9, 3) := by decide +kernel
theorem dX4_pattern_166 : decode cX4_pattern 166 = .ok (.iload_n 3, 1) := by decide +kernel
theorem dX4_pattern_167 : decode cX4_pattern 167 = .ok (.iload 7, 2) := by decide +kernel
theorem dX4_pattern_169 : decode cX4_pattern 169 = .ok (.if_icmp .lt 6, 3) := by decide +kernel
theorem dX4_pattern_172 : decode cX4_pattern 172 = .ok (.ldc 113, 2) := by decide +kernel
theorem dX4_pattern_174 : decode cX4_pattern 174 = .ok (.ireturn, 1) := by decide +kernel
theorem dX4_pattern_175 : decode cX4_pattern 175 = .ok (.aload_n 0, 1) := by decide +kernel
theorem dX4_pattern_176 : decode cX4_pattern 176 = .ok (.getfield 23, 3) := by decide +kernel
theorem dX4_pattern_179 : decode cX4_pattern 179 = .ok (.bipush 30, 2) := by decide +kernel
theorem dX4_pattern_181 : decode cX4_pattern 181 = .ok (.if_icmp .ne 6, 3) := by decide +kernel
theorem dX4_pattern_184 : decode cX4_pattern 184 = .ok (.ldc 114, 2) := by decide +kernel
theorem dX4_pattern_186 : decode cX4_pattern 186 = .ok (.ireturn, 1) := by decide +kernel
theorem dX4_pattern_187 : decode cX4_pattern 187 = .ok (.iload_n 3, 1) := by decide +kernel
theorem dX4_pattern_188 : decode cX4_pattern 188 = .ok (.istore 10, 2) := by decide +kernel
theorem dX4_pattern_190 : decode cX4_pattern 190 = .ok (.iconst 0, 1) := by decide +kernel
theorem dX4_pattern_191 : decode cX4_pattern 191 = .ok (.istore 11, 2) := by decide +kernel
theorem dX4_pattern_193 : decode cX4_pattern 193 = .ok (.iload 11, 2) := by decide +kernel
theorem dX4_pattern_195 : decode cX4_pattern 195 = .ok (.iload 4, 2) := by decide +kernel
theorem dX4_pattern_197 : decode cX4_pattern 197 = .ok (.if_icmp .gt 69, 3) := by decide +kernel
theorem dX4_pattern_200 : decode cX4_pattern 200 = .ok (.aload_n 0, 1) := by decide +kernel
theorem dX4_pattern_201 : decode cX4_pattern 201 = .ok (.getfield 97, 3) := by decide +kernel
theorem dX4_pattern_204 : decode cX4_pattern 204 = .ok (.bipush 7, 2) := by decide +kernel
theorem dX4_pattern_206 : decode cX4_pattern 206 = .ok (.aload_n 0, 1) := by decide +kernel
theorem dX4_pattern_207 : decode cX4_pattern 207 = .ok (.getfield 23, 3) := by decide +kernel
theorem dX4_pattern_210 : decode cX4_pattern 210 = .ok (.imul, 1) := by decide +kernel
theorem dX4_pattern_211 : decode cX4_pattern 211 = .ok (.iload 11, 2) := by decide +kernel
theorem dX4_pattern_213 : decode cX4_pattern 213 = .ok (.iadd, 1) := by decide +kernel
theorem dX4_pattern_214 : decode cX4_pattern 214 = .ok (.iload 10, 2) := by decide +kernel
theorem dX4_pattern_216 : decode cX4_pattern 216 = .ok (.bipush 10, 2) := by decide +kernel
theorem dX4_pattern_218 : decode cX4_pattern 218 = .ok (.irem, 1) := by decide +kernel
theorem dX4_pattern_219 : decode cX4_pattern 219 = .ok (.iastore, 1) := by decide +kernel
theorem dX4_pattern_220 : decode cX4_pattern 220 = .ok (.iload 10, 2) := by decide +kernel
theorem dX4_pattern_222 : decode cX4_pattern 222 = .ok (.bipush 10, 2) := by decide +kernel
theorem dX4_pattern_224 : decode cX4_pattern 224 = .ok (.idiv, 1) := by decide +kernel
theorem dX4_pattern_225 : decode cX4_pattern 225 = .ok (.istore 10, 2) := by decide +kernel
theorem dX4_pattern_227 : decode cX4_pattern 227 = .ok (.iload 11, 2) := by decide +kernel
theorem dX4_pattern_229 : decode cX4_pattern 229 = .ok (.iload 4, 2) := by decide +kernel
theorem dX4_pattern_231 : decode cX4_pattern 231 = .ok (.if_icmp .ge 29, 3) := by decide +kernel
theorem dX4_pattern_234 : decode cX4_pattern 234 = .ok (.aload_n 0, 1) := by decide +kernel
theorem dX4_pattern_235 : decode cX4_pattern 235 = .ok (.getfield 94, 3) := by decide +kernel
theorem dX4_pattern_238 : decode cX4_pattern 238 = .ok (.bipush 6, 2) := by decide +kernel
theorem dX4_pattern_240 : decode cX4_pattern 240 = .ok (.aload_n 0, 1) := by decide +kernel
theorem dX4_pattern_241 : decode cX4_pattern 241 = .ok (.getfield 23, 3) := by decide +kernel
theorem dX4_pattern_244 : decode cX4_pattern 244 = .ok (.imul, 1) := by decide +kernel
theorem dX4_pattern_245 : decode cX4_pattern 245 = .ok (.iload 11, 2) := by decide +kernel
theorem dX4_pattern_247 : decode cX4_pattern 247 = .ok (.iadd, 1) := by decide +kernel
theorem dX4_pattern_248 : decode cX4_pattern 248 = .ok (.lload_n 1, 1) := by decide +kernel
theorem dX4_pattern_249 : decode cX4_pattern 249 = .ok (.iconst 5, 1) := by decide +kernel
theorem dX4_pattern_250 : decode cX4_pattern 250 = .ok (.iload 11, 2) := by decide +kernel
theorem dX4_pattern_252 : decode cX4_pattern 252 = .ok (.imul, 1) := by decide +kernel
theorem dX4_pattern_253 : decode cX4_pattern 253 = .ok (.lshr, 1) := by decide +kernel
theorem dX4_pattern_254 : decode cX4_pattern 254 = .ok (.ldc2_w 199, 3) := by decide +kernel
theorem dX4_pattern_257 : decode cX4_pattern 257 = .ok (.land, 1) := by decide +kernel
theorem dX4_pattern_258 : decode cX4_pattern 258 = .ok (.l2i, 1) := by decide +kernel
theorem dX4_pattern_259 : decode cX4_pattern 259 = .ok (.iastore, 1) := by decide +kernel
theorem dX4_pattern_260 : decode cX4_pattern 260 = .ok (.iinc 11 1, 3) := by decide +kernel
theorem dX4_pattern_263 : decode cX4_pattern 263 = .ok (.goto (-70), 3) := by decide +kernel
theorem dX4_pattern_266 : decode cX4_pattern 266 = .ok (.aload_n 0, 1) := by decide +kernel
theorem dX4_pattern_267 : decode cX4_pattern 267 = .ok (.getfield 91, 3) := by decide +kernel
theorem dX4_pattern_270 : decode cX4_pattern 270 = .ok (.aload_n 0, 1) := by decide +kernel
theorem dX4_pattern_271 : decode cX4_pattern 271 = .ok (.getfield 23, 3) := by decide +kernel
theorem dX4_pattern_274 : decode cX4_pattern 274 = .ok (.iload 4, 2) := by decide +kernel
theorem dX4_pattern_276 : decode cX4_pattern 276 = .ok (.iastore, 1) := by decide +kernel
theorem dX4_pattern_277 : decode cX4_pattern 277 = .ok (.aload_n 0, 1) := by decide +kernel
theorem dX4_pattern_278 : decode cX4_pattern 278 = .ok (.dup, 1) := by decide +kernel
theorem dX4_pattern_279 : decode cX4_pattern 279 = .ok (.getfield 23, 3) := by decide +kernel
theorem dX4_pattern_282 : decode cX4_pattern 282 = .ok (.iconst 1, 1) := by decide +kernel
theorem dX4_pattern_283 : decode cX4_pattern 283 = .ok (.iadd, 1) := by decide +kernel
theorem dX4_pattern_284 : decode cX4_pattern 284 = .ok (.putfield 23, 3) := by decide +kernel
theorem dX4_pattern_287 : decode cX4_pattern 287 = .ok (.aload_n 0, 1) := by decide +kernel
theorem dX4_pattern_288 : decode cX4_pattern 288 = .ok (.getfield 23, 3) := by decide +kernel
theorem dX4_pattern_291 : decode cX4_pattern 291 = .ok (.iconst 1, 1) := by decide +kernel
theorem dX4_pattern_292 : decode cX4_pattern 292 = .ok (.isub, 1) := by decide +kernel
theorem dX4_pattern_293 : decode cX4_pattern 293 = .ok (.ireturn, 1) := by decide +kernel
theorem dX4_letter_0 : decode cX4_letter 0 = .ok (.aload_n 0, 1) := by decide +kernel
theorem dX4_letter_1 : decode cX4_letter 1 = .ok (.iconst 0, 1) := by decide +kernel
theorem dX4_letter_2 : decode cX4_letter 2 = .ok (.putfield 1, 3) := by decide +kernel
theorem dX4_letter_5 : decode cX4_letter 5 = .ok (.iload_n 1, 1) := by decide +kernel
theorem dX4_letter_6 : decode cX4_letter 6 = .ok (.iconst 0, 1) := by decide +kernel
theorem dX4_letter_7 : decode cX4_letter 7 = .ok (.bipush 26, 2) := by decide +kernel
theorem dX4_letter_9 : decode cX4_letter 9 = .ok (.invokestatic 109, 3) := by decide +kernel
theorem dX4_letter_12 : decode cX4_letter 12 = .ok (.ifCond .ne 6, 3) := by decide +kernel
theorem dX4_letter_15 : decode cX4_letter 15 = .ok (.ldc 113, 2) := by decide +kernel
theorem dX4_letter_17 : decode cX4_letter 17 = .ok (.ireturn, 1) := by decide +kernel
theorem dX4_letter_18 : decode cX4_letter 18 = .ok (.iload_n 1, 1) := by decide +kernel
theorem dX4_letter_19 : decode cX4_letter 19 = .ok (.ifCond .ne 10, 3) := by decide +kernel
theorem dX4_letter_22 : decode cX4_letter 22 = .ok (.aload_n 0, 1) := by decide +kernel
theorem dX4_letter_23 : decode cX4_letter 23 = .ok (.iconst 0, 1) := by decide +kernel
theorem dX4_letter_24 : decode cX4_letter 24 = .ok (.putfield 26, 3) := by decide +kernel
theorem dX4_letter_27 : decode cX4_letter 27 = .ok (.iconst 0, 1) := by decide +kernel
theorem dX4_letter_28 : decode cX4_letter 28 = .ok (.ireturn, 1) := by decide +kernel
theorem dX4_letter_29 : decode cX4_letter 29 = .ok (.aload_n 0, 1) := by decide +kernel
theorem dX4_letter_30 : decode cX4_letter 30 = .ok (.getfield 26, 3) := by decide +kernel
theorem dX4_letter_33 : decode cX4_letter 33 = .ok (.bipush 24, 2) := by decide +kernel
theorem dX4_letter_35 : decode cX4_letter 35 = .ok (.if_icmp .ne 6, 3) := by decide +kernel
theorem dX4_letter_38 : decode cX4_letter 38 = .ok (.ldc 114, 2) := by decide +kernel
theorem dX4_letter_40 : decode cX4_letter 40 = .ok (.ireturn, 1) := by decide +kernel
theorem dX4_letter_41 : decode cX4_letter 41 = .ok (.aload_n 0, 1) := by decide +kernel
theorem dX4_letter_42 : decode cX4_letter 42 = .ok (.getfield 100, 3) := by decide +kernel
theorem dX4_letter_45 : decode cX4_letter 45 = .ok (.aload_n 0, 1) := by decide +kernel
theorem dX4_letter_46 : decode cX4_letter 46 = .ok (.getfield 26, 3) := by decide +kernel
theorem dX4_letter_49 : decode cX4_letter 49 = .ok (.iload_n 1, 1) := by decide +kernel
theorem dX4_letter_50 : decode cX4_letter 50 = .ok (.iastore, 1) := by decide +kernel
theorem dX4_letter_51 : decode cX4_letter 51 = .ok (.aload_n 0, 1) := by decide +kernel
theorem dX4_letter_52 : decode cX4_letter 52 = .ok (.dup, 1) := by decide +kernel
theorem dX4_letter_53 : decode cX4_letter 53 = .ok (.getfield 26, 3) := by decide +kernel
theorem dX4_letter_56 : decode cX4_letter 56 = .ok (.iconst 1, 1) := by decide +kernel
theorem dX4_letter_57 : decode cX4_letter 57 = .ok (.iadd, 1) := by decide +kernel
theorem dX4_letter_58 : decode cX4_letter 58 = .ok (.putfield 26, 3) := by decide +kernel
theorem dX4_letter_61 : decode cX4_letter 61 = .ok (.aload_n 0, 1) := by decide +kernel
theorem dX4_letter_62 : decode cX4_letter 62 = .ok (.getfield 26, 3) := by decide +kernel
theorem dX4_letter_65 : decode cX4_letter 65 = .ok (.ireturn, 1) := by decide +kernel
theorem dX4_sides_0 : decode cX4_sides 0 = .ok (.aload_n 0, 1) := by decide +kernel
theorem dX4_sides_1 : decode cX4_sides 1 = .ok (.iconst 0, 1) := by decide +kernel
theorem dX4_sides_2 : decode cX4_sides 2 = .ok (.putfield 1, 3) := by decide +kernel
theorem dX4_sides_5 : decode cX4_sides 5 = .ok (.iload_n 1, 1) := by decide +kernel
theorem dX4_sides_6 : decode cX4_sides 6 = .ok (.iconst 0, 1) := by decide +kernel
theorem dX4_sides_7 : decode cX4_sides 7 = .ok (.iconst 1, 1) := by decide +kernel
theorem dX4_sides_8 : decode cX4_sides 8 = .ok (.invokestatic 109, 3) := by decide +kernel
theorem dX4_sides_11 : decode cX4_sides 11 = .ok (.ifCond .eq 13, 3) := by decide +kernel
theorem dX4_sides_14 : decode cX4_sides 14 = .ok (.iload_n 2, 1) := by decide +kernel
theorem dX4_sides_15 : decode cX4_sides 15 = .ok (.iconst 1, 1) := by decide +kernel
theorem dX4_sides_16 : decode cX4_sides 16 = .ok (.bipush 24, 2) := by decide +kernel
theorem dX4_sides_18 : decode cX4_sides 18 = .ok (.invokestatic 109, 3) := by decide +kernel
theorem dX4_sides_21 : decode cX4_sides 21 = .ok (.ifCond .ne 6, 3) := by decide +kernel
theorem dX4_sides_24 : decode cX4_sides 24 = .ok (.ldc 113, 2) := by decide +kernel
theorem dX4_sides_26 : decode cX4_sides 26 = .ok (.ireturn, 1) := by decide +kernel
theorem dX4_sides_27 : decode cX4_sides 27 = .ok (.iload_n 1, 1) := by decide +kernel
theorem dX4_sides_28 : decode cX4_sides 28 = .ok (.ifCond .ne 10, 3) := by decide +kernel
theorem dX4_sides_31 : decode cX4_sides 31 = .ok (.aload_n 0, 1) := by decide +kernel
theorem dX4_sides_32 : decode cX4_sides 32 = .ok (.getfield 29, 3) := by decide +kernel
theorem dX4_sides_35 : decode cX4_sides 35 = .ok (.goto 7, 3) := by decide +kernel
theorem dX4_sides_38 : decode cX4_sides 38 = .ok (.aload_n 0, 1) := by decide +kernel
theorem dX4_sides_39 : decode cX4_sides 39 = .ok (.getfield 32, 3) := by decide +kernel
theorem dX4_sides_42 : decode cX4_sides 42 = .ok (.istore_n 3, 1) := by decide +kernel
theorem dX4_sides_43 : decode cX4_sides 43 = .ok (.aload_n 0, 1) := by decide +kernel
theorem dX4_sides_44 : decode cX4_sides 44 = .ok (.iload_n 1, 1) := by decide +kernel
theorem dX4_sides_45 : decode cX4_sides 45 = .ok (.ifCond .ne 7, 3) := by decide +kernel
theorem dX4_sides_48 : decode cX4_sides 48 = .ok (.iload_n 2, 1) := by decide +kernel
theorem dX4_sides_49 : decode cX4_sides 49 = .ok (.goto 7, 3) := by decide +kernel
theorem dX4_sides_52 : decode cX4_sides 52 = .ok (.aload_n 0, 1) := by decide +kernel
theorem dX4_sides_53 : decode cX4_sides 53 = .ok (.getfield 29, 3) := by decide +kernel
theorem dX4_sides_56 : decode cX4_sides 56 = .ok (.putfield 29, 3) := by decide +kernel
theorem dX4_sides_59 : decode cX4_sides 59 = .ok (.aload_n 0, 1) := by decide +kernel
theorem dX4_sides_60 : decode cX4_sides 60 = .ok (.iload_n 1, 1) := by decide +kernel
theorem dX4_sides_61 : decode cX4_sides 61 = .ok (.iconst 1, 1) := by decide +kernel
theorem dX4_sides_62 : decode cX4_sides 62 = .ok (.if_icmp .ne 7, 3) := by decide +kernel
theorem dX4_sides_65 : decode cX4_sides 65 = .ok (.iload_n 2, 1) := by decide +kernel
theorem dX4_sides_66 : decode cX4_sides 66 = .ok (.goto 7, 3) := by decide +kernel
theorem dX4_sides_69 : decode cX4_sides 69 = .ok (.aload_n 0, 1) := by decide +kernel
theorem dX4_sides_70 : decode cX4_sides 70 = .ok (.getfield 32, 3) := by decide +kernel
theorem dX4_sides_73 : decode cX4_sides 73 = .ok (.putfield 32, 3) := by decide +kernel
theorem dX4_sides_76 : decode cX4_sides 76 = .ok (.iload_n 3, 1) := by decide +kernel
theorem dX4_sides_77 : decode cX4_sides 77 = .ok (.ireturn, 1) := by decide +kernel
theorem dX4_signAt_0 : decode cX4_signAt 0 = .ok (.iload_n 1, 1) := by decide +kernel
theorem dX4_signAt_1 : decode cX4_signAt 1 = .ok (.ifCond .eq 11, 3) := by decide +kernel
theorem dX4_signAt_4 : decode cX4_signAt 4 = .ok (.iload_n 1, 1) := by decide +kernel
theorem dX4_signAt_5 : decode cX4_signAt 5 = .ok (.aload_n 0, 1) := by decide +kernel
theorem dX4_signAt_6 : decode cX4_signAt 6 = .ok (.getfield 26, 3) := by decide +kernel
theorem dX4_signAt_9 : decode cX4_signAt 9 = .ok (.if_icmp .le 8, 3) := by decide +kernel
theorem dX4_signAt_12 : decode cX4_signAt 12 = .ok (.bipush 27, 2) := by decide +kernel
theorem dX4_signAt_14 : decode cX4_signAt 14 = .ok (.goto 11, 3) := by decide +kernel
theorem dX4_signAt_17 : decode cX4_signAt 17 = .ok (.aload_n 0, 1) := by decide +kernel
theorem dX4_signAt_18 : decode cX4_signAt 18 = .ok (.getfield 100, 3) := by decide +kernel
theorem dX4_signAt_21 : decode cX4_signAt 21 = .ok (.iload_n 1, 1) := by decide +kernel
theorem dX4_signAt_22 : decode cX4_signAt 22 = .ok (.iconst 1, 1) := by decide +kernel
theorem dX4_signAt_23 : decode cX4_signAt 23 = .ok (.isub, 1) := by decide +kernel
theorem dX4_signAt_24 : decode cX4_signAt 24 = .ok (.iaload, 1) := by decide +kernel
theorem dX4_signAt_25 : decode cX4_signAt 25 = .ok (.ireturn, 1) := by decide +kernel
theorem dX4_stands_0 : decode cX4_stands 0 = .ok (.iload_n 2, 1) := by decide +kernel
theorem dX4_stands_1 : decode cX4_stands 1 = .ok (.aload_n 0, 1) := by decide +kernel
theorem dX4_stands_2 : decode cX4_stands 2 = .ok (.getfield 91, 3) := by decide +kernel
theorem dX4_stands_5 : decode cX4_stands 5 = .ok (.iload_n 1, 1) := by decide +kernel
theorem dX4_stands_6 : decode cX4_stands 6 = .ok (.iaload, 1) := by decide +kernel
theorem dX4_stands_7 : decode cX4_stands 7 = .ok (.iadd, 1) := by decide +kernel
theorem dX4_stands_8 : decode cX4_stands 8 = .ok (.aload_n 0, 1) := by decide +kernel
theorem dX4_stands_9 : decode cX4_stands 9 = .ok (.getfield 26, 3) := by decide +kernel
theorem dX4_stands_12 : decode cX4_stands 12 = .ok (.iconst 2, 1) := by decide +kernel
theorem dX4_stands_13 : decode cX4_stands 13 = .ok (.iadd, 1) := by decide +kernel
theorem dX4_stands_14 : decode cX4_stands 14 = .ok (.if_icmp .gt 7, 3) := by decide +kernel
theorem dX4_stands_17 : decode cX4_stands 17 = .ok (.iconst 1, 1) := by decide +kernel
theorem dX4_stands_18 : decode cX4_stands 18 = .ok (.goto 4, 3) := by decide +kernel
theorem dX4_stands_21 : decode cX4_stands 21 = .ok (.iconst 0, 1) := by decide +kernel
theorem dX4_stands_22 : decode cX4_stands 22 = .ok (.istore_n 3, 1) := by decide +kernel
theorem dX4_stands_23 : decode cX4_stands 23 = .ok (.iconst 0, 1) := by decide +kernel
theorem dX4_stands_24 : decode cX4_stands 24 = .ok (.istore 4, 2) := by decide +kernel
theorem dX4_stands_26 : decode cX4_stands 26 = .ok (.iload_n 3, 1) := by decide +kernel
theorem dX4_stands_27 : decode cX4_stands 27 = .ok (.ifCond .eq 49, 3) := by decide +kernel
theorem dX4_stands_30 : decode cX4_stands 30 = .ok (.iload 4, 2) := by decide +kernel
theorem dX4_stands_32 : decode cX4_stands 32 = .ok (.aload_n 0, 1) := by decide +kernel
theorem dX4_stands_33 : decode cX4_stands 33 = .ok (.getfield 91, 3) := by decide +kernel
theorem dX4_stands_36 : decode cX4_stands 36 = .ok (.iload_n 1, 1) := by decide +kernel
theorem dX4_stands_37 : decode cX4_stands 37 = .ok (.iaload, 1) := by decide +kernel
theorem dX4_stands_38 : decode cX4_stands 38 = .ok (.if_icmp .ge 38, 3) := by decide +kernel
theorem dX4_stands_41 : decode cX4_stands 41 = .ok (.aload_n 0, 1) := by decide +kernel
theorem dX4_stands_42 : decode cX4_stands 42 = .ok (.iload_n 2, 1) := by decide +kernel
theorem dX4_stands_43 : decode cX4_stands 43 = .ok (.iload 4, 2) := by decide +kernel
theorem dX4_stands_45 : decode cX4_stands 45 = .ok (.iadd, 1) := by decide +kernel
theorem dX4_stands_46 : decode cX4_stands 46 = .ok (.invokevirtual 201, 3) := by decide +kernel
theorem dX4_stands_49 : decode cX4_stands 49 = .ok (.aload_n 0, 1) := by decide +kernel
theorem dX4_stands_50 : decode cX4_stands 50 = .ok (.getfield 94, 3) := by decide +kernel
theorem dX4_stands_53 : decode cX4_stands 53 = .ok (.bipush 6, 2) := by decide +kernel
theorem dX4_stands_55 : decode cX4_stands 55 = .ok (.iload_n 1, 1) := by decide +kernel
theorem dX4_stands_56 : decode cX4_stands 56 = .ok (.imul, 1) := by decide +kernel
theorem dX4_stands_57 : decode cX4_stands 57 = .ok (.iload 4, 2) := by decide +kernel
theorem dX4_stands_59 : decode cX4_stands 59 = .ok (.iadd, 1) := by decide +kernel
theorem dX4_stands_60 : decode cX4_stands 60 = .ok (.iaload, 1) := by decide +kernel
theorem dX4_stands_61 : decode cX4_stands 61 = .ok (.if_icmp .ne 7, 3) := by decide +kernel
theorem dX4_stands_64 : decode cX4_stands 64 = .ok (.iconst 1, 1) := by decide +kernel
theorem dX4_stands_65 : decode cX4_stands 65 = .ok (.goto 4, 3) := by decide +kernel
theorem dX4_stands_68 : decode cX4_stands 68 = .ok (.iconst 0, 1) := by decide +kernel
theorem dX4_stands_69 : decode cX4_stands 69 = .ok (.istore_n 3, 1) := by decide +kernel
theorem dX4_stands_70 : decode cX4_stands 70 = .ok (.iinc 4 1, 3) := by decide +kernel
theorem dX4_stands_73 : decode cX4_stands 73 = .ok (.goto (-47), 3) := by decide +kernel
theorem dX4_stands_76 : decode cX4_stands 76 = .ok (.iload_n 3, 1) := by decide +kernel
theorem dX4_stands_77 : decode cX4_stands 77 = .ok (.ireturn, 1) := by decide +kernel
theorem dX4_greatest_0 : decode cX4_greatest 0 = .ok (.iconst 0, 1) := by decide +kernel
theorem dX4_greatest_1 : decode cX4_greatest 1 = .ok (.istore_n 2, 1) := by decide +kernel
theorem dX4_greatest_2 : decode cX4_greatest 2 = .ok (.iconst 0, 1) := by decide +kernel
theorem dX4_greatest_3 : decode cX4_greatest 3 = .ok (.istore_n 3, 1) := by decide +kernel
theorem dX4_greatest_4 : decode cX4_greatest 4 = .ok (.iload_n 3, 1) := by decide +kernel
theorem dX4_greatest_5 : decode cX4_greatest 5 = .ok (.aload_n 0, 1) := by decide +kernel
theorem dX4_greatest_6 : decode cX4_greatest 6 = .ok (.getfield 23, 3) := by decide +kernel
theorem dX4_greatest_9 : decode cX4_greatest 9 = .ok (.if_icmp .ge 80, 3) := by decide +kernel
theorem dX4_greatest_12 : decode cX4_greatest 12 = .ok (.iconst 0, 1) := by decide +kernel
theorem dX4_greatest_13 : decode cX4_greatest 13 = .ok (.istore 4, 2) := by decide +kernel
theorem dX4_greatest_15 : decode cX4_greatest 15 = .ok (.iload 4, 2) := by decide +kernel
theorem dX4_greatest_17 : decode cX4_greatest 17 = .ok (.aload_n 0, 1) := by decide +kernel
theorem dX4_greatest_18 : decode cX4_greatest 18 = .ok (.getfield 26, 3) := by decide +kernel
theorem dX4_greatest_21 : decode cX4_greatest 21 = .ok (.iconst 2, 1) := by decide +kernel
theorem dX4_greatest_22 : decode cX4_greatest 22 = .ok (.iadd, 1) := by decide +kernel
theorem dX4_greatest_23 : decode cX4_greatest 23 = .ok (.if_icmp .ge 60, 3) := by decide +kernel
theorem dX4_greatest_26 : decode cX4_greatest 26 = .ok (.iload_n 1, 1) := by decide +kernel
theorem dX4_greatest_27 : decode cX4_greatest 27 = .ok (.iconst 1, 1) := by decide +kernel
theorem dX4_greatest_28 : decode cX4_greatest 28 = .ok (.iadd, 1) := by decide +kernel
theorem dX4_greatest_29 : decode cX4_greatest 29 = .ok (.iload 4, 2) := by decide +kernel
theorem dX4_greatest_31 : decode cX4_greatest 31 = .ok (.isub, 1) := by decide +kernel
theorem dX4_greatest_32 : decode cX4_greatest 32 = .ok (.istore 5, 2) := by decide +kernel
theorem dX4_greatest_34 : decode cX4_greatest 34 = .ok (.iload 5, 2) := by decide +kernel
theorem dX4_greatest_36 : decode cX4_greatest 36 = .ok (.ifCond .lt 41, 3) := by decide +kernel
theorem dX4_greatest_39 : decode cX4_greatest 39 = .ok (.iload 5, 2) := by decide +kernel
theorem dX4_greatest_41 : decode cX4_greatest 41 = .ok (.aload_n 0, 1) := by decide +kernel
theorem dX4_greatest_42 : decode cX4_greatest 42 = .ok (.getfield 91, 3) := by decide +kernel
theorem dX4_greatest_45 : decode cX4_greatest 45 = .ok (.iload_n 3, 1) := by decide +kernel
theorem dX4_greatest_46 : decode cX4_greatest 46 = .ok (.iaload, 1) := by decide +kernel
theorem dX4_greatest_47 : decode cX4_greatest 47 = .ok (.if_icmp .gt 30, 3) := by decide +kernel
theorem dX4_greatest_50 : decode cX4_greatest 50 = .ok (.aload_n 0, 1) := by decide +kernel
theorem dX4_greatest_51 : decode cX4_greatest 51 = .ok (.iload_n 3, 1) := by decide +kernel
theorem dX4_greatest_52 : decode cX4_greatest 52 = .ok (.iload 4, 2) := by decide +kernel
theorem dX4_greatest_54 : decode cX4_greatest 54 = .ok (.invokevirtual 204, 3) := by decide +kernel
theorem dX4_greatest_57 : decode cX4_greatest 57 = .ok (.ifCond .eq 20, 3) := by decide +kernel
theorem dX4_greatest_60 : decode cX4_greatest 60 = .ok (.iload_n 2, 1) := by decide +kernel
theorem dX4_greatest_61 : decode cX4_greatest 61 = .ok (.aload_n 0, 1) := by decide +kernel
theorem dX4_greatest_62 : decode cX4_greatest 62 = .ok (.getfield 97, 3) := by decide +kernel
theorem dX4_greatest_65 : decode cX4_greatest 65 = .ok (.bipush 7, 2) := by decide +kernel
theorem dX4_greatest_67 : decode cX4_greatest 67 = .ok (.iload_n 3, 1) := by decide +kernel
theorem dX4_greatest_68 : decode cX4_greatest 68 = .ok (.imul, 1) := by decide +kernel
theorem dX4_greatest_69 : decode cX4_greatest 69 = .ok (.iload 5, 2) := by decide +kernel
theorem dX4_greatest_71 : decode cX4_greatest 71 = .ok (.iadd, 1) := by decide +kernel
theorem dX4_greatest_72 : decode cX4_greatest 72 = .ok (.iaload, 1) := by decide +kernel
theorem dX4_greatest_73 : decode cX4_greatest 73 = .ok (.invokestatic 156, 3) := by decide +kernel
theorem dX4_greatest_76 : decode cX4_greatest 76 = .ok (.istore_n 2, 1) := by decide +kernel
theorem dX4_greatest_77 : decode cX4_greatest 77 = .ok (.iinc 4 1, 3) := by decide +kernel
theorem dX4_greatest_80 : decode cX4_greatest 80 = .ok (.goto (-65), 3) := by decide +kernel
theorem dX4_greatest_83 : decode cX4_greatest 83 = .ok (.iinc 3 1, 3) := by decide +kernel
theorem dX4_greatest_86 : decode cX4_greatest 86 = .ok (.goto (-82), 3) := by decide +kernel
theorem dX4_greatest_89 : decode cX4_greatest 89 = .ok (.iload_n 2, 1) := by decide +kernel
theorem dX4_greatest_90 : decode cX4_greatest 90 = .ok (.ireturn, 1) := by decide +kernel
theorem dX4_cuts_0 : decode cX4_cuts 0 = .ok (.aload_n 0, 1) := by decide +kernel
theorem dX4_cuts_1 : decode cX4_cuts 1 = .ok (.iconst 0, 1) := by decide +kernel
theorem dX4_cuts_2 : decode cX4_cuts 2 = .ok (.putfield 1, 3) := by decide +kernel
theorem dX4_cuts_5 : decode cX4_cuts 5 = .ok (.aload_n 0, 1) := by decide +kernel
theorem dX4_cuts_6 : decode cX4_cuts 6 = .ok (.iconst 0, 1) := by decide +kernel
theorem dX4_cuts_7 : decode cX4_cuts 7 = .ok (.putfield 35, 3) := by decide +kernel
theorem dX4_cuts_10 : decode cX4_cuts 10 = .ok (.aload_n 0, 1) := by decide +kernel
theorem dX4_cuts_11 : decode cX4_cuts 11 = .ok (.getfield 29, 3) := by decide +kernel
theorem dX4_cuts_14 : decode cX4_cuts 14 = .ok (.istore_n 1, 1) := by decide +kernel
theorem dX4_cuts_15 : decode cX4_cuts 15 = .ok (.iload_n 1, 1) := by decide +kernel
theorem dX4_cuts_16 : decode cX4_cuts 16 = .ok (.aload_n 0, 1) := by decide +kernel
theorem dX4_cuts_17 : decode cX4_cuts 17 = .ok (.getfield 26, 3) := by decide +kernel
theorem dX4_cuts_20 : decode cX4_cuts 20 = .ok (.aload_n 0, 1) := by decide +kernel
theorem dX4_cuts_21 : decode cX4_cuts 21 = .ok (.getfield 32, 3) := by decide +kernel
theorem dX4_cuts_24 : decode cX4_cuts 24 = .ok (.isub, 1) := by decide +kernel
theorem dX4_cuts_25 : decode cX4_cuts 25 = .ok (.if_icmp .gt 40, 3) := by decide +kernel
theorem dX4_cuts_28 : decode cX4_cuts 28 = .ok (.aload_n 0, 1) := by decide +kernel
theorem dX4_cuts_29 : decode cX4_cuts 29 = .ok (.iload_n 1, 1) := by decide +kernel
theorem dX4_cuts_30 : decode cX4_cuts 30 = .ok (.invokevirtual 207, 3) := by decide +kernel
theorem dX4_cuts_33 : decode cX4_cuts 33 = .ok (.iconst 2, 1) := by decide +kernel
theorem dX4_cuts_34 : decode cX4_cuts 34 = .ok (.irem, 1) := by decide +kernel
theorem dX4_cuts_35 : decode cX4_cuts 35 = .ok (.iconst 1, 1) := by decide +kernel
theorem dX4_cuts_36 : decode cX4_cuts 36 = .ok (.if_icmp .ne 23, 3) := by decide +kernel
theorem dX4_cuts_39 : decode cX4_cuts 39 = .ok (.aload_n 0, 1) := by decide +kernel
theorem dX4_cuts_40 : decode cX4_cuts 40 = .ok (.getfield 103, 3) := by decide +kernel
theorem dX4_cuts_43 : decode cX4_cuts 43 = .ok (.aload_n 0, 1) := by decide +kernel
theorem dX4_cuts_44 : decode cX4_cuts 44 = .ok (.getfield 35, 3) := by decide +kernel
theorem dX4_cuts_47 : decode cX4_cuts 47 = .ok (.iload_n 1, 1) := by decide +kernel
theorem dX4_cuts_48 : decode cX4_cuts 48 = .ok (.iastore, 1) := by decide +kernel
theorem dX4_cuts_49 : decode cX4_cuts 49 = .ok (.aload_n 0, 1) := by decide +kernel
theorem dX4_cuts_50 : decode cX4_cuts 50 = .ok (.dup, 1) := by decide +kernel
theorem dX4_cuts_51 : decode cX4_cuts 51 = .ok (.getfield 35, 3) := by decide +kernel
theorem dX4_cuts_54 : decode cX4_cuts 54 = .ok (.iconst 1, 1) := by decide +kernel
theorem dX4_cuts_55 : decode cX4_cuts 55 = .ok (.iadd, 1) := by decide +kernel
theorem dX4_cuts_56 : decode cX4_cuts 56 = .ok (.putfield 35, 3) := by decide +kernel
theorem dX4_cuts_59 : decode cX4_cuts 59 = .ok (.iinc 1 1, 3) := by decide +kernel
theorem dX4_cuts_62 : decode cX4_cuts 62 = .ok (.goto (-47), 3) := by decide +kernel
theorem dX4_cuts_65 : decode cX4_cuts 65 = .ok (.aload_n 0, 1) := by decide +kernel
theorem dX4_cuts_66 : decode cX4_cuts 66 = .ok (.getfield 35, 3) := by decide +kernel
theorem dX4_cuts_69 : decode cX4_cuts 69 = .ok (.ireturn, 1) := by decide +kernel
theorem dX4_cut_0 : decode cX4_cut 0 = .ok (.aload_n 0, 1) := by decide +kernel
theorem dX4_cut_1 : decode cX4_cut 1 = .ok (.iconst 0, 1) := by decide +kernel
theorem dX4_cut_2 : decode cX4_cut 2 = .ok (.putfield 1, 3) := by decide +kernel
theorem dX4_cut_5 : decode cX4_cut 5 = .ok (.iload_n 1, 1) := by decide +kernel
theorem dX4_cut_6 : decode cX4_cut 6 = .ok (.iconst 0, 1) := by decide +kernel
theorem dX4_cut_7 : decode cX4_cut 7 = .ok (.aload_n 0, 1) := by decide +kernel
theorem dX4_cut_8 : decode cX4_cut 8 = .ok (.getfield 35, 3) := by decide +kernel
theorem dX4_cut_11 : decode cX4_cut 11 = .ok (.iconst 1, 1) := by decide +kernel
theorem dX4_cut_12 : decode cX4_cut 12 = .ok (.isub, 1) := by decide +kernel
theorem dX4_cut_13 : decode cX4_cut 13 = .ok (.invokestatic 109, 3) := by decide +kernel
theorem dX4_cut_16 : decode cX4_cut 16 = .ok (.ifCond .ne 10, 3) := by decide +kernel
theorem dX4_cut_19 : decode cX4_cut 19 = .ok (.aload_n 0, 1) := by decide +kernel
theorem dX4_cut_20 : decode cX4_cut 20 = .ok (.iconst 1, 1) := by decide +kernel
theorem dX4_cut_21 : decode cX4_cut 21 = .ok (.putfield 1, 3) := by decide +kernel
theorem dX4_cut_24 : decode cX4_cut 24 = .ok (.iconst 0, 1) := by decide +kernel
theorem dX4_cut_25 : decode cX4_cut 25 = .ok (.ireturn, 1) := by decide +kernel
theorem dX4_cut_26 : decode cX4_cut 26 = .ok (.aload_n 0, 1) := by decide +kernel
theorem dX4_cut_27 : decode cX4_cut 27 = .ok (.getfield 103, 3) := by decide +kernel
theorem dX4_cut_30 : decode cX4_cut 30 = .ok (.iload_n 1, 1) := by decide +kernel
theorem dX4_cut_31 : decode cX4_cut 31 = .ok (.iaload, 1) := by decide +kernel
theorem dX4_cut_32 : decode cX4_cut 32 = .ok (.ireturn, 1) := by decide +kernel
theorem dX4_told_0 : decode cX4_told 0 = .ok (.aload_n 0, 1) := by decide +kernel
theorem dX4_told_1 : decode cX4_told 1 = .ok (.iconst 0, 1) := by decide +kernel
theorem dX4_told_2 : decode cX4_told 2 = .ok (.putfield 1, 3) := by decide +kernel
theorem dX4_told_5 : decode cX4_told 5 = .ok (.iconst 0, 1) := by decide +kernel
theorem dX4_told_6 : decode cX4_told 6 = .ok (.istore_n 2, 1) := by decide +kernel
theorem dX4_told_7 : decode cX4_told 7 = .ok (.iload_n 1, 1) := by decide +kernel
theorem dX4_told_8 : decode cX4_told 8 = .ok (.tableswitch 148 0 7 #[48, 53, 80, 85, 90, 95, 100, 135], 48) := by decide +kernel
theorem dX4_told_56 : decode cX4_told 56 = .ok (.aload_n 0, 1) := by decide +kernel
theorem dX4_told_57 : decode cX4_told 57 = .ok (.getfield 7, 3) := by decide +kernel
theorem dX4_told_60 : decode cX4_told 60 = .ok (.ireturn, 1) := by decide +kernel
theorem dX4_told_61 : decode cX4_told 61 = .ok (.iconst 0, 1) := by decide +kernel
theorem dX4_told_62 : decode cX4_told 62 = .ok (.istore_n 3, 1) := by decide +kernel
theorem dX4_told_63 : decode cX4_told 63 = .ok (.iload_n 3, 1) := by decide +kernel
theorem dX4_told_64 : decode cX4_told 64 = .ok (.aload_n 0, 1) := by decide +kernel
theorem dX4_told_65 : decode cX4_told 65 = .ok (.getfield 7, 3) := by decide +kernel
theorem dX4_told_68 : decode cX4_told 68 = .ok (.if_icmp .ge 18, 3) := by decide +kernel
theorem dX4_told_71 : decode cX4_told 71 = .ok (.iload_n 2, 1) := by decide +kernel
theorem dX4_told_72 : decode cX4_told 72 = .ok (.aload_n 0, 1) := by decide +kernel
theorem dX4_told_73 : decode cX4_told 73 = .ok (.iload_n 3, 1) := by decide +kernel
theorem dX4_told_74 : decode cX4_told 74 = .ok (.iconst 0, 1) := by decide +kernel
theorem dX4_told_75 : decode cX4_told 75 = .ok (.invokevirtual 128, 3) := by decide +kernel
theorem dX4_told_78 : decode cX4_told 78 = .ok (.iadd, 1) := by decide +kernel
theorem dX4_told_79 : decode cX4_told 79 = .ok (.istore_n 2, 1) := by decide +kernel
theorem dX4_told_80 : decode cX4_told 80 = .ok (.iinc 3 1, 3) := by decide +kernel
theorem dX4_told_83 : decode cX4_told 83 = .ok (.goto (-20), 3) := by decide +kernel
theorem dX4_told_86 : decode cX4_told 86 = .ok (.iload_n 2, 1) := by decide +kernel
theorem dX4_told_87 : decode cX4_told 87 = .ok (.ireturn, 1) := by decide +kernel
theorem dX4_told_88 : decode cX4_told 88 = .ok (.aload_n 0, 1) := by decide +kernel
theorem dX4_told_89 : decode cX4_told 89 = .ok (.getfield 10, 3) := by decide +kernel
theorem dX4_told_92 : decode cX4_told 92 = .ok (.ireturn, 1) := by decide +kernel
theorem dX4_told_93 : decode cX4_told 93 = .ok (.aload_n 0, 1) := by decide +kernel
theorem dX4_told_94 : decode cX4_told 94 = .ok (.getfield 13, 3) := by decide +kernel
theorem dX4_told_97 : decode cX4_told 97 = .ok (.ireturn, 1) := by decide +kernel
theorem dX4_told_98 : decode cX4_told 98 = .ok (.aload_n 0, 1) := by decide +kernel
theorem dX4_told_99 : decode cX4_told 99 = .ok (.getfield 23, 3) := by decide +kernel
theorem dX4_told_102 : decode cX4_told 102 = .ok (.ireturn, 1) := by decide +kernel
theorem dX4_told_103 : decode cX4_told 103 = .ok (.aload_n 0, 1) := by decide +kernel
theorem dX4_told_104 : decode cX4_told 104 = .ok (.getfield 26, 3) := by decide +kernel
theorem dX4_told_107 : decode cX4_told 107 = .ok (.ireturn, 1) := by decide +kernel
theorem dX4_told_108 : decode cX4_told 108 = .ok (.iconst 0, 1) := by decide +kernel
theorem dX4_told_109 : decode cX4_told 109 = .ok (.istore_n 3, 1) := by decide +kernel
theorem dX4_told_110 : decode cX4_told 110 = .ok (.iload_n 3, 1) := by decide +kernel
theorem dX4_told_111 : decode cX4_told 111 = .ok (.aload_n 0, 1) := by decide +kernel
theorem dX4_told_112 : decode cX4_told 112 = .ok (.getfield 7, 3) := by decide +kernel
theorem dX4_told_115 : decode cX4_told 115 = .ok (.if_icmp .ge 26, 3) := by decide +kernel
theorem dX4_told_118 : decode cX4_told 118 = .ok (.iload_n 2, 1) := by decide +kernel
theorem dX4_told_119 : decode cX4_told 119 = .ok (.aload_n 0, 1) := by decide +kernel
theorem dX4_told_120 : decode cX4_told 120 = .ok (.getfield 61, 3) := by decide +kernel
theorem dX4_told_123 : decode cX4_told 123 = .ok (.iload_n 3, 1) := by decide +kernel
theorem dX4_told_124 : decode cX4_told 124 = .ok (.iaload, 1) := by decide +kernel
theorem dX4_told_125 : decode cX4_told 125 = .ok (.ifCond .le 7, 3) := by decide +kernel
theorem dX4_told_128 : decode cX4_told 128 = .ok (.iconst 1, 1) := by decide +kernel
theorem dX4_told_129 : decode cX4_told 129 = .ok (.goto 4, 3) := by decide +kernel
theorem dX4_told_132 : decode cX4_told 132 = .ok (.iconst 0, 1) := by decide +kernel
theorem dX4_told_133 : decode cX4_told 133 = .ok (.iadd, 1) := by decide +kernel
theorem dX4_told_134 : decode cX4_told 134 = .ok (.istore_n 2, 1) := by decide +kernel
theorem dX4_told_135 : decode cX4_told 135 = .ok (.iinc 3 1, 3) := by decide +kernel
theorem dX4_told_138 : decode cX4_told 138 = .ok (.goto (-28), 3) := by decide +kernel
theorem dX4_told_141 : decode cX4_told 141 = .ok (.iload_n 2, 1) := by decide +kernel
theorem dX4_told_142 : decode cX4_told 142 = .ok (.ireturn, 1) := by decide +kernel
theorem dX4_told_143 : decode cX4_told 143 = .ok (.aload_n 0, 1) := by decide +kernel
theorem dX4_told_144 : decode cX4_told 144 = .ok (.getfield 19, 3) := by decide +kernel
theorem dX4_told_147 : decode cX4_told 147 = .ok (.ifCond .eq 7, 3) := by decide +kernel
theorem dX4_told_150 : decode cX4_told 150 = .ok (.iconst 1, 1) := by decide +kernel
theorem dX4_told_151 : decode cX4_told 151 = .ok (.goto 4, 3) := by decide +kernel
theorem dX4_told_154 : decode cX4_told 154 = .ok (.iconst 0, 1) := by decide +kernel
theorem dX4_told_155 : decode cX4_told 155 = .ok (.ireturn, 1) := by decide +kernel
theorem dX4_told_156 : decode cX4_told 156 = .ok (.ldc 113, 2) := by decide +kernel
theorem dX4_told_158 : decode cX4_told 158 = .ok (.ireturn, 1) := by decide +kernel
theorem dX4_clear_0 : decode cX4_clear 0 = .ok (.aload_n 0, 1) := by decide +kernel
theorem dX4_clear_1 : decode cX4_clear 1 = .ok (.iconst 0, 1) := by decide +kernel
theorem dX4_clear_2 : decode cX4_clear 2 = .ok (.putfield 1, 3) := by decide +kernel
theorem dX4_clear_5 : decode cX4_clear 5 = .ok (.aload_n 0, 1) := by decide +kernel
theorem dX4_clear_6 : decode cX4_clear 6 = .ok (.getfield 7, 3) := by decide +kernel
theorem dX4_clear_9 : decode cX4_clear 9 = .ok (.istore_n 1, 1) := by decide +kernel
theorem dX4_clear_10 : decode cX4_clear 10 = .ok (.aload_n 0, 1) := by decide +kernel
theorem dX4_clear_11 : decode cX4_clear 11 = .ok (.invokevirtual 106, 3) := by decide +kernel
theorem dX4_clear_14 : decode cX4_clear 14 = .ok (.iload_n 1, 1) := by decide +kernel
theorem dX4_clear_15 : decode cX4_clear 15 = .ok (.ireturn, 1) := by decide +kernel

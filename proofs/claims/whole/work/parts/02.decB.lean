theorem dX3_init_0 : decode cX3_init 0 = .ok (.aload_n 0, 1) := by decide +kernel
theorem dX3_init_1 : decode cX3_init 1 = .ok (.invokespecial 1, 3) := by decide +kernel
theorem dX3_init_4 : decode cX3_init 4 = .ok (.aload_n 0, 1) := by decide +kernel
theorem dX3_init_5 : decode cX3_init 5 = .ok (.bipush 60, 2) := by decide +kernel
theorem dX3_init_7 : decode cX3_init 7 = .ok (.anewarray 9, 3) := by decide +kernel
theorem dX3_init_10 : decode cX3_init 10 = .ok (.putfield 11, 3) := by decide +kernel
theorem dX3_init_13 : decode cX3_init 13 = .ok (.aload_n 0, 1) := by decide +kernel
theorem dX3_init_14 : decode cX3_init 14 = .ok (.iconst 4, 1) := by decide +kernel
theorem dX3_init_15 : decode cX3_init 15 = .ok (.anewarray 15, 3) := by decide +kernel
theorem dX3_init_18 : decode cX3_init 18 = .ok (.putfield 17, 3) := by decide +kernel
theorem dX3_init_21 : decode cX3_init 21 = .ok (.aload_n 0, 1) := by decide +kernel
theorem dX3_init_22 : decode cX3_init 22 = .ok (.new 21, 3) := by decide +kernel
theorem dX3_init_25 : decode cX3_init 25 = .ok (.dup, 1) := by decide +kernel
theorem dX3_init_26 : decode cX3_init 26 = .ok (.invokespecial 23, 3) := by decide +kernel
theorem dX3_init_29 : decode cX3_init 29 = .ok (.putfield 24, 3) := by decide +kernel
theorem dX3_init_32 : decode cX3_init 32 = .ok (.aload_n 0, 1) := by decide +kernel
theorem dX3_init_33 : decode cX3_init 33 = .ok (.sipush 240, 3) := by decide +kernel
theorem dX3_init_36 : decode cX3_init 36 = .ok (.newarray .int, 2) := by decide +kernel
theorem dX3_init_38 : decode cX3_init 38 = .ok (.putfield 28, 3) := by decide +kernel
theorem dX3_init_41 : decode cX3_init 41 = .ok (.aload_n 0, 1) := by decide +kernel
theorem dX3_init_42 : decode cX3_init 42 = .ok (.sipush 2000, 3) := by decide +kernel
theorem dX3_init_45 : decode cX3_init 45 = .ok (.putfield 32, 3) := by decide +kernel
theorem dX3_init_48 : decode cX3_init 48 = .ok (.iconst 0, 1) := by decide +kernel
theorem dX3_init_49 : decode cX3_init 49 = .ok (.istore_n 1, 1) := by decide +kernel
theorem dX3_init_50 : decode cX3_init 50 = .ok (.iload_n 1, 1) := by decide +kernel
theorem dX3_init_51 : decode cX3_init 51 = .ok (.bipush 60, 2) := by decide +kernel
theorem dX3_init_53 : decode cX3_init 53 = .ok (.if_icmp .ge 22, 3) := by decide +kernel
theorem dX3_init_56 : decode cX3_init 56 = .ok (.aload_n 0, 1) := by decide +kernel
theorem dX3_init_57 : decode cX3_init 57 = .ok (.getfield 11, 3) := by decide +kernel
theorem dX3_init_60 : decode cX3_init 60 = .ok (.iload_n 1, 1) := by decide +kernel
theorem dX3_init_61 : decode cX3_init 61 = .ok (.new 9, 3) := by decide +kernel
theorem dX3_init_64 : decode cX3_init 64 = .ok (.dup, 1) := by decide +kernel
theorem dX3_init_65 : decode cX3_init 65 = .ok (.invokespecial 36, 3) := by decide +kernel
theorem dX3_init_68 : decode cX3_init 68 = .ok (.aastore, 1) := by decide +kernel
theorem dX3_init_69 : decode cX3_init 69 = .ok (.iinc 1 1, 3) := by decide +kernel
theorem dX3_init_72 : decode cX3_init 72 = .ok (.goto (-22), 3) := by decide +kernel
theorem dX3_init_75 : decode cX3_init 75 = .ok (.iconst 0, 1) := by decide +kernel
theorem dX3_init_76 : decode cX3_init 76 = .ok (.istore_n 1, 1) := by decide +kernel
theorem dX3_init_77 : decode cX3_init 77 = .ok (.iload_n 1, 1) := by decide +kernel
theorem dX3_init_78 : decode cX3_init 78 = .ok (.iconst 4, 1) := by decide +kernel
theorem dX3_init_79 : decode cX3_init 79 = .ok (.if_icmp .ge 22, 3) := by decide +kernel
theorem dX3_init_82 : decode cX3_init 82 = .ok (.aload_n 0, 1) := by decide +kernel
theorem dX3_init_83 : decode cX3_init 83 = .ok (.getfield 17, 3) := by decide +kernel
theorem dX3_init_86 : decode cX3_init 86 = .ok (.iload_n 1, 1) := by decide +kernel
theorem dX3_init_87 : decode cX3_init 87 = .ok (.new 15, 3) := by decide +kernel
theorem dX3_init_90 : decode cX3_init 90 = .ok (.dup, 1) := by decide +kernel
theorem dX3_init_91 : decode cX3_init 91 = .ok (.invokespecial 37, 3) := by decide +kernel
theorem dX3_init_94 : decode cX3_init 94 = .ok (.aastore, 1) := by decide +kernel
theorem dX3_init_95 : decode cX3_init 95 = .ok (.iinc 1 1, 3) := by decide +kernel
theorem dX3_init_98 : decode cX3_init 98 = .ok (.goto (-21), 3) := by decide +kernel
theorem dX3_init_101 : decode cX3_init 101 = .ok (.return_, 1) := by decide +kernel
theorem dX3_note_0 : decode cX3_note 0 = .ok (.iload_n 1, 1) := by decide +kernel
theorem dX3_note_1 : decode cX3_note 1 = .ok (.bipush 10, 2) := by decide +kernel
theorem dX3_note_3 : decode cX3_note 3 = .ok (.sipush 200, 3) := by decide +kernel
theorem dX3_note_6 : decode cX3_note 6 = .ok (.invokestatic 38, 3) := by decide +kernel
theorem dX3_note_9 : decode cX3_note 9 = .ok (.ifCond .ne 13, 3) := by decide +kernel
theorem dX3_note_12 : decode cX3_note 12 = .ok (.iload_n 2, 1) := by decide +kernel
theorem dX3_note_13 : decode cX3_note 13 = .ok (.iconst 1, 1) := by decide +kernel
theorem dX3_note_14 : decode cX3_note 14 = .ok (.bipush 64, 2) := by decide +kernel
theorem dX3_note_16 : decode cX3_note 16 = .ok (.invokestatic 38, 3) := by decide +kernel
theorem dX3_note_19 : decode cX3_note 19 = .ok (.ifCond .eq 6, 3) := by decide +kernel
theorem dX3_note_22 : decode cX3_note 22 = .ok (.ldc 42, 2) := by decide +kernel
theorem dX3_note_24 : decode cX3_note 24 = .ok (.ireturn, 1) := by decide +kernel
theorem dX3_note_25 : decode cX3_note 25 = .ok (.aload_n 0, 1) := by decide +kernel
theorem dX3_note_26 : decode cX3_note 26 = .ok (.getfield 43, 3) := by decide +kernel
theorem dX3_note_29 : decode cX3_note 29 = .ok (.bipush 60, 2) := by decide +kernel
theorem dX3_note_31 : decode cX3_note 31 = .ok (.if_icmp .lt 6, 3) := by decide +kernel
theorem dX3_note_34 : decode cX3_note 34 = .ok (.ldc 46, 2) := by decide +kernel
theorem dX3_note_36 : decode cX3_note 36 = .ok (.ireturn, 1) := by decide +kernel
theorem dX3_note_37 : decode cX3_note 37 = .ok (.aload_n 0, 1) := by decide +kernel
theorem dX3_note_38 : decode cX3_note 38 = .ok (.getfield 11, 3) := by decide +kernel
theorem dX3_note_41 : decode cX3_note 41 = .ok (.aload_n 0, 1) := by decide +kernel
theorem dX3_note_42 : decode cX3_note 42 = .ok (.getfield 43, 3) := by decide +kernel
theorem dX3_note_45 : decode cX3_note 45 = .ok (.aaload, 1) := by decide +kernel
theorem dX3_note_46 : decode cX3_note 46 = .ok (.iload_n 1, 1) := by decide +kernel
theorem dX3_note_47 : decode cX3_note 47 = .ok (.iload_n 2, 1) := by decide +kernel
theorem dX3_note_48 : decode cX3_note 48 = .ok (.iload_n 3, 1) := by decide +kernel
theorem dX3_note_49 : decode cX3_note 49 = .ok (.invokevirtual 47, 3) := by decide +kernel
theorem dX3_note_52 : decode cX3_note 52 = .ok (.aload_n 0, 1) := by decide +kernel
theorem dX3_note_53 : decode cX3_note 53 = .ok (.dup, 1) := by decide +kernel
theorem dX3_note_54 : decode cX3_note 54 = .ok (.getfield 43, 3) := by decide +kernel
theorem dX3_note_57 : decode cX3_note 57 = .ok (.iconst 1, 1) := by decide +kernel
theorem dX3_note_58 : decode cX3_note 58 = .ok (.iadd, 1) := by decide +kernel
theorem dX3_note_59 : decode cX3_note 59 = .ok (.putfield 43, 3) := by decide +kernel
theorem dX3_note_62 : decode cX3_note 62 = .ok (.aload_n 0, 1) := by decide +kernel
theorem dX3_note_63 : decode cX3_note 63 = .ok (.iconst 0, 1) := by decide +kernel
theorem dX3_note_64 : decode cX3_note 64 = .ok (.putfield 51, 3) := by decide +kernel
theorem dX3_note_67 : decode cX3_note 67 = .ok (.aload_n 0, 1) := by decide +kernel
theorem dX3_note_68 : decode cX3_note 68 = .ok (.getfield 43, 3) := by decide +kernel
theorem dX3_note_71 : decode cX3_note 71 = .ok (.iconst 1, 1) := by decide +kernel
theorem dX3_note_72 : decode cX3_note 72 = .ok (.isub, 1) := by decide +kernel
theorem dX3_note_73 : decode cX3_note 73 = .ok (.ireturn, 1) := by decide +kernel
theorem dX3_syllable_0 : decode cX3_syllable 0 = .ok (.aload_n 0, 1) := by decide +kernel
theorem dX3_syllable_1 : decode cX3_syllable 1 = .ok (.iload_n 1, 1) := by decide +kernel
theorem dX3_syllable_2 : decode cX3_syllable 2 = .ok (.invokevirtual 55, 3) := by decide +kernel
theorem dX3_syllable_5 : decode cX3_syllable 5 = .ok (.ifCond .eq 10, 3) := by decide +kernel
theorem dX3_syllable_8 : decode cX3_syllable 8 = .ok (.iload_n 2, 1) := by decide +kernel
theorem dX3_syllable_9 : decode cX3_syllable 9 = .ok (.invokestatic 59, 3) := by decide +kernel
theorem dX3_syllable_12 : decode cX3_syllable 12 = .ok (.ifCond .ne 6, 3) := by decide +kernel
theorem dX3_syllable_15 : decode cX3_syllable 15 = .ok (.ldc 62, 2) := by decide +kernel
theorem dX3_syllable_17 : decode cX3_syllable 17 = .ok (.ireturn, 1) := by decide +kernel
theorem dX3_syllable_18 : decode cX3_syllable 18 = .ok (.iload_n 3, 1) := by decide +kernel
theorem dX3_syllable_19 : decode cX3_syllable 19 = .ok (.iconst 1, 1) := by decide +kernel
theorem dX3_syllable_20 : decode cX3_syllable 20 = .ok (.sipush 200, 3) := by decide +kernel
theorem dX3_syllable_23 : decode cX3_syllable 23 = .ok (.invokestatic 38, 3) := by decide +kernel
theorem dX3_syllable_26 : decode cX3_syllable 26 = .ok (.ifCond .ne 13, 3) := by decide +kernel
theorem dX3_syllable_29 : decode cX3_syllable 29 = .ok (.iload 4, 2) := by decide +kernel
theorem dX3_syllable_31 : decode cX3_syllable 31 = .ok (.iconst 0, 1) := by decide +kernel
theorem dX3_syllable_32 : decode cX3_syllable 32 = .ok (.iload_n 3, 1) := by decide +kernel
theorem dX3_syllable_33 : decode cX3_syllable 33 = .ok (.invokestatic 38, 3) := by decide +kernel
theorem dX3_syllable_36 : decode cX3_syllable 36 = .ok (.ifCond .eq 6, 3) := by decide +kernel
theorem dX3_syllable_39 : decode cX3_syllable 39 = .ok (.ldc 42, 2) := by decide +kernel
theorem dX3_syllable_41 : decode cX3_syllable 41 = .ok (.ireturn, 1) := by decide +kernel
theorem dX3_syllable_42 : decode cX3_syllable 42 = .ok (.aload_n 0, 1) := by decide +kernel
theorem dX3_syllable_43 : decode cX3_syllable 43 = .ok (.iload_n 1, 1) := by decide +kernel
theorem dX3_syllable_44 : decode cX3_syllable 44 = .ok (.iload_n 2, 1) := by decide +kernel
theorem dX3_syllable_45 : decode cX3_syllable 45 = .ok (.invokevirtual 63, 3) := by decide +kernel
theorem dX3_syllable_48 : decode cX3_syllable 48 = .ok (.ifCond .ne 6, 3) := by decide +kernel
theorem dX3_syllable_51 : decode cX3_syllable 51 = .ok (.ldc 67, 2) := by decide +kernel
theorem dX3_syllable_53 : decode cX3_syllable 53 = .ok (.ireturn, 1) := by decide +kernel
theorem dX3_syllable_54 : decode cX3_syllable 54 = .ok (.aload_n 0, 1) := by decide +kernel
theorem dX3_syllable_55 : decode cX3_syllable 55 = .ok (.getfield 17, 3) := by decide +kernel
theorem dX3_syllable_58 : decode cX3_syllable 58 = .ok (.iload_n 2, 1) := by decide +kernel
theorem dX3_syllable_59 : decode cX3_syllable 59 = .ok (.aaload, 1) := by decide +kernel
theorem dX3_syllable_60 : decode cX3_syllable 60 = .ok (.getfield 68, 3) := by decide +kernel
theorem dX3_syllable_63 : decode cX3_syllable 63 = .ok (.iload_n 1, 1) := by decide +kernel
theorem dX3_syllable_64 : decode cX3_syllable 64 = .ok (.iaload, 1) := by decide +kernel
theorem dX3_syllable_65 : decode cX3_syllable 65 = .ok (.iconst 2, 1) := by decide +kernel
theorem dX3_syllable_66 : decode cX3_syllable 66 = .ok (.if_icmp .lt 6, 3) := by decide +kernel
theorem dX3_syllable_69 : decode cX3_syllable 69 = .ok (.ldc 46, 2) := by decide +kernel
theorem dX3_syllable_71 : decode cX3_syllable 71 = .ok (.ireturn, 1) := by decide +kernel
theorem dX3_syllable_72 : decode cX3_syllable 72 = .ok (.aload_n 0, 1) := by decide +kernel
theorem dX3_syllable_73 : decode cX3_syllable 73 = .ok (.iconst 0, 1) := by decide +kernel
theorem dX3_syllable_74 : decode cX3_syllable 74 = .ok (.putfield 51, 3) := by decide +kernel
theorem dX3_syllable_77 : decode cX3_syllable 77 = .ok (.aload_n 0, 1) := by decide +kernel
theorem dX3_syllable_78 : decode cX3_syllable 78 = .ok (.getfield 17, 3) := by decide +kernel
theorem dX3_syllable_81 : decode cX3_syllable 81 = .ok (.iload_n 2, 1) := by decide +kernel
theorem dX3_syllable_82 : decode cX3_syllable 82 = .ok (.aaload, 1) := by decide +kernel
theorem dX3_syllable_83 : decode cX3_syllable 83 = .ok (.iload_n 1, 1) := by decide +kernel
theorem dX3_syllable_84 : decode cX3_syllable 84 = .ok (.iload_n 3, 1) := by decide +kernel
theorem dX3_syllable_85 : decode cX3_syllable 85 = .ok (.iload 4, 2) := by decide +kernel
theorem dX3_syllable_87 : decode cX3_syllable 87 = .ok (.iload 5, 2) := by decide +kernel
theorem dX3_syllable_89 : decode cX3_syllable 89 = .ok (.invokevirtual 71, 3) := by decide +kernel
theorem dX3_syllable_92 : decode cX3_syllable 92 = .ok (.ireturn, 1) := by decide +kernel
theorem dX3_wipe_0 : decode cX3_wipe 0 = .ok (.aload_n 0, 1) := by decide +kernel
theorem dX3_wipe_1 : decode cX3_wipe 1 = .ok (.iload_n 1, 1) := by decide +kernel
theorem dX3_wipe_2 : decode cX3_wipe 2 = .ok (.invokevirtual 55, 3) := by decide +kernel
theorem dX3_wipe_5 : decode cX3_wipe 5 = .ok (.ifCond .eq 10, 3) := by decide +kernel
theorem dX3_wipe_8 : decode cX3_wipe 8 = .ok (.iload_n 2, 1) := by decide +kernel
theorem dX3_wipe_9 : decode cX3_wipe 9 = .ok (.invokestatic 59, 3) := by decide +kernel
theorem dX3_wipe_12 : decode cX3_wipe 12 = .ok (.ifCond .ne 6, 3) := by decide +kernel
theorem dX3_wipe_15 : decode cX3_wipe 15 = .ok (.ldc 62, 2) := by decide +kernel
theorem dX3_wipe_17 : decode cX3_wipe 17 = .ok (.ireturn, 1) := by decide +kernel
theorem dX3_wipe_18 : decode cX3_wipe 18 = .ok (.aload_n 0, 1) := by decide +kernel
theorem dX3_wipe_19 : decode cX3_wipe 19 = .ok (.iconst 0, 1) := by decide +kernel
theorem dX3_wipe_20 : decode cX3_wipe 20 = .ok (.putfield 51, 3) := by decide +kernel
theorem dX3_wipe_23 : decode cX3_wipe 23 = .ok (.aload_n 0, 1) := by decide +kernel
theorem dX3_wipe_24 : decode cX3_wipe 24 = .ok (.getfield 17, 3) := by decide +kernel
theorem dX3_wipe_27 : decode cX3_wipe 27 = .ok (.iload_n 2, 1) := by decide +kernel
theorem dX3_wipe_28 : decode cX3_wipe 28 = .ok (.aaload, 1) := by decide +kernel
theorem dX3_wipe_29 : decode cX3_wipe 29 = .ok (.iload_n 1, 1) := by decide +kernel
theorem dX3_wipe_30 : decode cX3_wipe 30 = .ok (.invokevirtual 75, 3) := by decide +kernel
theorem dX3_wipe_33 : decode cX3_wipe 33 = .ok (.ireturn, 1) := by decide +kernel
theorem dX3_chord_0 : decode cX3_chord 0 = .ok (.aload_n 0, 1) := by decide +kernel
theorem dX3_chord_1 : decode cX3_chord 1 = .ok (.iload_n 1, 1) := by decide +kernel
theorem dX3_chord_2 : decode cX3_chord 2 = .ok (.invokevirtual 55, 3) := by decide +kernel
theorem dX3_chord_5 : decode cX3_chord 5 = .ok (.ifCond .ne 6, 3) := by decide +kernel
theorem dX3_chord_8 : decode cX3_chord 8 = .ok (.ldc 62, 2) := by decide +kernel
theorem dX3_chord_10 : decode cX3_chord 10 = .ok (.ireturn, 1) := by decide +kernel
theorem dX3_chord_11 : decode cX3_chord 11 = .ok (.iload_n 2, 1) := by decide +kernel
theorem dX3_chord_12 : decode cX3_chord 12 = .ok (.iconst 0, 1) := by decide +kernel
theorem dX3_chord_13 : decode cX3_chord 13 = .ok (.sipush 200, 3) := by decide +kernel
theorem dX3_chord_16 : decode cX3_chord 16 = .ok (.invokestatic 38, 3) := by decide +kernel
theorem dX3_chord_19 : decode cX3_chord 19 = .ok (.ifCond .eq 6, 3) := by decide +kernel
theorem dX3_chord_22 : decode cX3_chord 22 = .ok (.ldc 42, 2) := by decide +kernel
theorem dX3_chord_24 : decode cX3_chord 24 = .ok (.ireturn, 1) := by decide +kernel
theorem dX3_chord_25 : decode cX3_chord 25 = .ok (.aload_n 0, 1) := by decide +kernel
theorem dX3_chord_26 : decode cX3_chord 26 = .ok (.getfield 11, 3) := by decide +kernel
theorem dX3_chord_29 : decode cX3_chord 29 = .ok (.iload_n 1, 1) := by decide +kernel
theorem dX3_chord_30 : decode cX3_chord 30 = .ok (.aaload, 1) := by decide +kernel
theorem dX3_chord_31 : decode cX3_chord 31 = .ok (.getfield 79, 3) := by decide +kernel
theorem dX3_chord_34 : decode cX3_chord 34 = .ok (.istore_n 3, 1) := by decide +kernel
theorem dX3_chord_35 : decode cX3_chord 35 = .ok (.aload_n 0, 1) := by decide +kernel
theorem dX3_chord_36 : decode cX3_chord 36 = .ok (.getfield 11, 3) := by decide +kernel
theorem dX3_chord_39 : decode cX3_chord 39 = .ok (.iload_n 1, 1) := by decide +kernel
theorem dX3_chord_40 : decode cX3_chord 40 = .ok (.aaload, 1) := by decide +kernel
theorem dX3_chord_41 : decode cX3_chord 41 = .ok (.iload_n 2, 1) := by decide +kernel
theorem dX3_chord_42 : decode cX3_chord 42 = .ok (.putfield 79, 3) := by decide +kernel
theorem dX3_chord_45 : decode cX3_chord 45 = .ok (.aload_n 0, 1) := by decide +kernel
theorem dX3_chord_46 : decode cX3_chord 46 = .ok (.iconst 0, 1) := by decide +kernel
theorem dX3_chord_47 : decode cX3_chord 47 = .ok (.putfield 51, 3) := by decide +kernel
theorem dX3_chord_50 : decode cX3_chord 50 = .ok (.iload_n 3, 1) := by decide +kernel
theorem dX3_chord_51 : decode cX3_chord 51 = .ok (.ireturn, 1) := by decide +kernel
theorem dX3_melisma_0 : decode cX3_melisma 0 = .ok (.aload_n 0, 1) := by decide +kernel
theorem dX3_melisma_1 : decode cX3_melisma 1 = .ok (.iload_n 1, 1) := by decide +kernel
theorem dX3_melisma_2 : decode cX3_melisma 2 = .ok (.invokevirtual 55, 3) := by decide +kernel
theorem dX3_melisma_5 : decode cX3_melisma 5 = .ok (.ifCond .ne 6, 3) := by decide +kernel
theorem dX3_melisma_8 : decode cX3_melisma 8 = .ok (.ldc 62, 2) := by decide +kernel
theorem dX3_melisma_10 : decode cX3_melisma 10 = .ok (.ireturn, 1) := by decide +kernel
theorem dX3_melisma_11 : decode cX3_melisma 11 = .ok (.iload_n 2, 1) := by decide +kernel
theorem dX3_melisma_12 : decode cX3_melisma 12 = .ok (.iconst 2, 1) := by decide +kernel
theorem dX3_melisma_13 : decode cX3_melisma 13 = .ok (.bipush 20, 2) := by decide +kernel
theorem dX3_melisma_15 : decode cX3_melisma 15 = .ok (.invokestatic 38, 3) := by decide +kernel
theorem dX3_melisma_18 : decode cX3_melisma 18 = .ok (.ifCond .ne 13, 3) := by decide +kernel
theorem dX3_melisma_21 : decode cX3_melisma 21 = .ok (.iload_n 2, 1) := by decide +kernel
theorem dX3_melisma_22 : decode cX3_melisma 22 = .ok (.aload_n 0, 1) := by decide +kernel
theorem dX3_melisma_23 : decode cX3_melisma 23 = .ok (.getfield 43, 3) := by decide +kernel
theorem dX3_melisma_26 : decode cX3_melisma 26 = .ok (.iload_n 1, 1) := by decide +kernel
theorem dX3_melisma_27 : decode cX3_melisma 27 = .ok (.isub, 1) := by decide +kernel
theorem dX3_melisma_28 : decode cX3_melisma 28 = .ok (.if_icmp .le 6, 3) := by decide +kernel
theorem dX3_melisma_31 : decode cX3_melisma 31 = .ok (.ldc 42, 2) := by decide +kernel
theorem dX3_melisma_33 : decode cX3_melisma 33 = .ok (.ireturn, 1) := by decide +kernel
theorem dX3_melisma_34 : decode cX3_melisma 34 = .ok (.aload_n 0, 1) := by decide +kernel
theorem dX3_melisma_35 : decode cX3_melisma 35 = .ok (.iload_n 1, 1) := by decide +kernel
theorem dX3_melisma_36 : decode cX3_melisma 36 = .ok (.iload_n 2, 1) := by decide +kernel
theorem dX3_melisma_37 : decode cX3_melisma 37 = .ok (.invokevirtual 82, 3) := by decide +kernel
theorem dX3_melisma_40 : decode cX3_melisma 40 = .ok (.ifCond .ne 6, 3) := by decide +kernel
theorem dX3_melisma_43 : decode cX3_melisma 43 = .ok (.ldc 67, 2) := by decide +kernel
theorem dX3_melisma_45 : decode cX3_melisma 45 = .ok (.ireturn, 1) := by decide +kernel
theorem dX3_melisma_46 : decode cX3_melisma 46 = .ok (.iload_n 1, 1) := by decide +kernel
theorem dX3_melisma_47 : decode cX3_melisma 47 = .ok (.istore_n 3, 1) := by decide +kernel
theorem dX3_melisma_48 : decode cX3_melisma 48 = .ok (.iload_n 3, 1) := by decide +kernel
theorem dX3_melisma_49 : decode cX3_melisma 49 = .ok (.iload_n 1, 1) := by decide +kernel
theorem dX3_melisma_50 : decode cX3_melisma 50 = .ok (.iload_n 2, 1) := by decide +kernel
theorem dX3_melisma_51 : decode cX3_melisma 51 = .ok (.iadd, 1) := by decide +kernel
theorem dX3_melisma_52 : decode cX3_melisma 52 = .ok (.if_icmp .ge 33, 3) := by decide +kernel
theorem dX3_melisma_55 : decode cX3_melisma 55 = .ok (.aload_n 0, 1) := by decide +kernel
theorem dX3_melisma_56 : decode cX3_melisma 56 = .ok (.getfield 11, 3) := by decide +kernel
theorem dX3_melisma_59 : decode cX3_melisma 59 = .ok (.iload_n 3, 1) := by decide +kernel
theorem dX3_melisma_60 : decode cX3_melisma 60 = .ok (.aaload, 1) := by decide +kernel
theorem dX3_melisma_61 : decode cX3_melisma 61 = .ok (.iload_n 1, 1) := by decide +kernel
theorem dX3_melisma_62 : decode cX3_melisma 62 = .ok (.putfield 85, 3) := by decide +kernel
theorem dX3_melisma_65 : decode cX3_melisma 65 = .ok (.aload_n 0, 1) := by decide +kernel
theorem dX3_melisma_66 : decode cX3_melisma 66 = .ok (.getfield 11, 3) := by decide +kernel
theorem dX3_melisma_69 : decode cX3_melisma 69 = .ok (.iload_n 3, 1) := by decide +kernel
theorem dX3_melisma_70 : decode cX3_melisma 70 = .ok (.aaload, 1) := by decide +kernel
theorem dX3_melisma_71 : decode cX3_melisma 71 = .ok (.iload_n 1, 1) := by decide +kernel
theorem dX3_melisma_72 : decode cX3_melisma 72 = .ok (.iload_n 2, 1) := by decide +kernel
theorem dX3_melisma_73 : decode cX3_melisma 73 = .ok (.iadd, 1) := by decide +kernel
theorem dX3_melisma_74 : decode cX3_melisma 74 = .ok (.iconst 1, 1) := by decide +kernel
theorem dX3_melisma_75 : decode cX3_melisma 75 = .ok (.isub, 1) := by decide +kernel
theorem dX3_melisma_76 : decode cX3_melisma 76 = .ok (.putfield 88, 3) := by decide +kernel
theorem dX3_melisma_79 : decode cX3_melisma 79 = .ok (.iinc 3 1, 3) := by decide +kernel
theorem dX3_melisma_82 : decode cX3_melisma 82 = .ok (.goto (-34), 3) := by decide +kernel
theorem dX3_melisma_85 : decode cX3_melisma 85 = .ok (.aload_n 0, 1) := by decide +kernel
theorem dX3_melisma_86 : decode cX3_melisma 86 = .ok (.dup, 1) := by decide +kernel
theorem dX3_melisma_87 : decode cX3_melisma 87 = .ok (.getfield 91, 3) := by decide +kernel
theorem dX3_melisma_90 : decode cX3_melisma 90 = .ok (.iconst 1, 1) := by decide +kernel
theorem dX3_melisma_91 : decode cX3_melisma 91 = .ok (.iadd, 1) := by decide +kernel
theorem dX3_melisma_92 : decode cX3_melisma 92 = .ok (.putfield 91, 3) := by decide +kernel
theorem dX3_melisma_95 : decode cX3_melisma 95 = .ok (.aload_n 0, 1) := by decide +kernel
theorem dX3_melisma_96 : decode cX3_melisma 96 = .ok (.iconst 0, 1) := by decide +kernel
theorem dX3_melisma_97 : decode cX3_melisma 97 = .ok (.putfield 51, 3) := by decide +kernel
theorem dX3_melisma_100 : decode cX3_melisma 100 = .ok (.aload_n 0, 1) := by decide +kernel
theorem dX3_melisma_101 : decode cX3_melisma 101 = .ok (.getfield 91, 3) := by decide +kernel
theorem dX3_melisma_104 : decode cX3_melisma 104 = .ok (.ireturn, 1) := by decide +kernel
theorem dX3_refrain_0 : decode cX3_refrain 0 = .ok (.aload_n 0, 1) := by decide +kernel
theorem dX3_refrain_1 : decode cX3_refrain 1 = .ok (.iload_n 1, 1) := by decide +kernel
theorem dX3_refrain_2 : decode cX3_refrain 2 = .ok (.invokevirtual 55, 3) := by decide +kernel
theorem dX3_refrain_5 : decode cX3_refrain 5 = .ok (.ifCond .ne 6, 3) := by decide +kernel
theorem dX3_refrain_8 : decode cX3_refrain 8 = .ok (.ldc 62, 2) := by decide +kernel
theorem dX3_refrain_10 : decode cX3_refrain 10 = .ok (.ireturn, 1) := by decide +kernel
theorem dX3_refrain_11 : decode cX3_refrain 11 = .ok (.iload_n 2, 1) := by decide +kernel
theorem dX3_refrain_12 : decode cX3_refrain 12 = .ok (.iconst 1, 1) := by decide +kernel
theorem dX3_refrain_13 : decode cX3_refrain 13 = .ok (.bipush 60, 2) := by decide +kernel
theorem dX3_refrain_15 : decode cX3_refrain 15 = .ok (.invokestatic 38, 3) := by decide +kernel
theorem dX3_refrain_18 : decode cX3_refrain 18 = .ok (.ifCond .ne 13, 3) := by decide +kernel
theorem dX3_refrain_21 : decode cX3_refrain 21 = .ok (.iload_n 2, 1) := by decide +kernel
theorem dX3_refrain_22 : decode cX3_refrain 22 = .ok (.aload_n 0, 1) := by decide +kernel
theorem dX3_refrain_23 : decode cX3_refrain 23 = .ok (.getfield 43, 3) := by decide +kernel
theorem dX3_refrain_26 : decode cX3_refrain 26 = .ok (.iload_n 1, 1) := by decide +kernel
theorem dX3_refrain_27 : decode cX3_refrain 27 = .ok (.isub, 1) := by decide +kernel
theorem dX3_refrain_28 : decode cX3_refrain 28 = .ok (.if_icmp .le 6, 3) := by decide +kernel
theorem dX3_refrain_31 : decode cX3_refrain 31 = .ok (.ldc 42, 2) := by decide +kernel
theorem dX3_refrain_33 : decode cX3_refrain 33 = .ok (.ireturn, 1) := by decide +kernel
theorem dX3_refrain_34 : decode cX3_refrain 34 = .ok (.aload_n 0, 1) := by decide +kernel
theorem dX3_refrain_35 : decode cX3_refrain 35 = .ok (.iload_n 1, 1) := by decide +kernel
theorem dX3_refrain_36 : decode cX3_refrain 36 = .ok (.iload_n 2, 1) := by decide +kernel
theorem dX3_refrain_37 : decode cX3_refrain 37 = .ok (.invokevirtual 94, 3) := by decide +kernel
theorem dX3_refrain_40 : decode cX3_refrain 40 = .ok (.ifCond .ne 6, 3) := by decide +kernel
theorem dX3_refrain_43 : decode cX3_refrain 43 = .ok (.ldc 67, 2) := by decide +kernel
theorem dX3_refrain_45 : decode cX3_refrain 45 = .ok (.ireturn, 1) := by decide +kernel
theorem dX3_refrain_46 : decode cX3_refrain 46 = .ok (.aload_n 0, 1) := by decide +kernel
theorem dX3_refrain_47 : decode cX3_refrain 47 = .ok (.getfield 97, 3) := by decide +kernel
theorem dX3_refrain_50 : decode cX3_refrain 50 = .ok (.iconst 3, 1) := by decide +kernel
theorem dX3_refrain_51 : decode cX3_refrain 51 = .ok (.if_icmp .lt 6, 3) := by decide +kernel
theorem dX3_refrain_54 : decode cX3_refrain 54 = .ok (.ldc 46, 2) := by decide +kernel
theorem dX3_refrain_56 : decode cX3_refrain 56 = .ok (.ireturn, 1) := by decide +kernel
theorem dX3_refrain_57 : decode cX3_refrain 57 = .ok (.iload_n 1, 1) := by decide +kernel
theorem dX3_refrain_58 : decode cX3_refrain 58 = .ok (.istore_n 3, 1) := by decide +kernel
theorem dX3_refrain_59 : decode cX3_refrain 59 = .ok (.iload_n 3, 1) := by decide +kernel
theorem dX3_refrain_60 : decode cX3_refrain 60 = .ok (.iload_n 1, 1) := by decide +kernel
theorem dX3_refrain_61 : decode cX3_refrain 61 = .ok (.iload_n 2, 1) := by decide +kernel
theorem dX3_refrain_62 : decode cX3_refrain 62 = .ok (.iadd, 1) := by decide +kernel
theorem dX3_refrain_63 : decode cX3_refrain 63 = .ok (.if_icmp .ge 19, 3) := by decide +kernel
theorem dX3_refrain_66 : decode cX3_refrain 66 = .ok (.aload_n 0, 1) := by decide +kernel
theorem dX3_refrain_67 : decode cX3_refrain 67 = .ok (.getfield 11, 3) := by decide +kernel
theorem dX3_refrain_70 : decode cX3_refrain 70 = .ok (.iload_n 3, 1) := by decide +kernel
theorem dX3_refrain_71 : decode cX3_refrain 71 = .ok (.aaload, 1) := by decide +kernel
theorem dX3_refrain_72 : decode cX3_refrain 72 = .ok (.iload_n 1, 1) := by decide +kernel
theorem dX3_refrain_73 : decode cX3_refrain 73 = .ok (.putfield 100, 3) := by decide +kernel
theorem dX3_refrain_76 : decode cX3_refrain 76 = .ok (.iinc 3 1, 3) := by decide +kernel
theorem dX3_refrain_79 : decode cX3_refrain 79 = .ok (.goto (-20), 3) := by decide +kernel
theorem dX3_refrain_82 : decode cX3_refrain 82 = .ok (.aload_n 0, 1) := by decide +kernel
theorem dX3_refrain_83 : decode cX3_refrain 83 = .ok (.dup, 1) := by decide +kernel
theorem dX3_refrain_84 : decode cX3_refrain 84 = .ok (.getfield 97, 3) := by decide +kernel
theorem dX3_refrain_87 : decode cX3_refrain 87 = .ok (.iconst 1, 1) := by decide +kernel
theorem dX3_refrain_88 : decode cX3_refrain 88 = .ok (.iadd, 1) := by decide +kernel
theorem dX3_refrain_89 : decode cX3_refrain 89 = .ok (.putfield 97, 3) := by decide +kernel
theorem dX3_refrain_92 : decode cX3_refrain 92 = .ok (.aload_n 0, 1) := by decide +kernel
theorem dX3_refrain_93 : decode cX3_refrain 93 = .ok (.iconst 0, 1) := by decide +kernel
theorem dX3_refrain_94 : decode cX3_refrain 94 = .ok (.putfield 51, 3) := by decide +kernel
theorem dX3_refrain_97 : decode cX3_refrain 97 = .ok (.aload_n 0, 1) := by decide +kernel
theorem dX3_refrain_98 : decode cX3_refrain 98 = .ok (.getfield 97, 3) := by decide +kernel
theorem dX3_refrain_101 : decode cX3_refrain 101 = .ok (.ireturn, 1) := by decide +kernel
theorem dX3_align_0 : decode cX3_align 0 = .ok (.iload_n 1, 1) := by decide +kernel
theorem dX3_align_1 : decode cX3_align 1 = .ok (.invokestatic 59, 3) := by decide +kernel
theorem dX3_align_4 : decode cX3_align 4 = .ok (.ifCond .ne 6, 3) := by decide +kernel
theorem dX3_align_7 : decode cX3_align 7 = .ok (.ldc 62, 2) := by decide +kernel
theorem dX3_align_9 : decode cX3_align 9 = .ok (.ireturn, 1) := by decide +kernel
theorem dX3_align_10 : decode cX3_align 10 = .ok (.iload_n 2, 1) := by decide +kernel
theorem dX3_align_11 : decode cX3_align 11 = .ok (.iconst 0, 1) := by decide +kernel
theorem dX3_align_12 : decode cX3_align 12 = .ok (.iconst 2, 1) := by decide +kernel
theorem dX3_align_13 : decode cX3_align 13 = .ok (.invokestatic 38, 3) := by decide +kernel
theorem dX3_align_16 : decode cX3_align 16 = .ok (.ifCond .eq 6, 3) := by decide +kernel
theorem dX3_align_19 : decode cX3_align 19 = .ok (.ldc 42, 2) := by decide +kernel
theorem dX3_align_21 : decode cX3_align 21 = .ok (.ireturn, 1) := by decide +kernel
theorem dX3_align_22 : decode cX3_align 22 = .ok (.aload_n 0, 1) := by decide +kernel
theorem dX3_align_23 : decode cX3_align 23 = .ok (.getfield 17, 3) := by decide +kernel
theorem dX3_align_26 : decode cX3_align 26 = .ok (.iload_n 1, 1) := by decide +kernel
theorem dX3_align_27 : decode cX3_align 27 = .ok (.aaload, 1) := by decide +kernel
theorem dX3_align_28 : decode cX3_align 28 = .ok (.getfield 103, 3) := by decide +kernel
theorem dX3_align_31 : decode cX3_align 31 = .ok (.istore_n 3, 1) := by decide +kernel
theorem dX3_align_32 : decode cX3_align 32 = .ok (.aload_n 0, 1) := by decide +kernel
theorem dX3_align_33 : decode cX3_align 33 = .ok (.getfield 17, 3) := by decide +kernel
theorem dX3_align_36 : decode cX3_align 36 = .ok (.iload_n 1, 1) := by decide +kernel
theorem dX3_align_37 : decode cX3_align 37 = .ok (.aaload, 1) := by decide +kernel
theorem dX3_align_38 : decode cX3_align 38 = .ok (.iload_n 2, 1) := by decide +kernel
theorem dX3_align_39 : decode cX3_align 39 = .ok (.putfield 103, 3) := by decide +kernel
theorem dX3_align_42 : decode cX3_align 42 = .ok (.aload_n 0, 1) := by decide +kernel
theorem dX3_align_43 : decode cX3_align 43 = .ok (.iconst 0, 1) := by decide +kernel
theorem dX3_align_44 : decode cX3_align 44 = .ok (.putfield 51, 3) := by decide +kernel
theorem dX3_align_47 : decode cX3_align 47 = .ok (.iload_n 3, 1) := by decide +kernel
theorem dX3_align_48 : decode cX3_align 48 = .ok (.ireturn, 1) := by decide +kernel
theorem dX3_translation_0 : decode cX3_translation 0 = .ok (.iload_n 1, 1) := by decide +kernel
theorem dX3_translation_1 : decode cX3_translation 1 = .ok (.invokestatic 59, 3) := by decide +kernel
theorem dX3_translation_4 : decode cX3_translation 4 = .ok (.ifCond .ne 6, 3) := by decide +kernel
theorem dX3_translation_7 : decode cX3_translation 7 = .ok (.ldc 62, 2) := by decide +kernel
theorem dX3_translation_9 : decode cX3_translation 9 = .ok (.ireturn, 1) := by decide +kernel
theorem dX3_translation_10 : decode cX3_translation 10 = .ok (.aload_n 0, 1) := by decide +kernel
theorem dX3_translation_11 : decode cX3_translation 11 = .ok (.getfield 17, 3) := by decide +kernel
theorem dX3_translation_14 : decode cX3_translation 14 = .ok (.iload_n 1, 1) := by decide +kernel
theorem dX3_translation_15 : decode cX3_translation 15 = .ok (.aaload, 1) := by decide +kernel
theorem dX3_translation_16 : decode cX3_translation 16 = .ok (.getfield 106, 3) := by decide +kernel
theorem dX3_translation_19 : decode cX3_translation 19 = .ok (.invokestatic 109, 3) := by decide +kernel
theorem dX3_translation_22 : decode cX3_translation 22 = .ok (.istore_n 3, 1) := by decide +kernel
theorem dX3_translation_23 : decode cX3_translation 23 = .ok (.aload_n 0, 1) := by decide +kernel
theorem dX3_translation_24 : decode cX3_translation 24 = .ok (.getfield 17, 3) := by decide +kernel
theorem dX3_translation_27 : decode cX3_translation 27 = .ok (.iload_n 1, 1) := by decide +kernel
theorem dX3_translation_28 : decode cX3_translation 28 = .ok (.aaload, 1) := by decide +kernel
theorem dX3_translation_29 : decode cX3_translation 29 = .ok (.iload_n 2, 1) := by decide +kernel
theorem dX3_translation_30 : decode cX3_translation 30 = .ok (.putfield 106, 3) := by decide +kernel
theorem dX3_translation_33 : decode cX3_translation 33 = .ok (.aload_n 0, 1) := by decide +kernel
theorem dX3_translation_34 : decode cX3_translation 34 = .ok (.iconst 0, 1) := by decide +kernel
theorem dX3_translation_35 : decode cX3_translation 35 = .ok (.putfield 51, 3) := by decide +kernel
theorem dX3_translation_38 : decode cX3_translation 38 = .ok (.iload_n 3, 1) := by decide +kernel
theorem dX3_translation_39 : decode cX3_translation 39 = .ok (.ireturn, 1) := by decide +kernel
theorem dX3_limit_0 : decode cX3_limit 0 = .ok (.iload_n 1, 1) := by decide +kernel
theorem dX3_limit_1 : decode cX3_limit 1 = .ok (.bipush 100, 2) := by decide +kernel
theorem dX3_limit_3 : decode cX3_limit 3 = .ok (.sipush 30000, 3) := by decide +kernel
theorem dX3_limit_6 : decode cX3_limit 6 = .ok (.invokestatic 38, 3) := by decide +kernel
theorem dX3_limit_9 : decode cX3_limit 9 = .ok (.ifCond .eq 6, 3) := by decide +kernel
theorem dX3_limit_12 : decode cX3_limit 12 = .ok (.ldc 42, 2) := by decide +kernel
theorem dX3_limit_14 : decode cX3_limit 14 = .ok (.ireturn, 1) := by decide +kernel
theorem dX3_limit_15 : decode cX3_limit 15 = .ok (.aload_n 0, 1) := by decide +kernel
theorem dX3_limit_16 : decode cX3_limit 16 = .ok (.getfield 32, 3) := by decide +kernel
theorem dX3_limit_19 : decode cX3_limit 19 = .ok (.istore_n 2, 1) := by decide +kernel
theorem dX3_limit_20 : decode cX3_limit 20 = .ok (.aload_n 0, 1) := by decide +kernel
theorem dX3_limit_21 : decode cX3_limit 21 = .ok (.iload_n 1, 1) := by decide +kernel
theorem dX3_limit_22 : decode cX3_limit 22 = .ok (.putfield 32, 3) := by decide +kernel
theorem dX3_limit_25 : decode cX3_limit 25 = .ok (.aload_n 0, 1) := by decide +kernel
theorem dX3_limit_26 : decode cX3_limit 26 = .ok (.iconst 0, 1) := by decide +kernel
theorem dX3_limit_27 : decode cX3_limit 27 = .ok (.putfield 51, 3) := by decide +kernel
theorem dX3_limit_30 : decode cX3_limit 30 = .ok (.iload_n 2, 1) := by decide +kernel
theorem dX3_limit_31 : decode cX3_limit 31 = .ok (.ireturn, 1) := by decide +kernel
theorem dX3_place_0 : decode cX3_place 0 = .ok (.aload_n 0, 1) := by decide +kernel
theorem dX3_place_1 : decode cX3_place 1 = .ok (.invokevirtual 113, 3) := by decide +kernel
theorem dX3_place_4 : decode cX3_place 4 = .ok (.aload_n 0, 1) := by decide +kernel
theorem dX3_place_5 : decode cX3_place 5 = .ok (.getfield 32, 3) := by decide +kernel
theorem dX3_place_8 : decode cX3_place 8 = .ok (.isub, 1) := by decide +kernel
theorem dX3_place_9 : decode cX3_place 9 = .ok (.istore_n 1, 1) := by decide +kernel
theorem dX3_place_10 : decode cX3_place 10 = .ok (.aload_n 0, 1) := by decide +kernel
theorem dX3_place_11 : decode cX3_place 11 = .ok (.iconst 1, 1) := by decide +kernel
theorem dX3_place_12 : decode cX3_place 12 = .ok (.putfield 51, 3) := by decide +kernel
theorem dX3_place_15 : decode cX3_place 15 = .ok (.iload_n 1, 1) := by decide +kernel
theorem dX3_place_16 : decode cX3_place 16 = .ok (.iconst 0, 1) := by decide +kernel
theorem dX3_place_17 : decode cX3_place 17 = .ok (.invokestatic 117, 3) := by decide +kernel
theorem dX3_place_20 : decode cX3_place 20 = .ok (.ireturn, 1) := by decide +kernel
theorem dX3_x_0 : decode cX3_x 0 = .ok (.aload_n 0, 1) := by decide +kernel
theorem dX3_x_1 : decode cX3_x 1 = .ok (.iload_n 1, 1) := by decide +kernel
theorem dX3_x_2 : decode cX3_x 2 = .ok (.invokevirtual 55, 3) := by decide +kernel
theorem dX3_x_5 : decode cX3_x 5 = .ok (.ifCond .ne 6, 3) := by decide +kernel
theorem dX3_x_8 : decode cX3_x 8 = .ok (.ldc 62, 2) := by decide +kernel
theorem dX3_x_10 : decode cX3_x 10 = .ok (.ireturn, 1) := by decide +kernel
theorem dX3_x_11 : decode cX3_x 11 = .ok (.iload_n 2, 1) := by decide +kernel
theorem dX3_x_12 : decode cX3_x 12 = .ok (.iconst 0, 1) := by decide +kernel
theorem dX3_x_13 : decode cX3_x 13 = .ok (.iconst 1, 1) := by decide +kernel
theorem dX3_x_14 : decode cX3_x 14 = .ok (.invokestatic 38, 3) := by decide +kernel
theorem dX3_x_17 : decode cX3_x 17 = .ok (.ifCond .eq 6, 3) := by decide +kernel
theorem dX3_x_20 : decode cX3_x 20 = .ok (.ldc 42, 2) := by decide +kernel
theorem dX3_x_22 : decode cX3_x 22 = .ok (.ireturn, 1) := by decide +kernel
theorem dX3_x_23 : decode cX3_x 23 = .ok (.aload_n 0, 1) := by decide +kernel
theorem dX3_x_24 : decode cX3_x 24 = .ok (.getfield 51, 3) := by decide +kernel
theorem dX3_x_27 : decode cX3_x 27 = .ok (.ifCond .ne 6, 3) := by decide +kernel
theorem dX3_x_30 : decode cX3_x 30 = .ok (.ldc 67, 2) := by decide +kernel
theorem dX3_x_32 : decode cX3_x 32 = .ok (.ireturn, 1) := by decide +kernel
theorem dX3_x_33 : decode cX3_x 33 = .ok (.iload_n 2, 1) := by decide +kernel
theorem dX3_x_34 : decode cX3_x 34 = .ok (.ifCond .ne 15, 3) := by decide +kernel
theorem dX3_x_37 : decode cX3_x 37 = .ok (.aload_n 0, 1) := by decide +kernel
theorem dX3_x_38 : decode cX3_x 38 = .ok (.getfield 11, 3) := by decide +kernel
theorem dX3_x_41 : decode cX3_x 41 = .ok (.iload_n 1, 1) := by decide +kernel
theorem dX3_x_42 : decode cX3_x 42 = .ok (.aaload, 1) := by decide +kernel
theorem dX3_x_43 : decode cX3_x 43 = .ok (.getfield 123, 3) := by decide +kernel
theorem dX3_x_46 : decode cX3_x 46 = .ok (.goto 12, 3) := by decide +kernel
theorem dX3_x_49 : decode cX3_x 49 = .ok (.aload_n 0, 1) := by decide +kernel
theorem dX3_x_50 : decode cX3_x 50 = .ok (.getfield 11, 3) := by decide +kernel
theorem dX3_x_53 : decode cX3_x 53 = .ok (.iload_n 1, 1) := by decide +kernel
theorem dX3_x_54 : decode cX3_x 54 = .ok (.aaload, 1) := by decide +kernel
theorem dX3_x_55 : decode cX3_x 55 = .ok (.getfield 126, 3) := by decide +kernel
theorem dX3_x_58 : decode cX3_x 58 = .ok (.ireturn, 1) := by decide +kernel
theorem dX3_box_0 : decode cX3_box 0 = .ok (.aload_n 0, 1) := by decide +kernel
theorem dX3_box_1 : decode cX3_box 1 = .ok (.iload_n 1, 1) := by decide +kernel
theorem dX3_box_2 : decode cX3_box 2 = .ok (.iload_n 2, 1) := by decide +kernel
theorem dX3_box_3 : decode cX3_box 3 = .ok (.invokevirtual 129, 3) := by decide +kernel
theorem dX3_box_6 : decode cX3_box 6 = .ok (.ifCond .ne 6, 3) := by decide +kernel
theorem dX3_box_9 : decode cX3_box 9 = .ok (.ldc 62, 2) := by decide +kernel
theorem dX3_box_11 : decode cX3_box 11 = .ok (.ireturn, 1) := by decide +kernel
theorem dX3_box_12 : decode cX3_box 12 = .ok (.iload_n 3, 1) := by decide +kernel
theorem dX3_box_13 : decode cX3_box 13 = .ok (.iconst 0, 1) := by decide +kernel
theorem dX3_box_14 : decode cX3_box 14 = .ok (.iconst 4, 1) := by decide +kernel
theorem dX3_box_15 : decode cX3_box 15 = .ok (.invokestatic 38, 3) := by decide +kernel
theorem dX3_box_18 : decode cX3_box 18 = .ok (.ifCond .eq 6, 3) := by decide +kernel
theorem dX3_box_21 : decode cX3_box 21 = .ok (.ldc 42, 2) := by decide +kernel
theorem dX3_box_23 : decode cX3_box 23 = .ok (.ireturn, 1) := by decide +kernel
theorem dX3_box_24 : decode cX3_box 24 = .ok (.aload_n 0, 1) := by decide +kernel
theorem dX3_box_25 : decode cX3_box 25 = .ok (.getfield 51, 3) := by decide +kernel
theorem dX3_box_28 : decode cX3_box 28 = .ok (.ifCond .ne 6, 3) := by decide +kernel
theorem dX3_box_31 : decode cX3_box 31 = .ok (.ldc 67, 2) := by decide +kernel
theorem dX3_box_33 : decode cX3_box 33 = .ok (.ireturn, 1) := by decide +kernel
theorem dX3_box_34 : decode cX3_box 34 = .ok (.aload_n 0, 1) := by decide +kernel
theorem dX3_box_35 : decode cX3_box 35 = .ok (.getfield 17, 3) := by decide +kernel
theorem dX3_box_38 : decode cX3_box 38 = .ok (.iload_n 2, 1) := by decide +kernel
theorem dX3_box_39 : decode cX3_box 39 = .ok (.aaload, 1) := by decide +kernel
theorem dX3_box_40 : decode cX3_box 40 = .ok (.astore 4, 2) := by decide +kernel
theorem dX3_box_42 : decode cX3_box 42 = .ok (.iload_n 3, 1) := by decide +kernel
theorem dX3_box_43 : decode cX3_box 43 = .ok (.tableswitch 61 0 3 #[29, 37, 44, 54], 29) := by decide +kernel
theorem dX3_box_72 : decode cX3_box 72 = .ok (.aload 4, 2) := by decide +kernel
theorem dX3_box_74 : decode cX3_box 74 = .ok (.getfield 132, 3) := by decide +kernel
theorem dX3_box_77 : decode cX3_box 77 = .ok (.iload_n 1, 1) := by decide +kernel
theorem dX3_box_78 : decode cX3_box 78 = .ok (.iaload, 1) := by decide +kernel
theorem dX3_box_79 : decode cX3_box 79 = .ok (.ireturn, 1) := by decide +kernel
theorem dX3_box_80 : decode cX3_box 80 = .ok (.aload 4, 2) := by decide +kernel
theorem dX3_box_82 : decode cX3_box 82 = .ok (.iload_n 1, 1) := by decide +kernel
theorem dX3_box_83 : decode cX3_box 83 = .ok (.invokevirtual 135, 3) := by decide +kernel
theorem dX3_box_86 : decode cX3_box 86 = .ok (.ireturn, 1) := by decide +kernel
theorem dX3_box_87 : decode cX3_box 87 = .ok (.aload 4, 2) := by decide +kernel
theorem dX3_box_89 : decode cX3_box 89 = .ok (.iload_n 1, 1) := by decide +kernel
theorem dX3_box_90 : decode cX3_box 90 = .ok (.invokevirtual 138, 3) := by decide +kernel
theorem dX3_box_93 : decode cX3_box 93 = .ok (.invokestatic 109, 3) := by decide +kernel
theorem dX3_box_96 : decode cX3_box 96 = .ok (.ireturn, 1) := by decide +kernel
theorem dX3_box_97 : decode cX3_box 97 = .ok (.aload 4, 2) := by decide +kernel
theorem dX3_box_99 : decode cX3_box 99 = .ok (.iload_n 1, 1) := by decide +kernel
theorem dX3_box_100 : decode cX3_box 100 = .ok (.invokevirtual 141, 3) := by decide +kernel
theorem dX3_box_103 : decode cX3_box 103 = .ok (.ireturn, 1) := by decide +kernel
theorem dX3_box_104 : decode cX3_box 104 = .ok (.aload_n 0, 1) := by decide +kernel
theorem dX3_box_105 : decode cX3_box 105 = .ok (.getfield 11, 3) := by decide +kernel
theorem dX3_box_108 : decode cX3_box 108 = .ok (.iload_n 1, 1) := by decide +kernel
theorem dX3_box_109 : decode cX3_box 109 = .ok (.aaload, 1) := by decide +kernel
theorem dX3_box_110 : decode cX3_box 110 = .ok (.getfield 123, 3) := by decide +kernel
theorem dX3_box_113 : decode cX3_box 113 = .ok (.aload 4, 2) := by decide +kernel
theorem dX3_box_115 : decode cX3_box 115 = .ok (.getfield 132, 3) := by decide +kernel
theorem dX3_box_118 : decode cX3_box 118 = .ok (.iload_n 1, 1) := by decide +kernel
theorem dX3_box_119 : decode cX3_box 119 = .ok (.iaload, 1) := by decide +kernel
theorem dX3_box_120 : decode cX3_box 120 = .ok (.aload 4, 2) := by decide +kernel
theorem dX3_box_122 : decode cX3_box 122 = .ok (.iload_n 1, 1) := by decide +kernel
theorem dX3_box_123 : decode cX3_box 123 = .ok (.invokevirtual 141, 3) := by decide +kernel
theorem dX3_box_126 : decode cX3_box 126 = .ok (.invokestatic 38, 3) := by decide +kernel
theorem dX3_box_129 : decode cX3_box 129 = .ok (.ifCond .ne 7, 3) := by decide +kernel
theorem dX3_box_132 : decode cX3_box 132 = .ok (.iconst 1, 1) := by decide +kernel
theorem dX3_box_133 : decode cX3_box 133 = .ok (.goto 4, 3) := by decide +kernel
theorem dX3_box_136 : decode cX3_box 136 = .ok (.iconst 0, 1) := by decide +kernel
theorem dX3_box_137 : decode cX3_box 137 = .ok (.invokestatic 109, 3) := by decide +kernel
theorem dX3_box_140 : decode cX3_box 140 = .ok (.ireturn, 1) := by decide +kernel
theorem dX3_hyphens_0 : decode cX3_hyphens 0 = .ok (.aload_n 0, 1) := by decide +kernel
theorem dX3_hyphens_1 : decode cX3_hyphens 1 = .ok (.iload_n 1, 1) := by decide +kernel
theorem dX3_hyphens_2 : decode cX3_hyphens 2 = .ok (.iload_n 2, 1) := by decide +kernel
theorem dX3_hyphens_3 : decode cX3_hyphens 3 = .ok (.invokevirtual 129, 3) := by decide +kernel
theorem dX3_hyphens_6 : decode cX3_hyphens 6 = .ok (.ifCond .ne 6, 3) := by decide +kernel
theorem dX3_hyphens_9 : decode cX3_hyphens 9 = .ok (.ldc 62, 2) := by decide +kernel
theorem dX3_hyphens_11 : decode cX3_hyphens 11 = .ok (.ireturn, 1) := by decide +kernel
theorem dX3_hyphens_12 : decode cX3_hyphens 12 = .ok (.aload_n 0, 1) := by decide +kernel
theorem dX3_hyphens_13 : decode cX3_hyphens 13 = .ok (.getfield 51, 3) := by decide +kernel
theorem dX3_hyphens_16 : decode cX3_hyphens 16 = .ok (.ifCond .ne 6, 3) := by decide +kernel
theorem dX3_hyphens_19 : decode cX3_hyphens 19 = .ok (.ldc 67, 2) := by decide +kernel
theorem dX3_hyphens_21 : decode cX3_hyphens 21 = .ok (.ireturn, 1) := by decide +kernel
theorem dX3_hyphens_22 : decode cX3_hyphens 22 = .ok (.aload_n 0, 1) := by decide +kernel
theorem dX3_hyphens_23 : decode cX3_hyphens 23 = .ok (.getfield 17, 3) := by decide +kernel
theorem dX3_hyphens_26 : decode cX3_hyphens 26 = .ok (.iload_n 2, 1) := by decide +kernel
theorem dX3_hyphens_27 : decode cX3_hyphens 27 = .ok (.aaload, 1) := by decide +kernel
theorem dX3_hyphens_28 : decode cX3_hyphens 28 = .ok (.iload_n 1, 1) := by decide +kernel
theorem dX3_hyphens_29 : decode cX3_hyphens 29 = .ok (.invokevirtual 144, 3) := by decide +kernel
theorem dX3_hyphens_32 : decode cX3_hyphens 32 = .ok (.invokestatic 147, 3) := by decide +kernel
theorem dX3_hyphens_35 : decode cX3_hyphens 35 = .ok (.ireturn, 1) := by decide +kernel
theorem dX3_hyphen_0 : decode cX3_hyphen 0 = .ok (.aload_n 0, 1) := by decide +kernel
theorem dX3_hyphen_1 : decode cX3_hyphen 1 = .ok (.iload_n 1, 1) := by decide +kernel
theorem dX3_hyphen_2 : decode cX3_hyphen 2 = .ok (.iload_n 2, 1) := by decide +kernel
theorem dX3_hyphen_3 : decode cX3_hyphen 3 = .ok (.invokevirtual 129, 3) := by decide +kernel
theorem dX3_hyphen_6 : decode cX3_hyphen 6 = .ok (.ifCond .ne 6, 3) := by decide +kernel
theorem dX3_hyphen_9 : decode cX3_hyphen 9 = .ok (.ldc 62, 2) := by decide +kernel
theorem dX3_hyphen_11 : decode cX3_hyphen 11 = .ok (.ireturn, 1) := by decide +kernel
theorem dX3_hyphen_12 : decode cX3_hyphen 12 = .ok (.aload_n 0, 1) := by decide +kernel
theorem dX3_hyphen_13 : decode cX3_hyphen 13 = .ok (.getfield 51, 3) := by decide +kernel
theorem dX3_hyphen_16 : decode cX3_hyphen 16 = .ok (.ifCond .ne 6, 3) := by decide +kernel
theorem dX3_hyphen_19 : decode cX3_hyphen 19 = .ok (.ldc 67, 2) := by decide +kernel
theorem dX3_hyphen_21 : decode cX3_hyphen 21 = .ok (.ireturn, 1) := by decide +kernel
theorem dX3_hyphen_22 : decode cX3_hyphen 22 = .ok (.aload_n 0, 1) := by decide +kernel
theorem dX3_hyphen_23 : decode cX3_hyphen 23 = .ok (.getfield 17, 3) := by decide +kernel
theorem dX3_hyphen_26 : decode cX3_hyphen 26 = .ok (.iload_n 2, 1) := by decide +kernel
theorem dX3_hyphen_27 : decode cX3_hyphen 27 = .ok (.aaload, 1) := by decide +kernel
theorem dX3_hyphen_28 : decode cX3_hyphen 28 = .ok (.iload_n 1, 1) := by decide +kernel
theorem dX3_hyphen_29 : decode cX3_hyphen 29 = .ok (.invokevirtual 144, 3) := by decide +kernel
theorem dX3_hyphen_32 : decode cX3_hyphen 32 = .ok (.istore 4, 2) := by decide +kernel
theorem dX3_hyphen_34 : decode cX3_hyphen 34 = .ok (.iload 4, 2) := by decide +kernel
theorem dX3_hyphen_36 : decode cX3_hyphen 36 = .ok (.invokestatic 147, 3) := by decide +kernel
theorem dX3_hyphen_39 : decode cX3_hyphen 39 = .ok (.istore 5, 2) := by decide +kernel
theorem dX3_hyphen_41 : decode cX3_hyphen 41 = .ok (.iload 5, 2) := by decide +kernel
theorem dX3_hyphen_43 : decode cX3_hyphen 43 = .ok (.iconst 1, 1) := by decide +kernel
theorem dX3_hyphen_44 : decode cX3_hyphen 44 = .ok (.if_icmp .lt 15, 3) := by decide +kernel
theorem dX3_hyphen_47 : decode cX3_hyphen 47 = .ok (.iload_n 3, 1) := by decide +kernel
theorem dX3_hyphen_48 : decode cX3_hyphen 48 = .ok (.iconst 0, 1) := by decide +kernel
theorem dX3_hyphen_49 : decode cX3_hyphen 49 = .ok (.iload 5, 2) := by decide +kernel
theorem dX3_hyphen_51 : decode cX3_hyphen 51 = .ok (.iconst 1, 1) := by decide +kernel
theorem dX3_hyphen_52 : decode cX3_hyphen 52 = .ok (.isub, 1) := by decide +kernel
theorem dX3_hyphen_53 : decode cX3_hyphen 53 = .ok (.invokestatic 38, 3) := by decide +kernel
theorem dX3_hyphen_56 : decode cX3_hyphen 56 = .ok (.ifCond .eq 13, 3) := by decide +kernel
theorem dX3_hyphen_59 : decode cX3_hyphen 59 = .ok (.new 150, 3) := by decide +kernel
theorem dX3_hyphen_62 : decode cX3_hyphen 62 = .ok (.dup, 1) := by decide +kernel
theorem dX3_hyphen_63 : decode cX3_hyphen 63 = .ok (.ldc 152, 2) := by decide +kernel
theorem dX3_hyphen_65 : decode cX3_hyphen 65 = .ok (.invokespecial 154, 3) := by decide +kernel
theorem dX3_hyphen_68 : decode cX3_hyphen 68 = .ok (.athrow, 1) := by decide +kernel
theorem dX3_hyphen_69 : decode cX3_hyphen 69 = .ok (.aload_n 0, 1) := by decide +kernel
theorem dX3_hyphen_70 : decode cX3_hyphen 70 = .ok (.getfield 17, 3) := by decide +kernel
theorem dX3_hyphen_73 : decode cX3_hyphen 73 = .ok (.iload_n 2, 1) := by decide +kernel
theorem dX3_hyphen_74 : decode cX3_hyphen 74 = .ok (.aaload, 1) := by decide +kernel
theorem dX3_hyphen_75 : decode cX3_hyphen 75 = .ok (.iload_n 1, 1) := by decide +kernel
theorem dX3_hyphen_76 : decode cX3_hyphen 76 = .ok (.invokevirtual 141, 3) := by decide +kernel
theorem dX3_hyphen_79 : decode cX3_hyphen 79 = .ok (.iconst 2, 1) := by decide +kernel
theorem dX3_hyphen_80 : decode cX3_hyphen 80 = .ok (.iload_n 3, 1) := by decide +kernel
theorem dX3_hyphen_81 : decode cX3_hyphen 81 = .ok (.imul, 1) := by decide +kernel
theorem dX3_hyphen_82 : decode cX3_hyphen 82 = .ok (.iconst 1, 1) := by decide +kernel
theorem dX3_hyphen_83 : decode cX3_hyphen 83 = .ok (.iadd, 1) := by decide +kernel
theorem dX3_hyphen_84 : decode cX3_hyphen 84 = .ok (.iload 4, 2) := by decide +kernel
theorem dX3_hyphen_86 : decode cX3_hyphen 86 = .ok (.imul, 1) := by decide +kernel
theorem dX3_hyphen_87 : decode cX3_hyphen 87 = .ok (.iconst 2, 1) := by decide +kernel
theorem dX3_hyphen_88 : decode cX3_hyphen 88 = .ok (.iload 5, 2) := by decide +kernel
theorem dX3_hyphen_90 : decode cX3_hyphen 90 = .ok (.imul, 1) := by decide +kernel
theorem dX3_hyphen_91 : decode cX3_hyphen 91 = .ok (.idiv, 1) := by decide +kernel
theorem dX3_hyphen_92 : decode cX3_hyphen 92 = .ok (.iadd, 1) := by decide +kernel
theorem dX3_hyphen_93 : decode cX3_hyphen 93 = .ok (.iconst 3, 1) := by decide +kernel
theorem dX3_hyphen_94 : decode cX3_hyphen 94 = .ok (.isub, 1) := by decide +kernel
theorem dX3_hyphen_95 : decode cX3_hyphen 95 = .ok (.ireturn, 1) := by decide +kernel
theorem dX3_line_0 : decode cX3_line 0 = .ok (.aload_n 0, 1) := by decide +kernel
theorem dX3_line_1 : decode cX3_line 1 = .ok (.iload_n 1, 1) := by decide +kernel
theorem dX3_line_2 : decode cX3_line 2 = .ok (.iload_n 2, 1) := by decide +kernel
theorem dX3_line_3 : decode cX3_line 3 = .ok (.invokevirtual 129, 3) := by decide +kernel
theorem dX3_line_6 : decode cX3_line 6 = .ok (.ifCond .ne 6, 3) := by decide +kernel
theorem dX3_line_9 : decode cX3_line 9 = .ok (.ldc 62, 2) := by decide +kernel
theorem dX3_line_11 : decode cX3_line 11 = .ok (.ireturn, 1) := by decide +kernel
theorem dX3_line_12 : decode cX3_line 12 = .ok (.iload_n 3, 1) := by decide +kernel
theorem dX3_line_13 : decode cX3_line 13 = .ok (.iconst 0, 1) := by decide +kernel
theorem dX3_line_14 : decode cX3_line 14 = .ok (.iconst 1, 1) := by decide +kernel
theorem dX3_line_15 : decode cX3_line 15 = .ok (.invokestatic 38, 3) := by decide +kernel
theorem dX3_line_18 : decode cX3_line 18 = .ok (.ifCond .eq 6, 3) := by decide +kernel
theorem dX3_line_21 : decode cX3_line 21 = .ok (.ldc 42, 2) := by decide +kernel
theorem dX3_line_23 : decode cX3_line 23 = .ok (.ireturn, 1) := by decide +kernel
theorem dX3_line_24 : decode cX3_line 24 = .ok (.aload_n 0, 1) := by decide +kernel
theorem dX3_line_25 : decode cX3_line 25 = .ok (.getfield 51, 3) := by decide +kernel
theorem dX3_line_28 : decode cX3_line 28 = .ok (.ifCond .ne 6, 3) := by decide +kernel
theorem dX3_line_31 : decode cX3_line 31 = .ok (.ldc 67, 2) := by decide +kernel
theorem dX3_line_33 : decode cX3_line 33 = .ok (.ireturn, 1) := by decide +kernel
theorem dX3_line_34 : decode cX3_line 34 = .ok (.aload_n 0, 1) := by decide +kernel
theorem dX3_line_35 : decode cX3_line 35 = .ok (.getfield 17, 3) := by decide +kernel
theorem dX3_line_38 : decode cX3_line 38 = .ok (.iload_n 2, 1) := by decide +kernel
theorem dX3_line_39 : decode cX3_line 39 = .ok (.aaload, 1) := by decide +kernel
theorem dX3_line_40 : decode cX3_line 40 = .ok (.astore 4, 2) := by decide +kernel
theorem dX3_line_42 : decode cX3_line 42 = .ok (.aload_n 0, 1) := by decide +kernel
theorem dX3_line_43 : decode cX3_line 43 = .ok (.getfield 11, 3) := by decide +kernel
theorem dX3_line_46 : decode cX3_line 46 = .ok (.iload_n 1, 1) := by decide +kernel
theorem dX3_line_47 : decode cX3_line 47 = .ok (.aaload, 1) := by decide +kernel
theorem dX3_line_48 : decode cX3_line 48 = .ok (.getfield 85, 3) := by decide +kernel
theorem dX3_line_51 : decode cX3_line 51 = .ok (.iload_n 1, 1) := by decide +kernel
theorem dX3_line_52 : decode cX3_line 52 = .ok (.if_icmp .ne 12, 3) := by decide +kernel
theorem dX3_line_55 : decode cX3_line 55 = .ok (.aload 4, 2) := by decide +kernel
theorem dX3_line_57 : decode cX3_line 57 = .ok (.iload_n 1, 1) := by decide +kernel
theorem dX3_line_58 : decode cX3_line 58 = .ok (.invokevirtual 157, 3) := by decide +kernel
theorem dX3_line_61 : decode cX3_line 61 = .ok (.ifCond .eq 6, 3) := by decide +kernel
theorem dX3_line_64 : decode cX3_line 64 = .ok (.ldc 160, 2) := by decide +kernel
theorem dX3_line_66 : decode cX3_line 66 = .ok (.ireturn, 1) := by decide +kernel
theorem dX3_line_67 : decode cX3_line 67 = .ok (.aload 4, 2) := by decide +kernel
theorem dX3_line_69 : decode cX3_line 69 = .ok (.iload_n 1, 1) := by decide +kernel
theorem dX3_line_70 : decode cX3_line 70 = .ok (.invokevirtual 141, 3) := by decide +kernel
theorem dX3_line_73 : decode cX3_line 73 = .ok (.iconst 2, 1) := by decide +kernel
theorem dX3_line_74 : decode cX3_line 74 = .ok (.iadd, 1) := by decide +kernel
theorem dX3_line_75 : decode cX3_line 75 = .ok (.istore 5, 2) := by decide +kernel
theorem dX3_line_77 : decode cX3_line 77 = .ok (.aload_n 0, 1) := by decide +kernel
theorem dX3_line_78 : decode cX3_line 78 = .ok (.iload_n 1, 1) := by decide +kernel
theorem dX3_line_79 : decode cX3_line 79 = .ok (.aload 4, 2) := by decide +kernel
theorem dX3_line_81 : decode cX3_line 81 = .ok (.invokevirtual 161, 3) := by decide +kernel
theorem dX3_line_84 : decode cX3_line 84 = .ok (.istore 6, 2) := by decide +kernel
theorem dX3_line_86 : decode cX3_line 86 = .ok (.iload 6, 2) := by decide +kernel
theorem dX3_line_88 : decode cX3_line 88 = .ok (.iload 5, 2) := by decide +kernel
theorem dX3_line_90 : decode cX3_line 90 = .ok (.isub, 1) := by decide +kernel
theorem dX3_line_91 : decode cX3_line 91 = .ok (.bipush 10, 2) := by decide +kernel
theorem dX3_line_93 : decode cX3_line 93 = .ok (.if_icmp .ge 6, 3) := by decide +kernel
theorem dX3_line_96 : decode cX3_line 96 = .ok (.ldc 160, 2) := by decide +kernel
theorem dX3_line_98 : decode cX3_line 98 = .ok (.ireturn, 1) := by decide +kernel
theorem dX3_line_99 : decode cX3_line 99 = .ok (.iload_n 3, 1) := by decide +kernel
theorem dX3_line_100 : decode cX3_line 100 = .ok (.ifCond .ne 8, 3) := by decide +kernel
theorem dX3_line_103 : decode cX3_line 103 = .ok (.iload 5, 2) := by decide +kernel
theorem dX3_line_105 : decode cX3_line 105 = .ok (.goto 5, 3) := by decide +kernel
theorem dX3_line_108 : decode cX3_line 108 = .ok (.iload 6, 2) := by decide +kernel
theorem dX3_line_110 : decode cX3_line 110 = .ok (.ireturn, 1) := by decide +kernel
theorem dX3_strain_0 : decode cX3_strain 0 = .ok (.aload_n 0, 1) := by decide +kernel
theorem dX3_strain_1 : decode cX3_strain 1 = .ok (.getfield 51, 3) := by decide +kernel
theorem dX3_strain_4 : decode cX3_strain 4 = .ok (.ifCond .ne 6, 3) := by decide +kernel
theorem dX3_strain_7 : decode cX3_strain 7 = .ok (.ldc 67, 2) := by decide +kernel
theorem dX3_strain_9 : decode cX3_strain 9 = .ok (.ireturn, 1) := by decide +kernel
theorem dX3_strain_10 : decode cX3_strain 10 = .ok (.aload_n 0, 1) := by decide +kernel
theorem dX3_strain_11 : decode cX3_strain 11 = .ok (.getfield 43, 3) := by decide +kernel
theorem dX3_strain_14 : decode cX3_strain 14 = .ok (.ifCond .ne 7, 3) := by decide +kernel
theorem dX3_strain_17 : decode cX3_strain 17 = .ok (.iconst 0, 1) := by decide +kernel
theorem dX3_strain_18 : decode cX3_strain 18 = .ok (.goto 17, 3) := by decide +kernel
theorem dX3_strain_21 : decode cX3_strain 21 = .ok (.aload_n 0, 1) := by decide +kernel
theorem dX3_strain_22 : decode cX3_strain 22 = .ok (.getfield 11, 3) := by decide +kernel
theorem dX3_strain_25 : decode cX3_strain 25 = .ok (.aload_n 0, 1) := by decide +kernel
theorem dX3_strain_26 : decode cX3_strain 26 = .ok (.getfield 43, 3) := by decide +kernel
theorem dX3_strain_29 : decode cX3_strain 29 = .ok (.iconst 1, 1) := by decide +kernel
theorem dX3_strain_30 : decode cX3_strain 30 = .ok (.isub, 1) := by decide +kernel
theorem dX3_strain_31 : decode cX3_strain 31 = .ok (.aaload, 1) := by decide +kernel
theorem dX3_strain_32 : decode cX3_strain 32 = .ok (.getfield 123, 3) := by decide +kernel
theorem dX3_strain_35 : decode cX3_strain 35 = .ok (.istore_n 1, 1) := by decide +kernel
theorem dX3_strain_36 : decode cX3_strain 36 = .ok (.iload_n 1, 1) := by decide +kernel
theorem dX3_strain_37 : decode cX3_strain 37 = .ok (.ifCond .ne 13, 3) := by decide +kernel
theorem dX3_strain_40 : decode cX3_strain 40 = .ok (.new 165, 3) := by decide +kernel
theorem dX3_strain_43 : decode cX3_strain 43 = .ok (.dup, 1) := by decide +kernel
theorem dX3_strain_44 : decode cX3_strain 44 = .ok (.ldc 167, 2) := by decide +kernel
theorem dX3_strain_46 : decode cX3_strain 46 = .ok (.invokespecial 169, 3) := by decide +kernel
theorem dX3_strain_49 : decode cX3_strain 49 = .ok (.athrow, 1) := by decide +kernel
theorem dX3_strain_50 : decode cX3_strain 50 = .ok (.iconst 0, 1) := by decide +kernel
theorem dX3_strain_51 : decode cX3_strain 51 = .ok (.istore_n 2, 1) := by decide +kernel
theorem dX3_strain_52 : decode cX3_strain 52 = .ok (.iconst 0, 1) := by decide +kernel
theorem dX3_strain_53 : decode cX3_strain 53 = .ok (.istore_n 3, 1) := by decide +kernel
theorem dX3_strain_54 : decode cX3_strain 54 = .ok (.iload_n 3, 1) := by decide +kernel
theorem dX3_strain_55 : decode cX3_strain 55 = .ok (.aload_n 0, 1) := by decide +kernel
theorem dX3_strain_56 : decode cX3_strain 56 = .ok (.getfield 43, 3) := by decide +kernel
theorem dX3_strain_59 : decode cX3_strain 59 = .ok (.if_icmp .ge 21, 3) := by decide +kernel
theorem dX3_strain_62 : decode cX3_strain 62 = .ok (.iload_n 2, 1) := by decide +kernel
theorem dX3_strain_63 : decode cX3_strain 63 = .ok (.aload_n 0, 1) := by decide +kernel
theorem dX3_strain_64 : decode cX3_strain 64 = .ok (.getfield 11, 3) := by decide +kernel
theorem dX3_strain_67 : decode cX3_strain 67 = .ok (.iload_n 3, 1) := by decide +kernel
theorem dX3_strain_68 : decode cX3_strain 68 = .ok (.aaload, 1) := by decide +kernel
theorem dX3_strain_69 : decode cX3_strain 69 = .ok (.getfield 126, 3) := by decide +kernel
theorem dX3_strain_72 : decode cX3_strain 72 = .ok (.iadd, 1) := by decide +kernel
theorem dX3_strain_73 : decode cX3_strain 73 = .ok (.istore_n 2, 1) := by decide +kernel
theorem dX3_strain_74 : decode cX3_strain 74 = .ok (.iinc 3 1, 3) := by decide +kernel
theorem dX3_strain_77 : decode cX3_strain 77 = .ok (.goto (-23), 3) := by decide +kernel
theorem dX3_strain_80 : decode cX3_strain 80 = .ok (.sipush 1000, 3) := by decide +kernel
theorem dX3_strain_83 : decode cX3_strain 83 = .ok (.iload_n 2, 1) := by decide +kernel
theorem dX3_strain_84 : decode cX3_strain 84 = .ok (.imul, 1) := by decide +kernel
theorem dX3_strain_85 : decode cX3_strain 85 = .ok (.iload_n 1, 1) := by decide +kernel
theorem dX3_strain_86 : decode cX3_strain 86 = .ok (.idiv, 1) := by decide +kernel
theorem dX3_strain_87 : decode cX3_strain 87 = .ok (.ireturn, 1) := by decide +kernel
theorem dX3_faults_0 : decode cX3_faults 0 = .ok (.aload_n 0, 1) := by decide +kernel
theorem dX3_faults_1 : decode cX3_faults 1 = .ok (.invokevirtual 170, 3) := by decide +kernel
theorem dX3_faults_4 : decode cX3_faults 4 = .ok (.ireturn, 1) := by decide +kernel
theorem dX3_fault_0 : decode cX3_fault 0 = .ok (.aload_n 0, 1) := by decide +kernel
theorem dX3_fault_1 : decode cX3_fault 1 = .ok (.invokevirtual 170, 3) := by decide +kernel
theorem dX3_fault_4 : decode cX3_fault 4 = .ok (.istore_n 3, 1) := by decide +kernel
theorem dX3_fault_5 : decode cX3_fault 5 = .ok (.iload_n 1, 1) := by decide +kernel
theorem dX3_fault_6 : decode cX3_fault 6 = .ok (.iconst 0, 1) := by decide +kernel
theorem dX3_fault_7 : decode cX3_fault 7 = .ok (.iload_n 3, 1) := by decide +kernel
theorem dX3_fault_8 : decode cX3_fault 8 = .ok (.iconst 1, 1) := by decide +kernel
theorem dX3_fault_9 : decode cX3_fault 9 = .ok (.isub, 1) := by decide +kernel
theorem dX3_fault_10 : decode cX3_fault 10 = .ok (.invokestatic 38, 3) := by decide +kernel
theorem dX3_fault_13 : decode cX3_fault 13 = .ok (.ifCond .eq 6, 3) := by decide +kernel
theorem dX3_fault_16 : decode cX3_fault 16 = .ok (.ldc 62, 2) := by decide +kernel
theorem dX3_fault_18 : decode cX3_fault 18 = .ok (.ireturn, 1) := by decide +kernel
theorem dX3_fault_19 : decode cX3_fault 19 = .ok (.iload_n 2, 1) := by decide +kernel
theorem dX3_fault_20 : decode cX3_fault 20 = .ok (.iconst 0, 1) := by decide +kernel
theorem dX3_fault_21 : decode cX3_fault 21 = .ok (.iconst 2, 1) := by decide +kernel
theorem dX3_fault_22 : decode cX3_fault 22 = .ok (.invokestatic 38, 3) := by decide +kernel
theorem dX3_fault_25 : decode cX3_fault 25 = .ok (.ifCond .eq 6, 3) := by decide +kernel
theorem dX3_fault_28 : decode cX3_fault 28 = .ok (.ldc 42, 2) := by decide +kernel
theorem dX3_fault_30 : decode cX3_fault 30 = .ok (.ireturn, 1) := by decide +kernel
theorem dX3_fault_31 : decode cX3_fault 31 = .ok (.aload_n 0, 1) := by decide +kernel
theorem dX3_fault_32 : decode cX3_fault 32 = .ok (.getfield 28, 3) := by decide +kernel
theorem dX3_fault_35 : decode cX3_fault 35 = .ok (.iload_n 1, 1) := by decide +kernel
theorem dX3_fault_36 : decode cX3_fault 36 = .ok (.iaload, 1) := by decide +kernel
theorem dX3_fault_37 : decode cX3_fault 37 = .ok (.bipush 60, 2) := by decide +kernel
theorem dX3_fault_39 : decode cX3_fault 39 = .ok (.idiv, 1) := by decide +kernel
theorem dX3_fault_40 : decode cX3_fault 40 = .ok (.istore 4, 2) := by decide +kernel
theorem dX3_fault_42 : decode cX3_fault 42 = .ok (.aload_n 0, 1) := by decide +kernel
theorem dX3_fault_43 : decode cX3_fault 43 = .ok (.getfield 28, 3) := by decide +kernel
theorem dX3_fault_46 : decode cX3_fault 46 = .ok (.iload_n 1, 1) := by decide +kernel
theorem dX3_fault_47 : decode cX3_fault 47 = .ok (.iaload, 1) := by decide +kernel
theorem dX3_fault_48 : decode cX3_fault 48 = .ok (.bipush 60, 2) := by decide +kernel
theorem dX3_fault_50 : decode cX3_fault 50 = .ok (.irem, 1) := by decide +kernel
theorem dX3_fault_51 : decode cX3_fault 51 = .ok (.istore 5, 2) := by decide +kernel
theorem dX3_fault_53 : decode cX3_fault 53 = .ok (.iload_n 2, 1) := by decide +kernel
theorem dX3_fault_54 : decode cX3_fault 54 = .ok (.lookupswitch 50 #[(0, 26), (1, 47)], 26) := by decide +kernel
theorem dX3_fault_80 : decode cX3_fault 80 = .ok (.aload_n 0, 1) := by decide +kernel
theorem dX3_fault_81 : decode cX3_fault 81 = .ok (.getfield 17, 3) := by decide +kernel
theorem dX3_fault_84 : decode cX3_fault 84 = .ok (.iload 4, 2) := by decide +kernel
theorem dX3_fault_86 : decode cX3_fault 86 = .ok (.aaload, 1) := by decide +kernel
theorem dX3_fault_87 : decode cX3_fault 87 = .ok (.iload 5, 2) := by decide +kernel
theorem dX3_fault_89 : decode cX3_fault 89 = .ok (.invokevirtual 173, 3) := by decide +kernel
theorem dX3_fault_92 : decode cX3_fault 92 = .ok (.ifCond .eq 7, 3) := by decide +kernel
theorem dX3_fault_95 : decode cX3_fault 95 = .ok (.iconst 2, 1) := by decide +kernel
theorem dX3_fault_96 : decode cX3_fault 96 = .ok (.goto 4, 3) := by decide +kernel
theorem dX3_fault_99 : decode cX3_fault 99 = .ok (.iconst 1, 1) := by decide +kernel
theorem dX3_fault_100 : decode cX3_fault 100 = .ok (.ireturn, 1) := by decide +kernel
theorem dX3_fault_101 : decode cX3_fault 101 = .ok (.iload 4, 2) := by decide +kernel
theorem dX3_fault_103 : decode cX3_fault 103 = .ok (.ireturn, 1) := by decide +kernel
theorem dX3_fault_104 : decode cX3_fault 104 = .ok (.iload 5, 2) := by decide +kernel
theorem dX3_fault_106 : decode cX3_fault 106 = .ok (.ireturn, 1) := by decide +kernel
theorem dX3_shares_0 : decode cX3_shares 0 = .ok (.iload_n 1, 1) := by decide +kernel
theorem dX3_shares_1 : decode cX3_shares 1 = .ok (.invokestatic 59, 3) := by decide +kernel
theorem dX3_shares_4 : decode cX3_shares 4 = .ok (.ifCond .ne 6, 3) := by decide +kernel
theorem dX3_shares_7 : decode cX3_shares 7 = .ok (.ldc 62, 2) := by decide +kernel
theorem dX3_shares_9 : decode cX3_shares 9 = .ok (.ireturn, 1) := by decide +kernel
theorem dX3_shares_10 : decode cX3_shares 10 = .ok (.aload_n 0, 1) := by decide +kernel
theorem dX3_shares_11 : decode cX3_shares 11 = .ok (.iload_n 1, 1) := by decide +kernel
theorem dX3_shares_12 : decode cX3_shares 12 = .ok (.invokevirtual 176, 3) := by decide +kernel
theorem dX3_shares_15 : decode cX3_shares 15 = .ok (.istore_n 2, 1) := by decide +kernel
theorem dX3_shares_16 : decode cX3_shares 16 = .ok (.iload_n 2, 1) := by decide +kernel
theorem dX3_shares_17 : decode cX3_shares 17 = .ok (.iconst (-1), 1) := by decide +kernel
theorem dX3_shares_18 : decode cX3_shares 18 = .ok (.if_icmp .ne 8, 3) := by decide +kernel
theorem dX3_shares_21 : decode cX3_shares 21 = .ok (.ldc 160, 2) := by decide +kernel
theorem dX3_shares_23 : decode cX3_shares 23 = .ok (.goto 4, 3) := by decide +kernel
theorem dX3_shares_26 : decode cX3_shares 26 = .ok (.iload_n 2, 1) := by decide +kernel
theorem dX3_shares_27 : decode cX3_shares 27 = .ok (.ireturn, 1) := by decide +kernel
theorem dX3_row_0 : decode cX3_row 0 = .ok (.iload_n 1, 1) := by decide +kernel
theorem dX3_row_1 : decode cX3_row 1 = .ok (.invokestatic 59, 3) := by decide +kernel
theorem dX3_row_4 : decode cX3_row 4 = .ok (.ifCond .ne 6, 3) := by decide +kernel
theorem dX3_row_7 : decode cX3_row 7 = .ok (.ldc 62, 2) := by decide +kernel
theorem dX3_row_9 : decode cX3_row 9 = .ok (.ireturn, 1) := by decide +kernel
theorem dX3_row_10 : decode cX3_row 10 = .ok (.aload_n 0, 1) := by decide +kernel
theorem dX3_row_11 : decode cX3_row 11 = .ok (.getfield 17, 3) := by decide +kernel
theorem dX3_row_14 : decode cX3_row 14 = .ok (.iload_n 1, 1) := by decide +kernel
theorem dX3_row_15 : decode cX3_row 15 = .ok (.aaload, 1) := by decide +kernel
theorem dX3_row_16 : decode cX3_row 16 = .ok (.invokevirtual 179, 3) := by decide +kernel
theorem dX3_row_19 : decode cX3_row 19 = .ok (.ifCond .ne 6, 3) := by decide +kernel
theorem dX3_row_22 : decode cX3_row 22 = .ok (.ldc 160, 2) := by decide +kernel
theorem dX3_row_24 : decode cX3_row 24 = .ok (.ireturn, 1) := by decide +kernel
theorem dX3_row_25 : decode cX3_row 25 = .ok (.aload_n 0, 1) := by decide +kernel
theorem dX3_row_26 : decode cX3_row 26 = .ok (.iload_n 1, 1) := by decide +kernel
theorem dX3_row_27 : decode cX3_row 27 = .ok (.invokevirtual 176, 3) := by decide +kernel
theorem dX3_row_30 : decode cX3_row 30 = .ok (.istore_n 2, 1) := by decide +kernel
theorem dX3_row_31 : decode cX3_row 31 = .ok (.iload_n 2, 1) := by decide +kernel
theorem dX3_row_32 : decode cX3_row 32 = .ok (.iconst (-1), 1) := by decide +kernel
theorem dX3_row_33 : decode cX3_row 33 = .ok (.if_icmp .ne 7, 3) := by decide +kernel
theorem dX3_row_36 : decode cX3_row 36 = .ok (.iload_n 1, 1) := by decide +kernel
theorem dX3_row_37 : decode cX3_row 37 = .ok (.goto 4, 3) := by decide +kernel
theorem dX3_row_40 : decode cX3_row 40 = .ok (.iload_n 2, 1) := by decide +kernel
theorem dX3_row_41 : decode cX3_row 41 = .ok (.istore_n 3, 1) := by decide +kernel
theorem dX3_row_42 : decode cX3_row 42 = .ok (.iconst 0, 1) := by decide +kernel
theorem dX3_row_43 : decode cX3_row 43 = .ok (.istore 4, 2) := by decide +kernel
theorem dX3_row_45 : decode cX3_row 45 = .ok (.iconst 0, 1) := by decide +kernel
theorem dX3_row_46 : decode cX3_row 46 = .ok (.istore 5, 2) := by decide +kernel
theorem dX3_row_48 : decode cX3_row 48 = .ok (.iload 5, 2) := by decide +kernel
theorem dX3_row_50 : decode cX3_row 50 = .ok (.iload_n 3, 1) := by decide +kernel
theorem dX3_row_51 : decode cX3_row 51 = .ok (.if_icmp .ge 35, 3) := by decide +kernel
theorem dX3_row_54 : decode cX3_row 54 = .ok (.aload_n 0, 1) := by decide +kernel
theorem dX3_row_55 : decode cX3_row 55 = .ok (.getfield 17, 3) := by decide +kernel
theorem dX3_row_58 : decode cX3_row 58 = .ok (.iload 5, 2) := by decide +kernel
theorem dX3_row_60 : decode cX3_row 60 = .ok (.aaload, 1) := by decide +kernel
theorem dX3_row_61 : decode cX3_row 61 = .ok (.invokevirtual 179, 3) := by decide +kernel
theorem dX3_row_64 : decode cX3_row 64 = .ok (.ifCond .eq 16, 3) := by decide +kernel
theorem dX3_row_67 : decode cX3_row 67 = .ok (.aload_n 0, 1) := by decide +kernel
theorem dX3_row_68 : decode cX3_row 68 = .ok (.iload 5, 2) := by decide +kernel
theorem dX3_row_70 : decode cX3_row 70 = .ok (.invokevirtual 176, 3) := by decide +kernel
theorem dX3_row_73 : decode cX3_row 73 = .ok (.iconst (-1), 1) := by decide +kernel
theorem dX3_row_74 : decode cX3_row 74 = .ok (.if_icmp .ne 6, 3) := by decide +kernel
theorem dX3_row_77 : decode cX3_row 77 = .ok (.iinc 4 1, 3) := by decide +kernel
theorem dX3_row_80 : decode cX3_row 80 = .ok (.iinc 5 1, 3) := by decide +kernel
theorem dX3_row_83 : decode cX3_row 83 = .ok (.goto (-35), 3) := by decide +kernel
theorem dX3_row_86 : decode cX3_row 86 = .ok (.iload 4, 2) := by decide +kernel
theorem dX3_row_88 : decode cX3_row 88 = .ok (.ireturn, 1) := by decide +kernel
theorem dX3_in_0 : decode cX3_in 0 = .ok (.aload_n 0, 1) := by decide +kernel
theorem dX3_in_1 : decode cX3_in 1 = .ok (.iload_n 1, 1) := by decide +kernel
theorem dX3_in_2 : decode cX3_in 2 = .ok (.invokevirtual 55, 3) := by decide +kernel
theorem dX3_in_5 : decode cX3_in 5 = .ok (.ifCond .ne 6, 3) := by decide +kernel
theorem dX3_in_8 : decode cX3_in 8 = .ok (.ldc 62, 2) := by decide +kernel
theorem dX3_in_10 : decode cX3_in 10 = .ok (.ireturn, 1) := by decide +kernel
theorem dX3_in_11 : decode cX3_in 11 = .ok (.iload_n 2, 1) := by decide +kernel
theorem dX3_in_12 : decode cX3_in 12 = .ok (.iconst 0, 1) := by decide +kernel
theorem dX3_in_13 : decode cX3_in 13 = .ok (.iconst 1, 1) := by decide +kernel
theorem dX3_in_14 : decode cX3_in 14 = .ok (.invokestatic 38, 3) := by decide +kernel
theorem dX3_in_17 : decode cX3_in 17 = .ok (.ifCond .eq 6, 3) := by decide +kernel
theorem dX3_in_20 : decode cX3_in 20 = .ok (.ldc 42, 2) := by decide +kernel
theorem dX3_in_22 : decode cX3_in 22 = .ok (.ireturn, 1) := by decide +kernel
theorem dX3_in_23 : decode cX3_in 23 = .ok (.iload_n 2, 1) := by decide +kernel
theorem dX3_in_24 : decode cX3_in 24 = .ok (.ifCond .ne 15, 3) := by decide +kernel
theorem dX3_in_27 : decode cX3_in 27 = .ok (.aload_n 0, 1) := by decide +kernel
theorem dX3_in_28 : decode cX3_in 28 = .ok (.getfield 11, 3) := by decide +kernel
theorem dX3_in_31 : decode cX3_in 31 = .ok (.iload_n 1, 1) := by decide +kernel
theorem dX3_in_32 : decode cX3_in 32 = .ok (.aaload, 1) := by decide +kernel
theorem dX3_in_33 : decode cX3_in 33 = .ok (.getfield 85, 3) := by decide +kernel
theorem dX3_in_36 : decode cX3_in 36 = .ok (.goto 12, 3) := by decide +kernel
theorem dX3_in_39 : decode cX3_in 39 = .ok (.aload_n 0, 1) := by decide +kernel
theorem dX3_in_40 : decode cX3_in 40 = .ok (.getfield 11, 3) := by decide +kernel
theorem dX3_in_43 : decode cX3_in 43 = .ok (.iload_n 1, 1) := by decide +kernel
theorem dX3_in_44 : decode cX3_in 44 = .ok (.aaload, 1) := by decide +kernel
theorem dX3_in_45 : decode cX3_in 45 = .ok (.getfield 100, 3) := by decide +kernel
theorem dX3_in_48 : decode cX3_in 48 = .ok (.istore_n 3, 1) := by decide +kernel
theorem dX3_in_49 : decode cX3_in 49 = .ok (.iload_n 3, 1) := by decide +kernel
theorem dX3_in_50 : decode cX3_in 50 = .ok (.iconst (-1), 1) := by decide +kernel
theorem dX3_in_51 : decode cX3_in 51 = .ok (.if_icmp .ne 8, 3) := by decide +kernel
theorem dX3_in_54 : decode cX3_in 54 = .ok (.ldc 160, 2) := by decide +kernel
theorem dX3_in_56 : decode cX3_in 56 = .ok (.goto 4, 3) := by decide +kernel
theorem dX3_in_59 : decode cX3_in 59 = .ok (.iload_n 3, 1) := by decide +kernel
theorem dX3_in_60 : decode cX3_in 60 = .ok (.ireturn, 1) := by decide +kernel
theorem dX3_pattern_0 : decode cX3_pattern 0 = .ok (.lload_n 1, 1) := by decide +kernel
theorem dX3_pattern_1 : decode cX3_pattern 1 = .ok (.invokestatic 183, 3) := by decide +kernel
theorem dX3_pattern_4 : decode cX3_pattern 4 = .ok (.istore 4, 2) := by decide +kernel
theorem dX3_pattern_6 : decode cX3_pattern 6 = .ok (.iload 4, 2) := by decide +kernel
theorem dX3_pattern_8 : decode cX3_pattern 8 = .ok (.ifCond .eq 12, 3) := by decide +kernel
theorem dX3_pattern_11 : decode cX3_pattern 11 = .ok (.iload 4, 2) := by decide +kernel
theorem dX3_pattern_13 : decode cX3_pattern 13 = .ok (.iload_n 3, 1) := by decide +kernel
theorem dX3_pattern_14 : decode cX3_pattern 14 = .ok (.invokestatic 187, 3) := by decide +kernel
theorem dX3_pattern_17 : decode cX3_pattern 17 = .ok (.ifCond .ne 6, 3) := by decide +kernel
theorem dX3_pattern_20 : decode cX3_pattern 20 = .ok (.ldc 42, 2) := by decide +kernel
theorem dX3_pattern_22 : decode cX3_pattern 22 = .ok (.ireturn, 1) := by decide +kernel
theorem dX3_pattern_23 : decode cX3_pattern 23 = .ok (.aload_n 0, 1) := by decide +kernel
theorem dX3_pattern_24 : decode cX3_pattern 24 = .ok (.getfield 24, 3) := by decide +kernel
theorem dX3_pattern_27 : decode cX3_pattern 27 = .ok (.getfield 190, 3) := by decide +kernel
theorem dX3_pattern_30 : decode cX3_pattern 30 = .ok (.bipush 30, 2) := by decide +kernel
theorem dX3_pattern_32 : decode cX3_pattern 32 = .ok (.if_icmp .lt 6, 3) := by decide +kernel
theorem dX3_pattern_35 : decode cX3_pattern 35 = .ok (.ldc 46, 2) := by decide +kernel
theorem dX3_pattern_37 : decode cX3_pattern 37 = .ok (.ireturn, 1) := by decide +kernel
theorem dX3_pattern_38 : decode cX3_pattern 38 = .ok (.aload_n 0, 1) := by decide +kernel
theorem dX3_pattern_39 : decode cX3_pattern 39 = .ok (.getfield 24, 3) := by decide +kernel
theorem dX3_pattern_42 : decode cX3_pattern 42 = .ok (.lload_n 1, 1) := by decide +kernel
theorem dX3_pattern_43 : decode cX3_pattern 43 = .ok (.l2i, 1) := by decide +kernel
theorem dX3_pattern_44 : decode cX3_pattern 44 = .ok (.iload 4, 2) := by decide +kernel
theorem dX3_pattern_46 : decode cX3_pattern 46 = .ok (.iload_n 3, 1) := by decide +kernel
theorem dX3_pattern_47 : decode cX3_pattern 47 = .ok (.invokevirtual 193, 3) := by decide +kernel
theorem dX3_pattern_50 : decode cX3_pattern 50 = .ok (.ireturn, 1) := by decide +kernel
theorem dX3_letter_0 : decode cX3_letter 0 = .ok (.iload_n 1, 1) := by decide +kernel
theorem dX3_letter_1 : decode cX3_letter 1 = .ok (.iconst 0, 1) := by decide +kernel
theorem dX3_letter_2 : decode cX3_letter 2 = .ok (.bipush 26, 2) := by decide +kernel
theorem dX3_letter_4 : decode cX3_letter 4 = .ok (.invokestatic 38, 3) := by decide +kernel
theorem dX3_letter_7 : decode cX3_letter 7 = .ok (.ifCond .eq 6, 3) := by decide +kernel
theorem dX3_letter_10 : decode cX3_letter 10 = .ok (.ldc 42, 2) := by decide +kernel
theorem dX3_letter_12 : decode cX3_letter 12 = .ok (.ireturn, 1) := by decide +kernel
theorem dX3_letter_13 : decode cX3_letter 13 = .ok (.iload_n 1, 1) := by decide +kernel
theorem dX3_letter_14 : decode cX3_letter 14 = .ok (.ifCond .ne 13, 3) := by decide +kernel
theorem dX3_letter_17 : decode cX3_letter 17 = .ok (.aload_n 0, 1) := by decide +kernel
theorem dX3_letter_18 : decode cX3_letter 18 = .ok (.getfield 24, 3) := by decide +kernel
theorem dX3_letter_21 : decode cX3_letter 21 = .ok (.iconst 0, 1) := by decide +kernel
theorem dX3_letter_22 : decode cX3_letter 22 = .ok (.putfield 197, 3) := by decide +kernel
theorem dX3_letter_25 : decode cX3_letter 25 = .ok (.iconst 0, 1) := by decide +kernel
theorem dX3_letter_26 : decode cX3_letter 26 = .ok (.ireturn, 1) := by decide +kernel
theorem dX3_letter_27 : decode cX3_letter 27 = .ok (.aload_n 0, 1) := by decide +kernel
theorem dX3_letter_28 : decode cX3_letter 28 = .ok (.getfield 24, 3) := by decide +kernel
theorem dX3_letter_31 : decode cX3_letter 31 = .ok (.getfield 197, 3) := by decide +kernel
theorem dX3_letter_34 : decode cX3_letter 34 = .ok (.bipush 24, 2) := by decide +kernel
theorem dX3_letter_36 : decode cX3_letter 36 = .ok (.if_icmp .lt 6, 3) := by decide +kernel
theorem dX3_letter_39 : decode cX3_letter 39 = .ok (.ldc 46, 2) := by decide +kernel
theorem dX3_letter_41 : decode cX3_letter 41 = .ok (.ireturn, 1) := by decide +kernel
theorem dX3_letter_42 : decode cX3_letter 42 = .ok (.aload_n 0, 1) := by decide +kernel
theorem dX3_letter_43 : decode cX3_letter 43 = .ok (.getfield 24, 3) := by decide +kernel
theorem dX3_letter_46 : decode cX3_letter 46 = .ok (.iload_n 1, 1) := by decide +kernel
theorem dX3_letter_47 : decode cX3_letter 47 = .ok (.invokevirtual 200, 3) := by decide +kernel
theorem dX3_letter_50 : decode cX3_letter 50 = .ok (.ireturn, 1) := by decide +kernel
theorem dX3_sides_0 : decode cX3_sides 0 = .ok (.iload_n 1, 1) := by decide +kernel
theorem dX3_sides_1 : decode cX3_sides 1 = .ok (.iconst 0, 1) := by decide +kernel
theorem dX3_sides_2 : decode cX3_sides 2 = .ok (.iconst 1, 1) := by decide +kernel
theorem dX3_sides_3 : decode cX3_sides 3 = .ok (.invokestatic 38, 3) := by decide +kernel
theorem dX3_sides_6 : decode cX3_sides 6 = .ok (.ifCond .ne 13, 3) := by decide +kernel
theorem dX3_sides_9 : decode cX3_sides 9 = .ok (.iload_n 2, 1) := by decide +kernel
theorem dX3_sides_10 : decode cX3_sides 10 = .ok (.iconst 1, 1) := by decide +kernel
theorem dX3_sides_11 : decode cX3_sides 11 = .ok (.bipush 24, 2) := by decide +kernel
theorem dX3_sides_13 : decode cX3_sides 13 = .ok (.invokestatic 38, 3) := by decide +kernel
theorem dX3_sides_16 : decode cX3_sides 16 = .ok (.ifCond .eq 6, 3) := by decide +kernel
theorem dX3_sides_19 : decode cX3_sides 19 = .ok (.ldc 42, 2) := by decide +kernel
theorem dX3_sides_21 : decode cX3_sides 21 = .ok (.ireturn, 1) := by decide +kernel
theorem dX3_sides_22 : decode cX3_sides 22 = .ok (.iload_n 1, 1) := by decide +kernel
theorem dX3_sides_23 : decode cX3_sides 23 = .ok (.ifCond .ne 14, 3) := by decide +kernel
theorem dX3_sides_26 : decode cX3_sides 26 = .ok (.aload_n 0, 1) := by decide +kernel
theorem dX3_sides_27 : decode cX3_sides 27 = .ok (.getfield 24, 3) := by decide +kernel
theorem dX3_sides_30 : decode cX3_sides 30 = .ok (.iload_n 2, 1) := by decide +kernel
theorem dX3_sides_31 : decode cX3_sides 31 = .ok (.invokevirtual 203, 3) := by decide +kernel
theorem dX3_sides_34 : decode cX3_sides 34 = .ok (.goto 11, 3) := by decide +kernel
theorem dX3_sides_37 : decode cX3_sides 37 = .ok (.aload_n 0, 1) := by decide +kernel
theorem dX3_sides_38 : decode cX3_sides 38 = .ok (.getfield 24, 3) := by decide +kernel
theorem dX3_sides_41 : decode cX3_sides 41 = .ok (.iload_n 2, 1) := by decide +kernel
theorem dX3_sides_42 : decode cX3_sides 42 = .ok (.invokevirtual 206, 3) := by decide +kernel
theorem dX3_sides_45 : decode cX3_sides 45 = .ok (.ireturn, 1) := by decide +kernel
theorem dX3_cuts_0 : decode cX3_cuts 0 = .ok (.aload_n 0, 1) := by decide +kernel
theorem dX3_cuts_1 : decode cX3_cuts 1 = .ok (.getfield 24, 3) := by decide +kernel
theorem dX3_cuts_4 : decode cX3_cuts 4 = .ok (.invokevirtual 209, 3) := by decide +kernel
theorem dX3_cuts_7 : decode cX3_cuts 7 = .ok (.ireturn, 1) := by decide +kernel
theorem dX3_cut_0 : decode cX3_cut 0 = .ok (.iload_n 1, 1) := by decide +kernel
theorem dX3_cut_1 : decode cX3_cut 1 = .ok (.iconst 0, 1) := by decide +kernel
theorem dX3_cut_2 : decode cX3_cut 2 = .ok (.aload_n 0, 1) := by decide +kernel
theorem dX3_cut_3 : decode cX3_cut 3 = .ok (.getfield 24, 3) := by decide +kernel
theorem dX3_cut_6 : decode cX3_cut 6 = .ok (.getfield 212, 3) := by decide +kernel
theorem dX3_cut_9 : decode cX3_cut 9 = .ok (.iconst 1, 1) := by decide +kernel
theorem dX3_cut_10 : decode cX3_cut 10 = .ok (.isub, 1) := by decide +kernel
theorem dX3_cut_11 : decode cX3_cut 11 = .ok (.invokestatic 38, 3) := by decide +kernel
theorem dX3_cut_14 : decode cX3_cut 14 = .ok (.ifCond .eq 13, 3) := by decide +kernel
theorem dX3_cut_17 : decode cX3_cut 17 = .ok (.new 150, 3) := by decide +kernel
theorem dX3_cut_20 : decode cX3_cut 20 = .ok (.dup, 1) := by decide +kernel
theorem dX3_cut_21 : decode cX3_cut 21 = .ok (.ldc 215, 2) := by decide +kernel
theorem dX3_cut_23 : decode cX3_cut 23 = .ok (.invokespecial 154, 3) := by decide +kernel
theorem dX3_cut_26 : decode cX3_cut 26 = .ok (.athrow, 1) := by decide +kernel
theorem dX3_cut_27 : decode cX3_cut 27 = .ok (.aload_n 0, 1) := by decide +kernel
theorem dX3_cut_28 : decode cX3_cut 28 = .ok (.getfield 24, 3) := by decide +kernel
theorem dX3_cut_31 : decode cX3_cut 31 = .ok (.getfield 217, 3) := by decide +kernel
theorem dX3_cut_34 : decode cX3_cut 34 = .ok (.iload_n 1, 1) := by decide +kernel
theorem dX3_cut_35 : decode cX3_cut 35 = .ok (.iaload, 1) := by decide +kernel
theorem dX3_cut_36 : decode cX3_cut 36 = .ok (.ireturn, 1) := by decide +kernel
theorem dX3_told_0 : decode cX3_told 0 = .ok (.iload_n 1, 1) := by decide +kernel
theorem dX3_told_1 : decode cX3_told 1 = .ok (.tableswitch 96 0 7 #[47, 52, 57, 62, 67, 75, 83, 88], 47) := by decide +kernel
theorem dX3_told_48 : decode cX3_told 48 = .ok (.aload_n 0, 1) := by decide +kernel
theorem dX3_told_49 : decode cX3_told 49 = .ok (.getfield 43, 3) := by decide +kernel
theorem dX3_told_52 : decode cX3_told 52 = .ok (.ireturn, 1) := by decide +kernel
theorem dX3_told_53 : decode cX3_told 53 = .ok (.aload_n 0, 1) := by decide +kernel
theorem dX3_told_54 : decode cX3_told 54 = .ok (.invokevirtual 220, 3) := by decide +kernel
theorem dX3_told_57 : decode cX3_told 57 = .ok (.ireturn, 1) := by decide +kernel
theorem dX3_told_58 : decode cX3_told 58 = .ok (.aload_n 0, 1) := by decide +kernel
theorem dX3_told_59 : decode cX3_told 59 = .ok (.getfield 91, 3) := by decide +kernel
theorem dX3_told_62 : decode cX3_told 62 = .ok (.ireturn, 1) := by decide +kernel
theorem dX3_told_63 : decode cX3_told 63 = .ok (.aload_n 0, 1) := by decide +kernel
theorem dX3_told_64 : decode cX3_told 64 = .ok (.getfield 97, 3) := by decide +kernel
theorem dX3_told_67 : decode cX3_told 67 = .ok (.ireturn, 1) := by decide +kernel
theorem dX3_told_68 : decode cX3_told 68 = .ok (.aload_n 0, 1) := by decide +kernel
theorem dX3_told_69 : decode cX3_told 69 = .ok (.getfield 24, 3) := by decide +kernel
theorem dX3_told_72 : decode cX3_told 72 = .ok (.getfield 190, 3) := by decide +kernel
theorem dX3_told_75 : decode cX3_told 75 = .ok (.ireturn, 1) := by decide +kernel
theorem dX3_told_76 : decode cX3_told 76 = .ok (.aload_n 0, 1) := by decide +kernel
theorem dX3_told_77 : decode cX3_told 77 = .ok (.getfield 24, 3) := by decide +kernel
theorem dX3_told_80 : decode cX3_told 80 = .ok (.getfield 197, 3) := by decide +kernel
theorem dX3_told_83 : decode cX3_told 83 = .ok (.ireturn, 1) := by decide +kernel
theorem dX3_told_84 : decode cX3_told 84 = .ok (.aload_n 0, 1) := by decide +kernel
theorem dX3_told_85 : decode cX3_told 85 = .ok (.invokevirtual 223, 3) := by decide +kernel
theorem dX3_told_88 : decode cX3_told 88 = .ok (.ireturn, 1) := by decide +kernel
theorem dX3_told_89 : decode cX3_told 89 = .ok (.aload_n 0, 1) := by decide +kernel
theorem dX3_told_90 : decode cX3_told 90 = .ok (.getfield 51, 3) := by decide +kernel
theorem dX3_told_93 : decode cX3_told 93 = .ok (.invokestatic 109, 3) := by decide +kernel
theorem dX3_told_96 : decode cX3_told 96 = .ok (.ireturn, 1) := by decide +kernel
theorem dX3_told_97 : decode cX3_told 97 = .ok (.ldc 42, 2) := by decide +kernel
theorem dX3_told_99 : decode cX3_told 99 = .ok (.ireturn, 1) := by decide +kernel
theorem dX3_clear_0 : decode cX3_clear 0 = .ok (.aload_n 0, 1) := by decide +kernel
theorem dX3_clear_1 : decode cX3_clear 1 = .ok (.getfield 43, 3) := by decide +kernel
theorem dX3_clear_4 : decode cX3_clear 4 = .ok (.istore_n 1, 1) := by decide +kernel
theorem dX3_clear_5 : decode cX3_clear 5 = .ok (.iconst 0, 1) := by decide +kernel
theorem dX3_clear_6 : decode cX3_clear 6 = .ok (.istore_n 2, 1) := by decide +kernel
theorem dX3_clear_7 : decode cX3_clear 7 = .ok (.iload_n 2, 1) := by decide +kernel
theorem dX3_clear_8 : decode cX3_clear 8 = .ok (.iconst 4, 1) := by decide +kernel
theorem dX3_clear_9 : decode cX3_clear 9 = .ok (.if_icmp .ge 18, 3) := by decide +kernel
theorem dX3_clear_12 : decode cX3_clear 12 = .ok (.aload_n 0, 1) := by decide +kernel
theorem dX3_clear_13 : decode cX3_clear 13 = .ok (.getfield 17, 3) := by decide +kernel
theorem dX3_clear_16 : decode cX3_clear 16 = .ok (.iload_n 2, 1) := by decide +kernel
theorem dX3_clear_17 : decode cX3_clear 17 = .ok (.aaload, 1) := by decide +kernel
theorem dX3_clear_18 : decode cX3_clear 18 = .ok (.invokevirtual 226, 3) := by decide +kernel
theorem dX3_clear_21 : decode cX3_clear 21 = .ok (.iinc 2 1, 3) := by decide +kernel
theorem dX3_clear_24 : decode cX3_clear 24 = .ok (.goto (-17), 3) := by decide +kernel
theorem dX3_clear_27 : decode cX3_clear 27 = .ok (.aload_n 0, 1) := by decide +kernel
theorem dX3_clear_28 : decode cX3_clear 28 = .ok (.getfield 24, 3) := by decide +kernel
theorem dX3_clear_31 : decode cX3_clear 31 = .ok (.invokevirtual 229, 3) := by decide +kernel
theorem dX3_clear_34 : decode cX3_clear 34 = .ok (.aload_n 0, 1) := by decide +kernel
theorem dX3_clear_35 : decode cX3_clear 35 = .ok (.iconst 0, 1) := by decide +kernel
theorem dX3_clear_36 : decode cX3_clear 36 = .ok (.putfield 43, 3) := by decide +kernel
theorem dX3_clear_39 : decode cX3_clear 39 = .ok (.aload_n 0, 1) := by decide +kernel
theorem dX3_clear_40 : decode cX3_clear 40 = .ok (.iconst 0, 1) := by decide +kernel
theorem dX3_clear_41 : decode cX3_clear 41 = .ok (.putfield 91, 3) := by decide +kernel
theorem dX3_clear_44 : decode cX3_clear 44 = .ok (.aload_n 0, 1) := by decide +kernel
theorem dX3_clear_45 : decode cX3_clear 45 = .ok (.iconst 0, 1) := by decide +kernel
theorem dX3_clear_46 : decode cX3_clear 46 = .ok (.putfield 97, 3) := by decide +kernel
theorem dX3_clear_49 : decode cX3_clear 49 = .ok (.aload_n 0, 1) := by decide +kernel
theorem dX3_clear_50 : decode cX3_clear 50 = .ok (.sipush 2000, 3) := by decide +kernel
theorem dX3_clear_53 : decode cX3_clear 53 = .ok (.putfield 32, 3) := by decide +kernel
theorem dX3_clear_56 : decode cX3_clear 56 = .ok (.aload_n 0, 1) := by decide +kernel
theorem dX3_clear_57 : decode cX3_clear 57 = .ok (.iconst 0, 1) := by decide +kernel
theorem dX3_clear_58 : decode cX3_clear 58 = .ok (.putfield 51, 3) := by decide +kernel
theorem dX3_clear_61 : decode cX3_clear 61 = .ok (.iload_n 1, 1) := by decide +kernel
theorem dX3_clear_62 : decode cX3_clear 62 = .ok (.ireturn, 1) := by decide +kernel
theorem dX3_isOutside_0 : decode cX3_isOutside 0 = .ok (.iload_n 0, 1) := by decide +kernel
theorem dX3_isOutside_1 : decode cX3_isOutside 1 = .ok (.iload_n 1, 1) := by decide +kernel
theorem dX3_isOutside_2 : decode cX3_isOutside 2 = .ok (.if_icmp .lt 8, 3) := by decide +kernel
theorem dX3_isOutside_5 : decode cX3_isOutside 5 = .ok (.iload_n 0, 1) := by decide +kernel
theorem dX3_isOutside_6 : decode cX3_isOutside 6 = .ok (.iload_n 2, 1) := by decide +kernel
theorem dX3_isOutside_7 : decode cX3_isOutside 7 = .ok (.if_icmp .le 7, 3) := by decide +kernel
theorem dX3_isOutside_10 : decode cX3_isOutside 10 = .ok (.iconst 1, 1) := by decide +kernel
theorem dX3_isOutside_11 : decode cX3_isOutside 11 = .ok (.goto 4, 3) := by decide +kernel
theorem dX3_isOutside_14 : decode cX3_isOutside 14 = .ok (.iconst 0, 1) := by decide +kernel
theorem dX3_isOutside_15 : decode cX3_isOutside 15 = .ok (.ireturn, 1) := by decide +kernel
theorem dX3_asNumber_0 : decode cX3_asNumber 0 = .ok (.iload_n 0, 1) := by decide +kernel
theorem dX3_asNumber_1 : decode cX3_asNumber 1 = .ok (.ifCond .eq 7, 3) := by decide +kernel
theorem dX3_asNumber_4 : decode cX3_asNumber 4 = .ok (.iconst 1, 1) := by decide +kernel
theorem dX3_asNumber_5 : decode cX3_asNumber 5 = .ok (.goto 4, 3) := by decide +kernel
theorem dX3_asNumber_8 : decode cX3_asNumber 8 = .ok (.iconst 0, 1) := by decide +kernel
theorem dX3_asNumber_9 : decode cX3_asNumber 9 = .ok (.ireturn, 1) := by decide +kernel
theorem dX3_isNote_0 : decode cX3_isNote 0 = .ok (.iload_n 1, 1) := by decide +kernel
theorem dX3_isNote_1 : decode cX3_isNote 1 = .ok (.ifCond .lt 15, 3) := by decide +kernel
theorem dX3_isNote_4 : decode cX3_isNote 4 = .ok (.iload_n 1, 1) := by decide +kernel
theorem dX3_isNote_5 : decode cX3_isNote 5 = .ok (.aload_n 0, 1) := by decide +kernel
theorem dX3_isNote_6 : decode cX3_isNote 6 = .ok (.getfield 43, 3) := by decide +kernel
theorem dX3_isNote_9 : decode cX3_isNote 9 = .ok (.if_icmp .ge 7, 3) := by decide +kernel
theorem dX3_isNote_12 : decode cX3_isNote 12 = .ok (.iconst 1, 1) := by decide +kernel
theorem dX3_isNote_13 : decode cX3_isNote 13 = .ok (.goto 4, 3) := by decide +kernel
theorem dX3_isNote_16 : decode cX3_isNote 16 = .ok (.iconst 0, 1) := by decide +kernel
theorem dX3_isNote_17 : decode cX3_isNote 17 = .ok (.ireturn, 1) := by decide +kernel
theorem dX3_isVerse_0 : decode cX3_isVerse 0 = .ok (.iload_n 0, 1) := by decide +kernel
theorem dX3_isVerse_1 : decode cX3_isVerse 1 = .ok (.ifCond .lt 12, 3) := by decide +kernel
theorem dX3_isVerse_4 : decode cX3_isVerse 4 = .ok (.iload_n 0, 1) := by decide +kernel
theorem dX3_isVerse_5 : decode cX3_isVerse 5 = .ok (.iconst 4, 1) := by decide +kernel
theorem dX3_isVerse_6 : decode cX3_isVerse 6 = .ok (.if_icmp .ge 7, 3) := by decide +kernel
theorem dX3_isVerse_9 : decode cX3_isVerse 9 = .ok (.iconst 1, 1) := by decide +kernel
theorem dX3_isVerse_10 : decode cX3_isVerse 10 = .ok (.goto 4, 3) := by decide +kernel
theorem dX3_isVerse_13 : decode cX3_isVerse 13 = .ok (.iconst 0, 1) := by decide +kernel
theorem dX3_isVerse_14 : decode cX3_isVerse 14 = .ok (.ireturn, 1) := by decide +kernel
theorem dX3_isBox_0 : decode cX3_isBox 0 = .ok (.aload_n 0, 1) := by decide +kernel
theorem dX3_isBox_1 : decode cX3_isBox 1 = .ok (.iload_n 1, 1) := by decide +kernel
theorem dX3_isBox_2 : decode cX3_isBox 2 = .ok (.invokevirtual 55, 3) := by decide +kernel
theorem dX3_isBox_5 : decode cX3_isBox 5 = .ok (.ifCond .eq 27, 3) := by decide +kernel
theorem dX3_isBox_8 : decode cX3_isBox 8 = .ok (.iload_n 2, 1) := by decide +kernel
theorem dX3_isBox_9 : decode cX3_isBox 9 = .ok (.invokestatic 59, 3) := by decide +kernel
theorem dX3_isBox_12 : decode cX3_isBox 12 = .ok (.ifCond .eq 20, 3) := by decide +kernel
theorem dX3_isBox_15 : decode cX3_isBox 15 = .ok (.aload_n 0, 1) := by decide +kernel
theorem dX3_isBox_16 : decode cX3_isBox 16 = .ok (.getfield 17, 3) := by decide +kernel
theorem dX3_isBox_19 : decode cX3_isBox 19 = .ok (.iload_n 2, 1) := by decide +kernel
theorem dX3_isBox_20 : decode cX3_isBox 20 = .ok (.aaload, 1) := by decide +kernel
theorem dX3_isBox_21 : decode cX3_isBox 21 = .ok (.iload_n 1, 1) := by decide +kernel
theorem dX3_isBox_22 : decode cX3_isBox 22 = .ok (.invokevirtual 173, 3) := by decide +kernel
theorem dX3_isBox_25 : decode cX3_isBox 25 = .ok (.ifCond .eq 7, 3) := by decide +kernel
theorem dX3_isBox_28 : decode cX3_isBox 28 = .ok (.iconst 1, 1) := by decide +kernel
theorem dX3_isBox_29 : decode cX3_isBox 29 = .ok (.goto 4, 3) := by decide +kernel
theorem dX3_isBox_32 : decode cX3_isBox 32 = .ok (.iconst 0, 1) := by decide +kernel
theorem dX3_isBox_33 : decode cX3_isBox 33 = .ok (.ireturn, 1) := by decide +kernel
theorem dX3_maySing_0 : decode cX3_maySing 0 = .ok (.aload_n 0, 1) := by decide +kernel
theorem dX3_maySing_1 : decode cX3_maySing 1 = .ok (.getfield 11, 3) := by decide +kernel
theorem dX3_maySing_4 : decode cX3_maySing 4 = .ok (.iload_n 1, 1) := by decide +kernel
theorem dX3_maySing_5 : decode cX3_maySing 5 = .ok (.aaload, 1) := by decide +kernel
theorem dX3_maySing_6 : decode cX3_maySing 6 = .ok (.astore_n 3, 1) := by decide +kernel
theorem dX3_maySing_7 : decode cX3_maySing 7 = .ok (.aload_n 3, 1) := by decide +kernel
theorem dX3_maySing_8 : decode cX3_maySing 8 = .ok (.getfield 230, 3) := by decide +kernel
theorem dX3_maySing_11 : decode cX3_maySing 11 = .ok (.ifCond .ne 27, 3) := by decide +kernel
theorem dX3_maySing_14 : decode cX3_maySing 14 = .ok (.aload_n 0, 1) := by decide +kernel
theorem dX3_maySing_15 : decode cX3_maySing 15 = .ok (.iload_n 1, 1) := by decide +kernel
theorem dX3_maySing_16 : decode cX3_maySing 16 = .ok (.invokevirtual 233, 3) := by decide +kernel
theorem dX3_maySing_19 : decode cX3_maySing 19 = .ok (.ifCond .ne 19, 3) := by decide +kernel
theorem dX3_maySing_22 : decode cX3_maySing 22 = .ok (.iload_n 2, 1) := by decide +kernel
theorem dX3_maySing_23 : decode cX3_maySing 23 = .ok (.ifCond .eq 11, 3) := by decide +kernel
theorem dX3_maySing_26 : decode cX3_maySing 26 = .ok (.aload_n 3, 1) := by decide +kernel
theorem dX3_maySing_27 : decode cX3_maySing 27 = .ok (.getfield 100, 3) := by decide +kernel
theorem dX3_maySing_30 : decode cX3_maySing 30 = .ok (.iconst (-1), 1) := by decide +kernel
theorem dX3_maySing_31 : decode cX3_maySing 31 = .ok (.if_icmp .ne 7, 3) := by decide +kernel
theorem dX3_maySing_34 : decode cX3_maySing 34 = .ok (.iconst 1, 1) := by decide +kernel
theorem dX3_maySing_35 : decode cX3_maySing 35 = .ok (.goto 4, 3) := by decide +kernel
theorem dX3_maySing_38 : decode cX3_maySing 38 = .ok (.iconst 0, 1) := by decide +kernel
theorem dX3_maySing_39 : decode cX3_maySing 39 = .ok (.ireturn, 1) := by decide +kernel
theorem dX3_isBehindMelismaFirst_0 : decode cX3_isBehindMelismaFirst 0 = .ok (.aload_n 0, 1) := by decide +kernel
theorem dX3_isBehindMelismaFirst_1 : decode cX3_isBehindMelismaFirst 1 = .ok (.getfield 11, 3) := by decide +kernel
theorem dX3_isBehindMelismaFirst_4 : decode cX3_isBehindMelismaFirst 4 = .ok (.iload_n 1, 1) := by decide +kernel
theorem dX3_isBehindMelismaFirst_5 : decode cX3_isBehindMelismaFirst 5 = .ok (.aaload, 1) := by decide +kernel
theorem dX3_isBehindMelismaFirst_6 : decode cX3_isBehindMelismaFirst 6 = .ok (.getfield 85, 3) := by decide +kernel
theorem dX3_isBehindMelismaFirst_9 : decode cX3_isBehindMelismaFirst 9 = .ok (.iconst (-1), 1) := by decide +kernel
theorem dX3_isBehindMelismaFirst_10 : decode cX3_isBehindMelismaFirst 10 = .ok (.if_icmp .eq 20, 3) := by decide +kernel
theorem dX3_isBehindMelismaFirst_13 : decode cX3_isBehindMelismaFirst 13 = .ok (.aload_n 0, 1) := by decide +kernel
theorem dX3_isBehindMelismaFirst_14 : decode cX3_isBehindMelismaFirst 14 = .ok (.getfield 11, 3) := by decide +kernel
theorem dX3_isBehindMelismaFirst_17 : decode cX3_isBehindMelismaFirst 17 = .ok (.iload_n 1, 1) := by decide +kernel
theorem dX3_isBehindMelismaFirst_18 : decode cX3_isBehindMelismaFirst 18 = .ok (.aaload, 1) := by decide +kernel
theorem dX3_isBehindMelismaFirst_19 : decode cX3_isBehindMelismaFirst 19 = .ok (.getfield 85, 3) := by decide +kernel
theorem dX3_isBehindMelismaFirst_22 : decode cX3_isBehindMelismaFirst 22 = .ok (.iload_n 1, 1) := by decide +kernel
theorem dX3_isBehindMelismaFirst_23 : decode cX3_isBehindMelismaFirst 23 = .ok (.if_icmp .eq 7, 3) := by decide +kernel
theorem dX3_isBehindMelismaFirst_26 : decode cX3_isBehindMelismaFirst 26 = .ok (.iconst 1, 1) := by decide +kernel
theorem dX3_isBehindMelismaFirst_27 : decode cX3_isBehindMelismaFirst 27 = .ok (.goto 4, 3) := by decide +kernel
theorem dX3_isBehindMelismaFirst_30 : decode cX3_isBehindMelismaFirst 30 = .ok (.iconst 0, 1) := by decide +kernel
theorem dX3_isBehindMelismaFirst_31 : decode cX3_isBehindMelismaFirst 31 = .ok (.ireturn, 1) := by decide +kernel
theorem dX3_mayBeMelisma_0 : decode cX3_mayBeMelisma 0 = .ok (.iload_n 1, 1) := by decide +kernel
theorem dX3_mayBeMelisma_1 : decode cX3_mayBeMelisma 1 = .ok (.istore_n 3, 1) := by decide +kernel
theorem dX3_mayBeMelisma_2 : decode cX3_mayBeMelisma 2 = .ok (.iload_n 3, 1) := by decide +kernel
theorem dX3_mayBeMelisma_3 : decode cX3_mayBeMelisma 3 = .ok (.iload_n 1, 1) := by decide +kernel
theorem dX3_mayBeMelisma_4 : decode cX3_mayBeMelisma 4 = .ok (.iload_n 2, 1) := by decide +kernel
theorem dX3_mayBeMelisma_5 : decode cX3_mayBeMelisma 5 = .ok (.iadd, 1) := by decide +kernel
theorem dX3_mayBeMelisma_6 : decode cX3_mayBeMelisma 6 = .ok (.if_icmp .ge 52, 3) := by decide +kernel
theorem dX3_mayBeMelisma_9 : decode cX3_mayBeMelisma 9 = .ok (.aload_n 0, 1) := by decide +kernel
theorem dX3_mayBeMelisma_10 : decode cX3_mayBeMelisma 10 = .ok (.getfield 11, 3) := by decide +kernel
theorem dX3_mayBeMelisma_13 : decode cX3_mayBeMelisma 13 = .ok (.iload_n 3, 1) := by decide +kernel
theorem dX3_mayBeMelisma_14 : decode cX3_mayBeMelisma 14 = .ok (.aaload, 1) := by decide +kernel
theorem dX3_mayBeMelisma_15 : decode cX3_mayBeMelisma 15 = .ok (.getfield 230, 3) := by decide +kernel
theorem dX3_mayBeMelisma_18 : decode cX3_mayBeMelisma 18 = .ok (.ifCond .ne 16, 3) := by decide +kernel
theorem dX3_mayBeMelisma_21 : decode cX3_mayBeMelisma 21 = .ok (.aload_n 0, 1) := by decide +kernel
theorem dX3_mayBeMelisma_22 : decode cX3_mayBeMelisma 22 = .ok (.getfield 11, 3) := by decide +kernel
theorem dX3_mayBeMelisma_25 : decode cX3_mayBeMelisma 25 = .ok (.iload_n 3, 1) := by decide +kernel
theorem dX3_mayBeMelisma_26 : decode cX3_mayBeMelisma 26 = .ok (.aaload, 1) := by decide +kernel
theorem dX3_mayBeMelisma_27 : decode cX3_mayBeMelisma 27 = .ok (.getfield 85, 3) := by decide +kernel
theorem dX3_mayBeMelisma_30 : decode cX3_mayBeMelisma 30 = .ok (.iconst (-1), 1) := by decide +kernel
theorem dX3_mayBeMelisma_31 : decode cX3_mayBeMelisma 31 = .ok (.if_icmp .eq 5, 3) := by decide +kernel
theorem dX3_mayBeMelisma_34 : decode cX3_mayBeMelisma 34 = .ok (.iconst 0, 1) := by decide +kernel
theorem dX3_mayBeMelisma_35 : decode cX3_mayBeMelisma 35 = .ok (.ireturn, 1) := by decide +kernel
theorem dX3_mayBeMelisma_36 : decode cX3_mayBeMelisma 36 = .ok (.iload_n 3, 1) := by decide +kernel
theorem dX3_mayBeMelisma_37 : decode cX3_mayBeMelisma 37 = .ok (.iload_n 1, 1) := by decide +kernel
theorem dX3_mayBeMelisma_38 : decode cX3_mayBeMelisma 38 = .ok (.if_icmp .le 14, 3) := by decide +kernel
theorem dX3_mayBeMelisma_41 : decode cX3_mayBeMelisma 41 = .ok (.aload_n 0, 1) := by decide +kernel
theorem dX3_mayBeMelisma_42 : decode cX3_mayBeMelisma 42 = .ok (.iconst 0, 1) := by decide +kernel
theorem dX3_mayBeMelisma_43 : decode cX3_mayBeMelisma 43 = .ok (.iload_n 3, 1) := by decide +kernel
theorem dX3_mayBeMelisma_44 : decode cX3_mayBeMelisma 44 = .ok (.invokevirtual 236, 3) := by decide +kernel
theorem dX3_mayBeMelisma_47 : decode cX3_mayBeMelisma 47 = .ok (.ifCond .eq 5, 3) := by decide +kernel
theorem dX3_mayBeMelisma_50 : decode cX3_mayBeMelisma 50 = .ok (.iconst 0, 1) := by decide +kernel
theorem dX3_mayBeMelisma_51 : decode cX3_mayBeMelisma 51 = .ok (.ireturn, 1) := by decide +kernel
theorem dX3_mayBeMelisma_52 : decode cX3_mayBeMelisma 52 = .ok (.iinc 3 1, 3) := by decide +kernel
theorem dX3_mayBeMelisma_55 : decode cX3_mayBeMelisma 55 = .ok (.goto (-53), 3) := by decide +kernel
theorem dX3_mayBeMelisma_58 : decode cX3_mayBeMelisma 58 = .ok (.iconst 1, 1) := by decide +kernel
theorem dX3_mayBeMelisma_59 : decode cX3_mayBeMelisma 59 = .ok (.ireturn, 1) := by decide +kernel
theorem dX3_mayBeRefrain_0 : decode cX3_mayBeRefrain 0 = .ok (.iload_n 1, 1) := by decide +kernel
theorem dX3_mayBeRefrain_1 : decode cX3_mayBeRefrain 1 = .ok (.istore_n 3, 1) := by decide +kernel
theorem dX3_mayBeRefrain_2 : decode cX3_mayBeRefrain 2 = .ok (.iload_n 3, 1) := by decide +kernel
theorem dX3_mayBeRefrain_3 : decode cX3_mayBeRefrain 3 = .ok (.iload_n 1, 1) := by decide +kernel
theorem dX3_mayBeRefrain_4 : decode cX3_mayBeRefrain 4 = .ok (.iload_n 2, 1) := by decide +kernel
theorem dX3_mayBeRefrain_5 : decode cX3_mayBeRefrain 5 = .ok (.iadd, 1) := by decide +kernel
theorem dX3_mayBeRefrain_6 : decode cX3_mayBeRefrain 6 = .ok (.if_icmp .ge 33, 3) := by decide +kernel
theorem dX3_mayBeRefrain_9 : decode cX3_mayBeRefrain 9 = .ok (.aload_n 0, 1) := by decide +kernel
theorem dX3_mayBeRefrain_10 : decode cX3_mayBeRefrain 10 = .ok (.getfield 11, 3) := by decide +kernel
theorem dX3_mayBeRefrain_13 : decode cX3_mayBeRefrain 13 = .ok (.iload_n 3, 1) := by decide +kernel
theorem dX3_mayBeRefrain_14 : decode cX3_mayBeRefrain 14 = .ok (.aaload, 1) := by decide +kernel
theorem dX3_mayBeRefrain_15 : decode cX3_mayBeRefrain 15 = .ok (.getfield 100, 3) := by decide +kernel
theorem dX3_mayBeRefrain_18 : decode cX3_mayBeRefrain 18 = .ok (.iconst (-1), 1) := by decide +kernel
theorem dX3_mayBeRefrain_19 : decode cX3_mayBeRefrain 19 = .ok (.if_icmp .ne 12, 3) := by decide +kernel
theorem dX3_mayBeRefrain_22 : decode cX3_mayBeRefrain 22 = .ok (.aload_n 0, 1) := by decide +kernel
theorem dX3_mayBeRefrain_23 : decode cX3_mayBeRefrain 23 = .ok (.iconst 1, 1) := by decide +kernel
theorem dX3_mayBeRefrain_24 : decode cX3_mayBeRefrain 24 = .ok (.iload_n 3, 1) := by decide +kernel
theorem dX3_mayBeRefrain_25 : decode cX3_mayBeRefrain 25 = .ok (.invokevirtual 236, 3) := by decide +kernel
theorem dX3_mayBeRefrain_28 : decode cX3_mayBeRefrain 28 = .ok (.ifCond .eq 5, 3) := by decide +kernel
theorem dX3_mayBeRefrain_31 : decode cX3_mayBeRefrain 31 = .ok (.iconst 0, 1) := by decide +kernel
theorem dX3_mayBeRefrain_32 : decode cX3_mayBeRefrain 32 = .ok (.ireturn, 1) := by decide +kernel
theorem dX3_mayBeRefrain_33 : decode cX3_mayBeRefrain 33 = .ok (.iinc 3 1, 3) := by decide +kernel
theorem dX3_mayBeRefrain_36 : decode cX3_mayBeRefrain 36 = .ok (.goto (-34), 3) := by decide +kernel
theorem dX3_mayBeRefrain_39 : decode cX3_mayBeRefrain 39 = .ok (.iconst 1, 1) := by decide +kernel
theorem dX3_mayBeRefrain_40 : decode cX3_mayBeRefrain 40 = .ok (.ireturn, 1) := by decide +kernel
theorem dX3_hasBoxFrom_0 : decode cX3_hasBoxFrom 0 = .ok (.iload_n 1, 1) := by decide +kernel
theorem dX3_hasBoxFrom_1 : decode cX3_hasBoxFrom 1 = .ok (.istore_n 3, 1) := by decide +kernel
theorem dX3_hasBoxFrom_2 : decode cX3_hasBoxFrom 2 = .ok (.iload_n 3, 1) := by decide +kernel
theorem dX3_hasBoxFrom_3 : decode cX3_hasBoxFrom 3 = .ok (.iconst 4, 1) := by decide +kernel
theorem dX3_hasBoxFrom_4 : decode cX3_hasBoxFrom 4 = .ok (.if_icmp .ge 24, 3) := by decide +kernel
theorem dX3_hasBoxFrom_7 : decode cX3_hasBoxFrom 7 = .ok (.aload_n 0, 1) := by decide +kernel
theorem dX3_hasBoxFrom_8 : decode cX3_hasBoxFrom 8 = .ok (.getfield 17, 3) := by decide +kernel
theorem dX3_hasBoxFrom_11 : decode cX3_hasBoxFrom 11 = .ok (.iload_n 3, 1) := by decide +kernel
theorem dX3_hasBoxFrom_12 : decode cX3_hasBoxFrom 12 = .ok (.aaload, 1) := by decide +kernel
theorem dX3_hasBoxFrom_13 : decode cX3_hasBoxFrom 13 = .ok (.iload_n 2, 1) := by decide +kernel
theorem dX3_hasBoxFrom_14 : decode cX3_hasBoxFrom 14 = .ok (.invokevirtual 173, 3) := by decide +kernel
theorem dX3_hasBoxFrom_17 : decode cX3_hasBoxFrom 17 = .ok (.ifCond .eq 5, 3) := by decide +kernel
theorem dX3_hasBoxFrom_20 : decode cX3_hasBoxFrom 20 = .ok (.iconst 1, 1) := by decide +kernel
theorem dX3_hasBoxFrom_21 : decode cX3_hasBoxFrom 21 = .ok (.ireturn, 1) := by decide +kernel
theorem dX3_hasBoxFrom_22 : decode cX3_hasBoxFrom 22 = .ok (.iinc 3 1, 3) := by decide +kernel
theorem dX3_hasBoxFrom_25 : decode cX3_hasBoxFrom 25 = .ok (.goto (-23), 3) := by decide +kernel
theorem dX3_hasBoxFrom_28 : decode cX3_hasBoxFrom 28 = .ok (.iconst 0, 1) := by decide +kernel
theorem dX3_hasBoxFrom_29 : decode cX3_hasBoxFrom 29 = .ok (.ireturn, 1) := by decide +kernel
theorem dX3_placeNotes_0 : decode cX3_placeNotes 0 = .ok (.iconst 0, 1) := by decide +kernel
theorem dX3_placeNotes_1 : decode cX3_placeNotes 1 = .ok (.istore_n 1, 1) := by decide +kernel
theorem dX3_placeNotes_2 : decode cX3_placeNotes 2 = .ok (.iload_n 1, 1) := by decide +kernel
theorem dX3_placeNotes_3 : decode cX3_placeNotes 3 = .ok (.iconst 4, 1) := by decide +kernel
theorem dX3_placeNotes_4 : decode cX3_placeNotes 4 = .ok (.if_icmp .ge 19, 3) := by decide +kernel
theorem dX3_placeNotes_7 : decode cX3_placeNotes 7 = .ok (.aload_n 0, 1) := by decide +kernel
theorem dX3_placeNotes_8 : decode cX3_placeNotes 8 = .ok (.getfield 17, 3) := by decide +kernel
theorem dX3_placeNotes_11 : decode cX3_placeNotes 11 = .ok (.iload_n 1, 1) := by decide +kernel
theorem dX3_placeNotes_12 : decode cX3_placeNotes 12 = .ok (.aaload, 1) := by decide +kernel
theorem dX3_placeNotes_13 : decode cX3_placeNotes 13 = .ok (.iconst 0, 1) := by decide +kernel
theorem dX3_placeNotes_14 : decode cX3_placeNotes 14 = .ok (.putfield 239, 3) := by decide +kernel
theorem dX3_placeNotes_17 : decode cX3_placeNotes 17 = .ok (.iinc 1 1, 3) := by decide +kernel
theorem dX3_placeNotes_20 : decode cX3_placeNotes 20 = .ok (.goto (-18), 3) := by decide +kernel
theorem dX3_placeNotes_23 : decode cX3_placeNotes 23 = .ok (.iconst 0, 1) := by decide +kernel
theorem dX3_placeNotes_24 : decode cX3_placeNotes 24 = .ok (.istore_n 1, 1) := by decide +kernel
theorem dX3_placeNotes_25 : decode cX3_placeNotes 25 = .ok (.iconst 0, 1) := by decide +kernel
theorem dX3_placeNotes_26 : decode cX3_placeNotes 26 = .ok (.istore_n 2, 1) := by decide +kernel
theorem dX3_placeNotes_27 : decode cX3_placeNotes 27 = .ok (.iconst 0, 1) := by decide +kernel
theorem dX3_placeNotes_28 : decode cX3_placeNotes 28 = .ok (.istore_n 3, 1) := by decide +kernel
theorem dX3_placeNotes_29 : decode cX3_placeNotes 29 = .ok (.iconst 0, 1) := by decide +kernel
theorem dX3_placeNotes_30 : decode cX3_placeNotes 30 = .ok (.istore 4, 2) := by decide +kernel
theorem dX3_placeNotes_32 : decode cX3_placeNotes 32 = .ok (.iload 4, 2) := by decide +kernel
theorem dX3_placeNotes_34 : decode cX3_placeNotes 34 = .ok (.aload_n 0, 1) := by decide +kernel
theorem dX3_placeNotes_35 : decode cX3_placeNotes 35 = .ok (.getfield 43, 3) := by decide +kernel
theorem dX3_placeNotes_38 : decode cX3_placeNotes 38 = .ok (.if_icmp .ge 130, 3) := by decide +kernel
theorem dX3_placeNotes_41 : decode cX3_placeNotes 41 = .ok (.aload_n 0, 1) := by decide +kernel
theorem dX3_placeNotes_42 : decode cX3_placeNotes 42 = .ok (.getfield 11, 3) := by decide +kernel
theorem dX3_placeNotes_45 : decode cX3_placeNotes 45 = .ok (.iload 4, 2) := by decide +kernel
theorem dX3_placeNotes_47 : decode cX3_placeNotes 47 = .ok (.aaload, 1) := by decide +kernel
theorem dX3_placeNotes_48 : decode cX3_placeNotes 48 = .ok (.astore 5, 2) := by decide +kernel
theorem dX3_placeNotes_50 : decode cX3_placeNotes 50 = .ok (.aload 5, 2) := by decide +kernel
theorem dX3_placeNotes_52 : decode cX3_placeNotes 52 = .ok (.iload_n 1, 1) := by decide +kernel
theorem dX3_placeNotes_53 : decode cX3_placeNotes 53 = .ok (.aload_n 0, 1) := by decide +kernel
theorem dX3_placeNotes_54 : decode cX3_placeNotes 54 = .ok (.iload 4, 2) := by decide +kernel
theorem dX3_placeNotes_56 : decode cX3_placeNotes 56 = .ok (.invokevirtual 242, 3) := by decide +kernel
theorem dX3_placeNotes_59 : decode cX3_placeNotes 59 = .ok (.invokestatic 117, 3) := by decide +kernel
theorem dX3_placeNotes_62 : decode cX3_placeNotes 62 = .ok (.putfield 123, 3) := by decide +kernel
theorem dX3_placeNotes_65 : decode cX3_placeNotes 65 = .ok (.aload 5, 2) := by decide +kernel
theorem dX3_placeNotes_67 : decode cX3_placeNotes 67 = .ok (.getfield 79, 3) := by decide +kernel
theorem dX3_placeNotes_70 : decode cX3_placeNotes 70 = .ok (.ifCond .le 48, 3) := by decide +kernel
theorem dX3_placeNotes_73 : decode cX3_placeNotes 73 = .ok (.aload 5, 2) := by decide +kernel
theorem dX3_placeNotes_75 : decode cX3_placeNotes 75 = .ok (.aload 5, 2) := by decide +kernel
theorem dX3_placeNotes_77 : decode cX3_placeNotes 77 = .ok (.getfield 123, 3) := by decide +kernel
theorem dX3_placeNotes_80 : decode cX3_placeNotes 80 = .ok (.iload_n 2, 1) := by decide +kernel
theorem dX3_placeNotes_81 : decode cX3_placeNotes 81 = .ok (.invokestatic 117, 3) := by decide +kernel
theorem dX3_placeNotes_84 : decode cX3_placeNotes 84 = .ok (.putfield 123, 3) := by decide +kernel
theorem dX3_placeNotes_87 : decode cX3_placeNotes 87 = .ok (.iload_n 3, 1) := by decide +kernel
theorem dX3_placeNotes_88 : decode cX3_placeNotes 88 = .ok (.aload 5, 2) := by decide +kernel
theorem dX3_placeNotes_90 : decode cX3_placeNotes 90 = .ok (.getfield 123, 3) := by decide +kernel
theorem dX3_placeNotes_93 : decode cX3_placeNotes 93 = .ok (.aload 5, 2) := by decide +kernel
theorem dX3_placeNotes_95 : decode cX3_placeNotes 95 = .ok (.getfield 79, 3) := by decide +kernel
theorem dX3_placeNotes_98 : decode cX3_placeNotes 98 = .ok (.iadd, 1) := by decide +kernel
theorem dX3_placeNotes_99 : decode cX3_placeNotes 99 = .ok (.invokestatic 117, 3) := by decide +kernel
theorem dX3_placeNotes_102 : decode cX3_placeNotes 102 = .ok (.istore_n 3, 1) := by decide +kernel
theorem dX3_placeNotes_103 : decode cX3_placeNotes 103 = .ok (.aload 5, 2) := by decide +kernel
theorem dX3_placeNotes_105 : decode cX3_placeNotes 105 = .ok (.getfield 123, 3) := by decide +kernel
theorem dX3_placeNotes_108 : decode cX3_placeNotes 108 = .ok (.aload 5, 2) := by decide +kernel
theorem dX3_placeNotes_110 : decode cX3_placeNotes 110 = .ok (.getfield 79, 3) := by decide +kernel
theorem dX3_placeNotes_113 : decode cX3_placeNotes 113 = .ok (.iadd, 1) := by decide +kernel
theorem dX3_placeNotes_114 : decode cX3_placeNotes 114 = .ok (.bipush 10, 2) := by decide +kernel
theorem dX3_placeNotes_116 : decode cX3_placeNotes 116 = .ok (.iadd, 1) := by decide +kernel
theorem dX3_placeNotes_117 : decode cX3_placeNotes 117 = .ok (.istore_n 2, 1) := by decide +kernel
theorem dX3_placeNotes_118 : decode cX3_placeNotes 118 = .ok (.aload 5, 2) := by decide +kernel
theorem dX3_placeNotes_120 : decode cX3_placeNotes 120 = .ok (.aload 5, 2) := by decide +kernel
theorem dX3_placeNotes_122 : decode cX3_placeNotes 122 = .ok (.getfield 123, 3) := by decide +kernel
theorem dX3_placeNotes_125 : decode cX3_placeNotes 125 = .ok (.iload_n 1, 1) := by decide +kernel
theorem dX3_placeNotes_126 : decode cX3_placeNotes 126 = .ok (.isub, 1) := by decide +kernel
theorem dX3_placeNotes_127 : decode cX3_placeNotes 127 = .ok (.putfield 126, 3) := by decide +kernel
theorem dX3_placeNotes_130 : decode cX3_placeNotes 130 = .ok (.aload 5, 2) := by decide +kernel
theorem dX3_placeNotes_132 : decode cX3_placeNotes 132 = .ok (.getfield 123, 3) := by decide +kernel
theorem dX3_placeNotes_135 : decode cX3_placeNotes 135 = .ok (.aload 5, 2) := by decide +kernel
theorem dX3_placeNotes_137 : decode cX3_placeNotes 137 = .ok (.getfield 245, 3) := by decide +kernel
theorem dX3_placeNotes_140 : decode cX3_placeNotes 140 = .ok (.iadd, 1) := by decide +kernel
theorem dX3_placeNotes_141 : decode cX3_placeNotes 141 = .ok (.bipush 10, 2) := by decide +kernel
theorem dX3_placeNotes_143 : decode cX3_placeNotes 143 = .ok (.aload 5, 2) := by decide +kernel
theorem dX3_placeNotes_145 : decode cX3_placeNotes 145 = .ok (.getfield 248, 3) := by decide +kernel
theorem dX3_placeNotes_148 : decode cX3_placeNotes 148 = .ok (.imul, 1) := by decide +kernel
theorem dX3_placeNotes_149 : decode cX3_placeNotes 149 = .ok (.iadd, 1) := by decide +kernel
theorem dX3_placeNotes_150 : decode cX3_placeNotes 150 = .ok (.istore_n 1, 1) := by decide +kernel
theorem dX3_placeNotes_151 : decode cX3_placeNotes 151 = .ok (.iload_n 3, 1) := by decide +kernel
theorem dX3_placeNotes_152 : decode cX3_placeNotes 152 = .ok (.aload_n 0, 1) := by decide +kernel
theorem dX3_placeNotes_153 : decode cX3_placeNotes 153 = .ok (.iload 4, 2) := by decide +kernel
theorem dX3_placeNotes_155 : decode cX3_placeNotes 155 = .ok (.invokevirtual 251, 3) := by decide +kernel
theorem dX3_placeNotes_158 : decode cX3_placeNotes 158 = .ok (.invokestatic 117, 3) := by decide +kernel
theorem dX3_placeNotes_161 : decode cX3_placeNotes 161 = .ok (.istore_n 3, 1) := by decide +kernel
theorem dX3_placeNotes_162 : decode cX3_placeNotes 162 = .ok (.iinc 4 1, 3) := by decide +kernel
theorem dX3_placeNotes_165 : decode cX3_placeNotes 165 = .ok (.goto (-133), 3) := by decide +kernel
theorem dX3_placeNotes_168 : decode cX3_placeNotes 168 = .ok (.aload_n 0, 1) := by decide +kernel
theorem dX3_placeNotes_169 : decode cX3_placeNotes 169 = .ok (.getfield 43, 3) := by decide +kernel
theorem dX3_placeNotes_172 : decode cX3_placeNotes 172 = .ok (.ifCond .le 22, 3) := by decide +kernel
theorem dX3_placeNotes_175 : decode cX3_placeNotes 175 = .ok (.iload_n 3, 1) := by decide +kernel
theorem dX3_placeNotes_176 : decode cX3_placeNotes 176 = .ok (.aload_n 0, 1) := by decide +kernel
theorem dX3_placeNotes_177 : decode cX3_placeNotes 177 = .ok (.getfield 11, 3) := by decide +kernel
theorem dX3_placeNotes_180 : decode cX3_placeNotes 180 = .ok (.aload_n 0, 1) := by decide +kernel
theorem dX3_placeNotes_181 : decode cX3_placeNotes 181 = .ok (.getfield 43, 3) := by decide +kernel
theorem dX3_placeNotes_184 : decode cX3_placeNotes 184 = .ok (.iconst 1, 1) := by decide +kernel
theorem dX3_placeNotes_185 : decode cX3_placeNotes 185 = .ok (.isub, 1) := by decide +kernel
theorem dX3_placeNotes_186 : decode cX3_placeNotes 186 = .ok (.aaload, 1) := by decide +kernel
theorem dX3_placeNotes_187 : decode cX3_placeNotes 187 = .ok (.invokevirtual 254, 3) := by decide +kernel
theorem dX3_placeNotes_190 : decode cX3_placeNotes 190 = .ok (.invokestatic 117, 3) := by decide +kernel
theorem dX3_placeNotes_193 : decode cX3_placeNotes 193 = .ok (.istore_n 3, 1) := by decide +kernel
theorem dX3_placeNotes_194 : decode cX3_placeNotes 194 = .ok (.iload_n 3, 1) := by decide +kernel
theorem dX3_placeNotes_195 : decode cX3_placeNotes 195 = .ok (.ireturn, 1) := by decide +kernel
theorem dX3_leastForBoxes_0 : decode cX3_leastForBoxes 0 = .ok (.iconst 0, 1) := by decide +kernel
theorem dX3_leastForBoxes_1 : decode cX3_leastForBoxes 1 = .ok (.istore_n 2, 1) := by decide +kernel
theorem dX3_leastForBoxes_2 : decode cX3_leastForBoxes 2 = .ok (.iconst 0, 1) := by decide +kernel
theorem dX3_leastForBoxes_3 : decode cX3_leastForBoxes 3 = .ok (.istore_n 3, 1) := by decide +kernel
theorem dX3_leastForBoxes_4 : decode cX3_leastForBoxes 4 = .ok (.iload_n 3, 1) := by decide +kernel
theorem dX3_leastForBoxes_5 : decode cX3_leastForBoxes 5 = .ok (.iconst 4, 1) := by decide +kernel
theorem dX3_leastForBoxes_6 : decode cX3_leastForBoxes 6 = .ok (.if_icmp .ge 51, 3) := by decide +kernel
theorem dX3_leastForBoxes_9 : decode cX3_leastForBoxes 9 = .ok (.aload_n 0, 1) := by decide +kernel
theorem dX3_leastForBoxes_10 : decode cX3_leastForBoxes 10 = .ok (.getfield 17, 3) := by decide +kernel
theorem dX3_leastForBoxes_13 : decode cX3_leastForBoxes 13 = .ok (.iload_n 3, 1) := by decide +kernel
theorem dX3_leastForBoxes_14 : decode cX3_leastForBoxes 14 = .ok (.aaload, 1) := by decide +kernel
theorem dX3_leastForBoxes_15 : decode cX3_leastForBoxes 15 = .ok (.astore 4, 2) := by decide +kernel
theorem dX3_leastForBoxes_17 : decode cX3_leastForBoxes 17 = .ok (.aload 4, 2) := by decide +kernel
theorem dX3_leastForBoxes_19 : decode cX3_leastForBoxes 19 = .ok (.iload_n 1, 1) := by decide +kernel
theorem dX3_leastForBoxes_20 : decode cX3_leastForBoxes 20 = .ok (.invokevirtual 173, 3) := by decide +kernel
theorem dX3_leastForBoxes_23 : decode cX3_leastForBoxes 23 = .ok (.ifCond .eq 28, 3) := by decide +kernel
theorem dX3_leastForBoxes_26 : decode cX3_leastForBoxes 26 = .ok (.aload 4, 2) := by decide +kernel
theorem dX3_leastForBoxes_28 : decode cX3_leastForBoxes 28 = .ok (.getfield 106, 3) := by decide +kernel
theorem dX3_leastForBoxes_31 : decode cX3_leastForBoxes 31 = .ok (.ifCond .ne 20, 3) := by decide +kernel
theorem dX3_leastForBoxes_34 : decode cX3_leastForBoxes 34 = .ok (.iload_n 2, 1) := by decide +kernel
theorem dX3_leastForBoxes_35 : decode cX3_leastForBoxes 35 = .ok (.aload 4, 2) := by decide +kernel
theorem dX3_leastForBoxes_37 : decode cX3_leastForBoxes 37 = .ok (.getfield 239, 3) := by decide +kernel
theorem dX3_leastForBoxes_40 : decode cX3_leastForBoxes 40 = .ok (.aload 4, 2) := by decide +kernel
theorem dX3_leastForBoxes_42 : decode cX3_leastForBoxes 42 = .ok (.iload_n 1, 1) := by decide +kernel
theorem dX3_leastForBoxes_43 : decode cX3_leastForBoxes 43 = .ok (.invokevirtual 257, 3) := by decide +kernel
theorem dX3_leastForBoxes_46 : decode cX3_leastForBoxes 46 = .ok (.iadd, 1) := by decide +kernel
theorem dX3_leastForBoxes_47 : decode cX3_leastForBoxes 47 = .ok (.invokestatic 117, 3) := by decide +kernel
theorem dX3_leastForBoxes_50 : decode cX3_leastForBoxes 50 = .ok (.istore_n 2, 1) := by decide +kernel
theorem dX3_leastForBoxes_51 : decode cX3_leastForBoxes 51 = .ok (.iinc 3 1, 3) := by decide +kernel
theorem dX3_leastForBoxes_54 : decode cX3_leastForBoxes 54 = .ok (.goto (-50), 3) := by decide +kernel
theorem dX3_leastForBoxes_57 : decode cX3_leastForBoxes 57 = .ok (.iload_n 2, 1) := by decide +kernel
theorem dX3_leastForBoxes_58 : decode cX3_leastForBoxes 58 = .ok (.ireturn, 1) := by decide +kernel
theorem dX3_placeBoxes_0 : decode cX3_placeBoxes 0 = .ok (.iconst 0, 1) := by decide +kernel
theorem dX3_placeBoxes_1 : decode cX3_placeBoxes 1 = .ok (.istore_n 2, 1) := by decide +kernel
theorem dX3_placeBoxes_2 : decode cX3_placeBoxes 2 = .ok (.iconst 0, 1) := by decide +kernel
theorem dX3_placeBoxes_3 : decode cX3_placeBoxes 3 = .ok (.istore_n 3, 1) := by decide +kernel
theorem dX3_placeBoxes_4 : decode cX3_placeBoxes 4 = .ok (.iload_n 3, 1) := by decide +kernel
theorem dX3_placeBoxes_5 : decode cX3_placeBoxes 5 = .ok (.iconst 4, 1) := by decide +kernel
theorem dX3_placeBoxes_6 : decode cX3_placeBoxes 6 = .ok (.if_icmp .ge 46, 3) := by decide +kernel
theorem dX3_placeBoxes_9 : decode cX3_placeBoxes 9 = .ok (.aload_n 0, 1) := by decide +kernel
theorem dX3_placeBoxes_10 : decode cX3_placeBoxes 10 = .ok (.getfield 17, 3) := by decide +kernel
theorem dX3_placeBoxes_13 : decode cX3_placeBoxes 13 = .ok (.iload_n 3, 1) := by decide +kernel
theorem dX3_placeBoxes_14 : decode cX3_placeBoxes 14 = .ok (.aaload, 1) := by decide +kernel
theorem dX3_placeBoxes_15 : decode cX3_placeBoxes 15 = .ok (.iload_n 1, 1) := by decide +kernel
theorem dX3_placeBoxes_16 : decode cX3_placeBoxes 16 = .ok (.invokevirtual 173, 3) := by decide +kernel
theorem dX3_placeBoxes_19 : decode cX3_placeBoxes 19 = .ok (.ifCond .eq 27, 3) := by decide +kernel
theorem dX3_placeBoxes_22 : decode cX3_placeBoxes 22 = .ok (.iload_n 2, 1) := by decide +kernel
theorem dX3_placeBoxes_23 : decode cX3_placeBoxes 23 = .ok (.aload_n 0, 1) := by decide +kernel
theorem dX3_placeBoxes_24 : decode cX3_placeBoxes 24 = .ok (.getfield 17, 3) := by decide +kernel
theorem dX3_placeBoxes_27 : decode cX3_placeBoxes 27 = .ok (.iload_n 3, 1) := by decide +kernel
theorem dX3_placeBoxes_28 : decode cX3_placeBoxes 28 = .ok (.aaload, 1) := by decide +kernel
theorem dX3_placeBoxes_29 : decode cX3_placeBoxes 29 = .ok (.iload_n 1, 1) := by decide +kernel
theorem dX3_placeBoxes_30 : decode cX3_placeBoxes 30 = .ok (.aload_n 0, 1) := by decide +kernel
theorem dX3_placeBoxes_31 : decode cX3_placeBoxes 31 = .ok (.getfield 11, 3) := by decide +kernel
theorem dX3_placeBoxes_34 : decode cX3_placeBoxes 34 = .ok (.iload_n 1, 1) := by decide +kernel
theorem dX3_placeBoxes_35 : decode cX3_placeBoxes 35 = .ok (.aaload, 1) := by decide +kernel
theorem dX3_placeBoxes_36 : decode cX3_placeBoxes 36 = .ok (.getfield 123, 3) := by decide +kernel
theorem dX3_placeBoxes_39 : decode cX3_placeBoxes 39 = .ok (.invokevirtual 260, 3) := by decide +kernel
theorem dX3_placeBoxes_42 : decode cX3_placeBoxes 42 = .ok (.invokestatic 117, 3) := by decide +kernel
theorem dX3_placeBoxes_45 : decode cX3_placeBoxes 45 = .ok (.istore_n 2, 1) := by decide +kernel
theorem dX3_placeBoxes_46 : decode cX3_placeBoxes 46 = .ok (.iinc 3 1, 3) := by decide +kernel
theorem dX3_placeBoxes_49 : decode cX3_placeBoxes 49 = .ok (.goto (-45), 3) := by decide +kernel
theorem dX3_placeBoxes_52 : decode cX3_placeBoxes 52 = .ok (.iload_n 2, 1) := by decide +kernel
theorem dX3_placeBoxes_53 : decode cX3_placeBoxes 53 = .ok (.ireturn, 1) := by decide +kernel
theorem dX3_hyphensIn_0 : decode cX3_hyphensIn 0 = .ok (.iload_n 0, 1) := by decide +kernel
theorem dX3_hyphensIn_1 : decode cX3_hyphensIn 1 = .ok (.bipush 10, 2) := by decide +kernel
theorem dX3_hyphensIn_3 : decode cX3_hyphensIn 3 = .ok (.if_icmp .ge 7, 3) := by decide +kernel
theorem dX3_hyphensIn_6 : decode cX3_hyphensIn 6 = .ok (.iconst 0, 1) := by decide +kernel
theorem dX3_hyphensIn_7 : decode cX3_hyphensIn 7 = .ok (.goto 12, 3) := by decide +kernel
theorem dX3_hyphensIn_10 : decode cX3_hyphensIn 10 = .ok (.iconst 1, 1) := by decide +kernel
theorem dX3_hyphensIn_11 : decode cX3_hyphensIn 11 = .ok (.iload_n 0, 1) := by decide +kernel
theorem dX3_hyphensIn_12 : decode cX3_hyphensIn 12 = .ok (.bipush 10, 2) := by decide +kernel
theorem dX3_hyphensIn_14 : decode cX3_hyphensIn 14 = .ok (.isub, 1) := by decide +kernel
theorem dX3_hyphensIn_15 : decode cX3_hyphensIn 15 = .ok (.bipush 80, 2) := by decide +kernel
theorem dX3_hyphensIn_17 : decode cX3_hyphensIn 17 = .ok (.idiv, 1) := by decide +kernel
theorem dX3_hyphensIn_18 : decode cX3_hyphensIn 18 = .ok (.iadd, 1) := by decide +kernel
theorem dX3_hyphensIn_19 : decode cX3_hyphensIn 19 = .ok (.ireturn, 1) := by decide +kernel
theorem dX3_lineEnd_0 : decode cX3_lineEnd 0 = .ok (.aload_n 0, 1) := by decide +kernel
theorem dX3_lineEnd_1 : decode cX3_lineEnd 1 = .ok (.getfield 11, 3) := by decide +kernel
theorem dX3_lineEnd_4 : decode cX3_lineEnd 4 = .ok (.aload_n 0, 1) := by decide +kernel
theorem dX3_lineEnd_5 : decode cX3_lineEnd 5 = .ok (.getfield 11, 3) := by decide +kernel
theorem dX3_lineEnd_8 : decode cX3_lineEnd 8 = .ok (.iload_n 1, 1) := by decide +kernel
theorem dX3_lineEnd_9 : decode cX3_lineEnd 9 = .ok (.aaload, 1) := by decide +kernel
theorem dX3_lineEnd_10 : decode cX3_lineEnd 10 = .ok (.getfield 88, 3) := by decide +kernel
theorem dX3_lineEnd_13 : decode cX3_lineEnd 13 = .ok (.aaload, 1) := by decide +kernel
theorem dX3_lineEnd_14 : decode cX3_lineEnd 14 = .ok (.invokevirtual 254, 3) := by decide +kernel
theorem dX3_lineEnd_17 : decode cX3_lineEnd 17 = .ok (.istore_n 3, 1) := by decide +kernel
theorem dX3_lineEnd_18 : decode cX3_lineEnd 18 = .ok (.aload_n 2, 1) := by decide +kernel
theorem dX3_lineEnd_19 : decode cX3_lineEnd 19 = .ok (.iload_n 1, 1) := by decide +kernel
theorem dX3_lineEnd_20 : decode cX3_lineEnd 20 = .ok (.invokevirtual 263, 3) := by decide +kernel
theorem dX3_lineEnd_23 : decode cX3_lineEnd 23 = .ok (.istore 4, 2) := by decide +kernel
theorem dX3_lineEnd_25 : decode cX3_lineEnd 25 = .ok (.iload 4, 2) := by decide +kernel
theorem dX3_lineEnd_27 : decode cX3_lineEnd 27 = .ok (.iconst (-1), 1) := by decide +kernel
theorem dX3_lineEnd_28 : decode cX3_lineEnd 28 = .ok (.if_icmp .ne 7, 3) := by decide +kernel
theorem dX3_lineEnd_31 : decode cX3_lineEnd 31 = .ok (.iload_n 3, 1) := by decide +kernel
theorem dX3_lineEnd_32 : decode cX3_lineEnd 32 = .ok (.goto 16, 3) := by decide +kernel
theorem dX3_lineEnd_35 : decode cX3_lineEnd 35 = .ok (.iload_n 3, 1) := by decide +kernel
theorem dX3_lineEnd_36 : decode cX3_lineEnd 36 = .ok (.aload_n 2, 1) := by decide +kernel
theorem dX3_lineEnd_37 : decode cX3_lineEnd 37 = .ok (.getfield 132, 3) := by decide +kernel
theorem dX3_lineEnd_40 : decode cX3_lineEnd 40 = .ok (.iload 4, 2) := by decide +kernel
theorem dX3_lineEnd_42 : decode cX3_lineEnd 42 = .ok (.iaload, 1) := by decide +kernel
theorem dX3_lineEnd_43 : decode cX3_lineEnd 43 = .ok (.iconst 4, 1) := by decide +kernel
theorem dX3_lineEnd_44 : decode cX3_lineEnd 44 = .ok (.isub, 1) := by decide +kernel
theorem dX3_lineEnd_45 : decode cX3_lineEnd 45 = .ok (.invokestatic 266, 3) := by decide +kernel
theorem dX3_lineEnd_48 : decode cX3_lineEnd 48 = .ok (.ireturn, 1) := by decide +kernel
theorem dX3_listFaults_0 : decode cX3_listFaults 0 = .ok (.iconst 0, 1) := by decide +kernel
theorem dX3_listFaults_1 : decode cX3_listFaults 1 = .ok (.istore_n 1, 1) := by decide +kernel
theorem dX3_listFaults_2 : decode cX3_listFaults 2 = .ok (.iconst 0, 1) := by decide +kernel
theorem dX3_listFaults_3 : decode cX3_listFaults 3 = .ok (.istore_n 2, 1) := by decide +kernel
theorem dX3_listFaults_4 : decode cX3_listFaults 4 = .ok (.iload_n 2, 1) := by decide +kernel
theorem dX3_listFaults_5 : decode cX3_listFaults 5 = .ok (.iconst 4, 1) := by decide +kernel
theorem dX3_listFaults_6 : decode cX3_listFaults 6 = .ok (.if_icmp .ge 64, 3) := by decide +kernel
theorem dX3_listFaults_9 : decode cX3_listFaults 9 = .ok (.aload_n 0, 1) := by decide +kernel
theorem dX3_listFaults_10 : decode cX3_listFaults 10 = .ok (.getfield 17, 3) := by decide +kernel
theorem dX3_listFaults_13 : decode cX3_listFaults 13 = .ok (.iload_n 2, 1) := by decide +kernel
theorem dX3_listFaults_14 : decode cX3_listFaults 14 = .ok (.aaload, 1) := by decide +kernel
theorem dX3_listFaults_15 : decode cX3_listFaults 15 = .ok (.invokevirtual 269, 3) := by decide +kernel
theorem dX3_listFaults_18 : decode cX3_listFaults 18 = .ok (.istore_n 3, 1) := by decide +kernel
theorem dX3_listFaults_19 : decode cX3_listFaults 19 = .ok (.iconst 0, 1) := by decide +kernel
theorem dX3_listFaults_20 : decode cX3_listFaults 20 = .ok (.istore 4, 2) := by decide +kernel
theorem dX3_listFaults_22 : decode cX3_listFaults 22 = .ok (.iload 4, 2) := by decide +kernel
theorem dX3_listFaults_24 : decode cX3_listFaults 24 = .ok (.aload_n 0, 1) := by decide +kernel
theorem dX3_listFaults_25 : decode cX3_listFaults 25 = .ok (.getfield 43, 3) := by decide +kernel
theorem dX3_listFaults_28 : decode cX3_listFaults 28 = .ok (.if_icmp .ge 36, 3) := by decide +kernel
theorem dX3_listFaults_31 : decode cX3_listFaults 31 = .ok (.aload_n 0, 1) := by decide +kernel
theorem dX3_listFaults_32 : decode cX3_listFaults 32 = .ok (.iload_n 2, 1) := by decide +kernel
theorem dX3_listFaults_33 : decode cX3_listFaults 33 = .ok (.iload 4, 2) := by decide +kernel
theorem dX3_listFaults_35 : decode cX3_listFaults 35 = .ok (.iload_n 3, 1) := by decide +kernel
theorem dX3_listFaults_36 : decode cX3_listFaults 36 = .ok (.invokevirtual 272, 3) := by decide +kernel
theorem dX3_listFaults_39 : decode cX3_listFaults 39 = .ok (.ifCond .eq 19, 3) := by decide +kernel
theorem dX3_listFaults_42 : decode cX3_listFaults 42 = .ok (.aload_n 0, 1) := by decide +kernel
theorem dX3_listFaults_43 : decode cX3_listFaults 43 = .ok (.getfield 28, 3) := by decide +kernel
theorem dX3_listFaults_46 : decode cX3_listFaults 46 = .ok (.iload_n 1, 1) := by decide +kernel
theorem dX3_listFaults_47 : decode cX3_listFaults 47 = .ok (.iload_n 2, 1) := by decide +kernel
theorem dX3_listFaults_48 : decode cX3_listFaults 48 = .ok (.bipush 60, 2) := by decide +kernel
theorem dX3_listFaults_50 : decode cX3_listFaults 50 = .ok (.imul, 1) := by decide +kernel
theorem dX3_listFaults_51 : decode cX3_listFaults 51 = .ok (.iload 4, 2) := by decide +kernel
theorem dX3_listFaults_53 : decode cX3_listFaults 53 = .ok (.iadd, 1) := by decide +kernel
theorem dX3_listFaults_54 : decode cX3_listFaults 54 = .ok (.iastore, 1) := by decide +kernel
theorem dX3_listFaults_55 : decode cX3_listFaults 55 = .ok (.iinc 1 1, 3) := by decide +kernel
theorem dX3_listFaults_58 : decode cX3_listFaults 58 = .ok (.iinc 4 1, 3) := by decide +kernel
theorem dX3_listFaults_61 : decode cX3_listFaults 61 = .ok (.goto (-39), 3) := by decide +kernel
theorem dX3_listFaults_64 : decode cX3_listFaults 64 = .ok (.iinc 2 1, 3) := by decide +kernel
theorem dX3_listFaults_67 : decode cX3_listFaults 67 = .ok (.goto (-63), 3) := by decide +kernel
theorem dX3_listFaults_70 : decode cX3_listFaults 70 = .ok (.iload_n 1, 1) := by decide +kernel
theorem dX3_listFaults_71 : decode cX3_listFaults 71 = .ok (.ireturn, 1) := by decide +kernel
theorem dX3_isFault_0 : decode cX3_isFault 0 = .ok (.aload_n 0, 1) := by decide +kernel
theorem dX3_isFault_1 : decode cX3_isFault 1 = .ok (.getfield 17, 3) := by decide +kernel
theorem dX3_isFault_4 : decode cX3_isFault 4 = .ok (.iload_n 1, 1) := by decide +kernel
theorem dX3_isFault_5 : decode cX3_isFault 5 = .ok (.aaload, 1) := by decide +kernel
theorem dX3_isFault_6 : decode cX3_isFault 6 = .ok (.astore 4, 2) := by decide +kernel
theorem dX3_isFault_8 : decode cX3_isFault 8 = .ok (.aload 4, 2) := by decide +kernel
theorem dX3_isFault_10 : decode cX3_isFault 10 = .ok (.iload_n 2, 1) := by decide +kernel
theorem dX3_isFault_11 : decode cX3_isFault 11 = .ok (.invokevirtual 173, 3) := by decide +kernel
theorem dX3_isFault_14 : decode cX3_isFault 14 = .ok (.ifCond .eq 23, 3) := by decide +kernel
theorem dX3_isFault_17 : decode cX3_isFault 17 = .ok (.iload_n 2, 1) := by decide +kernel
theorem dX3_isFault_18 : decode cX3_isFault 18 = .ok (.iload_n 3, 1) := by decide +kernel
theorem dX3_isFault_19 : decode cX3_isFault 19 = .ok (.if_icmp .ne 16, 3) := by decide +kernel
theorem dX3_isFault_22 : decode cX3_isFault 22 = .ok (.aload 4, 2) := by decide +kernel
theorem dX3_isFault_24 : decode cX3_isFault 24 = .ok (.iload_n 2, 1) := by decide +kernel
theorem dX3_isFault_25 : decode cX3_isFault 25 = .ok (.invokevirtual 157, 3) := by decide +kernel
theorem dX3_isFault_28 : decode cX3_isFault 28 = .ok (.ifCond .eq 7, 3) := by decide +kernel
theorem dX3_isFault_31 : decode cX3_isFault 31 = .ok (.iconst 1, 1) := by decide +kernel
theorem dX3_isFault_32 : decode cX3_isFault 32 = .ok (.goto 4, 3) := by decide +kernel
theorem dX3_isFault_35 : decode cX3_isFault 35 = .ok (.iconst 0, 1) := by decide +kernel
theorem dX3_isFault_36 : decode cX3_isFault 36 = .ok (.ireturn, 1) := by decide +kernel
theorem dX3_isFault_37 : decode cX3_isFault 37 = .ok (.iload_n 3, 1) := by decide +kernel
theorem dX3_isFault_38 : decode cX3_isFault 38 = .ok (.iconst (-1), 1) := by decide +kernel
theorem dX3_isFault_39 : decode cX3_isFault 39 = .ok (.if_icmp .eq 24, 3) := by decide +kernel
theorem dX3_isFault_42 : decode cX3_isFault 42 = .ok (.aload 4, 2) := by decide +kernel
theorem dX3_isFault_44 : decode cX3_isFault 44 = .ok (.getfield 106, 3) := by decide +kernel
theorem dX3_isFault_47 : decode cX3_isFault 47 = .ok (.ifCond .ne 16, 3) := by decide +kernel
theorem dX3_isFault_50 : decode cX3_isFault 50 = .ok (.aload_n 0, 1) := by decide +kernel
theorem dX3_isFault_51 : decode cX3_isFault 51 = .ok (.iload_n 2, 1) := by decide +kernel
theorem dX3_isFault_52 : decode cX3_isFault 52 = .ok (.iload_n 1, 1) := by decide +kernel
theorem dX3_isFault_53 : decode cX3_isFault 53 = .ok (.invokevirtual 63, 3) := by decide +kernel
theorem dX3_isFault_56 : decode cX3_isFault 56 = .ok (.ifCond .eq 7, 3) := by decide +kernel
theorem dX3_isFault_59 : decode cX3_isFault 59 = .ok (.iconst 1, 1) := by decide +kernel
theorem dX3_isFault_60 : decode cX3_isFault 60 = .ok (.goto 4, 3) := by decide +kernel
theorem dX3_isFault_63 : decode cX3_isFault 63 = .ok (.iconst 0, 1) := by decide +kernel
theorem dX3_isFault_64 : decode cX3_isFault 64 = .ok (.ireturn, 1) := by decide +kernel
theorem dX3_sharedVerse_0 : decode cX3_sharedVerse 0 = .ok (.iconst 0, 1) := by decide +kernel
theorem dX3_sharedVerse_1 : decode cX3_sharedVerse 1 = .ok (.istore_n 2, 1) := by decide +kernel
theorem dX3_sharedVerse_2 : decode cX3_sharedVerse 2 = .ok (.iload_n 2, 1) := by decide +kernel
theorem dX3_sharedVerse_3 : decode cX3_sharedVerse 3 = .ok (.iload_n 1, 1) := by decide +kernel
theorem dX3_sharedVerse_4 : decode cX3_sharedVerse 4 = .ok (.if_icmp .ge 30, 3) := by decide +kernel
theorem dX3_sharedVerse_7 : decode cX3_sharedVerse 7 = .ok (.aload_n 0, 1) := by decide +kernel
theorem dX3_sharedVerse_8 : decode cX3_sharedVerse 8 = .ok (.aload_n 0, 1) := by decide +kernel
theorem dX3_sharedVerse_9 : decode cX3_sharedVerse 9 = .ok (.getfield 17, 3) := by decide +kernel
theorem dX3_sharedVerse_12 : decode cX3_sharedVerse 12 = .ok (.iload_n 2, 1) := by decide +kernel
theorem dX3_sharedVerse_13 : decode cX3_sharedVerse 13 = .ok (.aaload, 1) := by decide +kernel
theorem dX3_sharedVerse_14 : decode cX3_sharedVerse 14 = .ok (.aload_n 0, 1) := by decide +kernel
theorem dX3_sharedVerse_15 : decode cX3_sharedVerse 15 = .ok (.getfield 17, 3) := by decide +kernel
theorem dX3_sharedVerse_18 : decode cX3_sharedVerse 18 = .ok (.iload_n 1, 1) := by decide +kernel
theorem dX3_sharedVerse_19 : decode cX3_sharedVerse 19 = .ok (.aaload, 1) := by decide +kernel
theorem dX3_sharedVerse_20 : decode cX3_sharedVerse 20 = .ok (.invokevirtual 275, 3) := by decide +kernel
theorem dX3_sharedVerse_23 : decode cX3_sharedVerse 23 = .ok (.ifCond .eq 5, 3) := by decide +kernel
theorem dX3_sharedVerse_26 : decode cX3_sharedVerse 26 = .ok (.iload_n 2, 1) := by decide +kernel
theorem dX3_sharedVerse_27 : decode cX3_sharedVerse 27 = .ok (.ireturn, 1) := by decide +kernel
theorem dX3_sharedVerse_28 : decode cX3_sharedVerse 28 = .ok (.iinc 2 1, 3) := by decide +kernel
theorem dX3_sharedVerse_31 : decode cX3_sharedVerse 31 = .ok (.goto (-29), 3) := by decide +kernel
theorem dX3_sharedVerse_34 : decode cX3_sharedVerse 34 = .ok (.iconst (-1), 1) := by decide +kernel
theorem dX3_sharedVerse_35 : decode cX3_sharedVerse 35 = .ok (.ireturn, 1) := by decide +kernel
theorem dX3_areAlike_0 : decode cX3_areAlike 0 = .ok (.aload_n 1, 1) := by decide +kernel
theorem dX3_areAlike_1 : decode cX3_areAlike 1 = .ok (.invokevirtual 179, 3) := by decide +kernel
theorem dX3_areAlike_4 : decode cX3_areAlike 4 = .ok (.ifCond .eq 10, 3) := by decide +kernel
theorem dX3_areAlike_7 : decode cX3_areAlike 7 = .ok (.aload_n 2, 1) := by decide +kernel
theorem dX3_areAlike_8 : decode cX3_areAlike 8 = .ok (.invokevirtual 179, 3) := by decide +kernel
theorem dX3_areAlike_11 : decode cX3_areAlike 11 = .ok (.ifCond .ne 5, 3) := by decide +kernel
theorem dX3_areAlike_14 : decode cX3_areAlike 14 = .ok (.iconst 0, 1) := by decide +kernel
theorem dX3_areAlike_15 : decode cX3_areAlike 15 = .ok (.ireturn, 1) := by decide +kernel
theorem dX3_areAlike_16 : decode cX3_areAlike 16 = .ok (.aload_n 1, 1) := by decide +kernel
theorem dX3_areAlike_17 : decode cX3_areAlike 17 = .ok (.getfield 103, 3) := by decide +kernel
theorem dX3_areAlike_20 : decode cX3_areAlike 20 = .ok (.aload_n 2, 1) := by decide +kernel
theorem dX3_areAlike_21 : decode cX3_areAlike 21 = .ok (.getfield 103, 3) := by decide +kernel
theorem dX3_areAlike_24 : decode cX3_areAlike 24 = .ok (.if_icmp .ne 14, 3) := by decide +kernel
theorem dX3_areAlike_27 : decode cX3_areAlike 27 = .ok (.aload_n 1, 1) := by decide +kernel
theorem dX3_areAlike_28 : decode cX3_areAlike 28 = .ok (.getfield 106, 3) := by decide +kernel
theorem dX3_areAlike_31 : decode cX3_areAlike 31 = .ok (.aload_n 2, 1) := by decide +kernel
theorem dX3_areAlike_32 : decode cX3_areAlike 32 = .ok (.getfield 106, 3) := by decide +kernel
theorem dX3_areAlike_35 : decode cX3_areAlike 35 = .ok (.if_icmp .eq 5, 3) := by decide +kernel
theorem dX3_areAlike_38 : decode cX3_areAlike 38 = .ok (.iconst 0, 1) := by decide +kernel
theorem dX3_areAlike_39 : decode cX3_areAlike 39 = .ok (.ireturn, 1) := by decide +kernel
theorem dX3_areAlike_40 : decode cX3_areAlike 40 = .ok (.iconst 0, 1) := by decide +kernel
theorem dX3_areAlike_41 : decode cX3_areAlike 41 = .ok (.istore_n 3, 1) := by decide +kernel
theorem dX3_areAlike_42 : decode cX3_areAlike 42 = .ok (.iload_n 3, 1) := by decide +kernel
theorem dX3_areAlike_43 : decode cX3_areAlike 43 = .ok (.aload_n 0, 1) := by decide +kernel
theorem dX3_areAlike_44 : decode cX3_areAlike 44 = .ok (.getfield 43, 3) := by decide +kernel
theorem dX3_areAlike_47 : decode cX3_areAlike 47 = .ok (.if_icmp .ge 33, 3) := by decide +kernel
theorem dX3_areAlike_50 : decode cX3_areAlike 50 = .ok (.aload_n 0, 1) := by decide +kernel
theorem dX3_areAlike_51 : decode cX3_areAlike 51 = .ok (.getfield 11, 3) := by decide +kernel
theorem dX3_areAlike_54 : decode cX3_areAlike 54 = .ok (.iload_n 3, 1) := by decide +kernel
theorem dX3_areAlike_55 : decode cX3_areAlike 55 = .ok (.aaload, 1) := by decide +kernel
theorem dX3_areAlike_56 : decode cX3_areAlike 56 = .ok (.getfield 100, 3) := by decide +kernel
theorem dX3_areAlike_59 : decode cX3_areAlike 59 = .ok (.iconst (-1), 1) := by decide +kernel
theorem dX3_areAlike_60 : decode cX3_areAlike 60 = .ok (.if_icmp .ne 14, 3) := by decide +kernel
theorem dX3_areAlike_63 : decode cX3_areAlike 63 = .ok (.aload_n 1, 1) := by decide +kernel
theorem dX3_areAlike_64 : decode cX3_areAlike 64 = .ok (.aload_n 2, 1) := by decide +kernel
theorem dX3_areAlike_65 : decode cX3_areAlike 65 = .ok (.iload_n 3, 1) := by decide +kernel
theorem dX3_areAlike_66 : decode cX3_areAlike 66 = .ok (.invokevirtual 279, 3) := by decide +kernel
theorem dX3_areAlike_69 : decode cX3_areAlike 69 = .ok (.ifCond .ne 5, 3) := by decide +kernel
theorem dX3_areAlike_72 : decode cX3_areAlike 72 = .ok (.iconst 0, 1) := by decide +kernel
theorem dX3_areAlike_73 : decode cX3_areAlike 73 = .ok (.ireturn, 1) := by decide +kernel
theorem dX3_areAlike_74 : decode cX3_areAlike 74 = .ok (.iinc 3 1, 3) := by decide +kernel
theorem dX3_areAlike_77 : decode cX3_areAlike 77 = .ok (.goto (-35), 3) := by decide +kernel
theorem dX3_areAlike_80 : decode cX3_areAlike 80 = .ok (.iconst 1, 1) := by decide +kernel
theorem dX3_areAlike_81 : decode cX3_areAlike 81 = .ok (.ireturn, 1) := by decide +kernel
theorem dX3_syllablesInAll_0 : decode cX3_syllablesInAll 0 = .ok (.iconst 0, 1) := by decide +kernel
theorem dX3_syllablesInAll_1 : decode cX3_syllablesInAll 1 = .ok (.istore_n 1, 1) := by decide +kernel
theorem dX3_syllablesInAll_2 : decode cX3_syllablesInAll 2 = .ok (.iconst 0, 1) := by decide +kernel
theorem dX3_syllablesInAll_3 : decode cX3_syllablesInAll 3 = .ok (.istore_n 2, 1) := by decide +kernel
theorem dX3_syllablesInAll_4 : decode cX3_syllablesInAll 4 = .ok (.iload_n 2, 1) := by decide +kernel
theorem dX3_syllablesInAll_5 : decode cX3_syllablesInAll 5 = .ok (.iconst 4, 1) := by decide +kernel
theorem dX3_syllablesInAll_6 : decode cX3_syllablesInAll 6 = .ok (.if_icmp .ge 21, 3) := by decide +kernel
theorem dX3_syllablesInAll_9 : decode cX3_syllablesInAll 9 = .ok (.iload_n 1, 1) := by decide +kernel
theorem dX3_syllablesInAll_10 : decode cX3_syllablesInAll 10 = .ok (.aload_n 0, 1) := by decide +kernel
theorem dX3_syllablesInAll_11 : decode cX3_syllablesInAll 11 = .ok (.getfield 17, 3) := by decide +kernel
theorem dX3_syllablesInAll_14 : decode cX3_syllablesInAll 14 = .ok (.iload_n 2, 1) := by decide +kernel
theorem dX3_syllablesInAll_15 : decode cX3_syllablesInAll 15 = .ok (.aaload, 1) := by decide +kernel
theorem dX3_syllablesInAll_16 : decode cX3_syllablesInAll 16 = .ok (.getfield 283, 3) := by decide +kernel
theorem dX3_syllablesInAll_19 : decode cX3_syllablesInAll 19 = .ok (.iadd, 1) := by decide +kernel
theorem dX3_syllablesInAll_20 : decode cX3_syllablesInAll 20 = .ok (.istore_n 1, 1) := by decide +kernel
theorem dX3_syllablesInAll_21 : decode cX3_syllablesInAll 21 = .ok (.iinc 2 1, 3) := by decide +kernel
theorem dX3_syllablesInAll_24 : decode cX3_syllablesInAll 24 = .ok (.goto (-20), 3) := by decide +kernel
theorem dX3_syllablesInAll_27 : decode cX3_syllablesInAll 27 = .ok (.iload_n 1, 1) := by decide +kernel
theorem dX3_syllablesInAll_28 : decode cX3_syllablesInAll 28 = .ok (.ireturn, 1) := by decide +kernel
theorem dX3_chordsInAll_0 : decode cX3_chordsInAll 0 = .ok (.iconst 0, 1) := by decide +kernel
theorem dX3_chordsInAll_1 : decode cX3_chordsInAll 1 = .ok (.istore_n 1, 1) := by decide +kernel
theorem dX3_chordsInAll_2 : decode cX3_chordsInAll 2 = .ok (.iconst 0, 1) := by decide +kernel
theorem dX3_chordsInAll_3 : decode cX3_chordsInAll 3 = .ok (.istore_n 2, 1) := by decide +kernel
theorem dX3_chordsInAll_4 : decode cX3_chordsInAll 4 = .ok (.iload_n 2, 1) := by decide +kernel
theorem dX3_chordsInAll_5 : decode cX3_chordsInAll 5 = .ok (.aload_n 0, 1) := by decide +kernel
theorem dX3_chordsInAll_6 : decode cX3_chordsInAll 6 = .ok (.getfield 43, 3) := by decide +kernel
theorem dX3_chordsInAll_9 : decode cX3_chordsInAll 9 = .ok (.if_icmp .ge 32, 3) := by decide +kernel
theorem dX3_chordsInAll_12 : decode cX3_chordsInAll 12 = .ok (.iload_n 1, 1) := by decide +kernel
theorem dX3_chordsInAll_13 : decode cX3_chordsInAll 13 = .ok (.aload_n 0, 1) := by decide +kernel
theorem dX3_chordsInAll_14 : decode cX3_chordsInAll 14 = .ok (.getfield 11, 3) := by decide +kernel
theorem dX3_chordsInAll_17 : decode cX3_chordsInAll 17 = .ok (.iload_n 2, 1) := by decide +kernel
theorem dX3_chordsInAll_18 : decode cX3_chordsInAll 18 = .ok (.aaload, 1) := by decide +kernel
theorem dX3_chordsInAll_19 : decode cX3_chordsInAll 19 = .ok (.getfield 79, 3) := by decide +kernel
theorem dX3_chordsInAll_22 : decode cX3_chordsInAll 22 = .ok (.ifCond .le 7, 3) := by decide +kernel
theorem dX3_chordsInAll_25 : decode cX3_chordsInAll 25 = .ok (.iconst 1, 1) := by decide +kernel
theorem dX3_chordsInAll_26 : decode cX3_chordsInAll 26 = .ok (.goto 4, 3) := by decide +kernel
theorem dX3_chordsInAll_29 : decode cX3_chordsInAll 29 = .ok (.iconst 0, 1) := by decide +kernel
theorem dX3_chordsInAll_30 : decode cX3_chordsInAll 30 = .ok (.invokestatic 109, 3) := by decide +kernel
theorem dX3_chordsInAll_33 : decode cX3_chordsInAll 33 = .ok (.iadd, 1) := by decide +kernel
theorem dX3_chordsInAll_34 : decode cX3_chordsInAll 34 = .ok (.istore_n 1, 1) := by decide +kernel
theorem dX3_chordsInAll_35 : decode cX3_chordsInAll 35 = .ok (.iinc 2 1, 3) := by decide +kernel
theorem dX3_chordsInAll_38 : decode cX3_chordsInAll 38 = .ok (.goto (-34), 3) := by decide +kernel
theorem dX3_chordsInAll_41 : decode cX3_chordsInAll 41 = .ok (.iload_n 1, 1) := by decide +kernel
theorem dX3_chordsInAll_42 : decode cX3_chordsInAll 42 = .ok (.ireturn, 1) := by decide +kernel

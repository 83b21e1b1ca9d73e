theorem dX0_init_0 : decode cX0_init 0 = .ok (.aload_n 0, 1) := by decide +kernel
theorem dX0_init_1 : decode cX0_init 1 = .ok (.invokespecial 3, 3) := by decide +kernel
theorem dX0_init_4 : decode cX0_init 4 = .ok (.aload_n 0, 1) := by decide +kernel
theorem dX0_init_5 : decode cX0_init 5 = .ok (.bipush 30, 2) := by decide +kernel
theorem dX0_init_7 : decode cX0_init 7 = .ok (.newarray .int, 2) := by decide +kernel
theorem dX0_init_9 : decode cX0_init 9 = .ok (.putfield 9, 3) := by decide +kernel
theorem dX0_init_12 : decode cX0_init 12 = .ok (.aload_n 0, 1) := by decide +kernel
theorem dX0_init_13 : decode cX0_init 13 = .ok (.bipush 30, 2) := by decide +kernel
theorem dX0_init_15 : decode cX0_init 15 = .ok (.newarray .int, 2) := by decide +kernel
theorem dX0_init_17 : decode cX0_init 17 = .ok (.putfield 15, 3) := by decide +kernel
theorem dX0_init_20 : decode cX0_init 20 = .ok (.aload_n 0, 1) := by decide +kernel
theorem dX0_init_21 : decode cX0_init 21 = .ok (.bipush 30, 2) := by decide +kernel
theorem dX0_init_23 : decode cX0_init 23 = .ok (.newarray .int, 2) := by decide +kernel
theorem dX0_init_25 : decode cX0_init 25 = .ok (.putfield 18, 3) := by decide +kernel
theorem dX0_init_28 : decode cX0_init 28 = .ok (.aload_n 0, 1) := by decide +kernel
theorem dX0_init_29 : decode cX0_init 29 = .ok (.bipush 26, 2) := by decide +kernel
theorem dX0_init_31 : decode cX0_init 31 = .ok (.newarray .int, 2) := by decide +kernel
theorem dX0_init_33 : decode cX0_init 33 = .ok (.putfield 21, 3) := by decide +kernel
theorem dX0_init_36 : decode cX0_init 36 = .ok (.aload_n 0, 1) := by decide +kernel
theorem dX0_init_37 : decode cX0_init 37 = .ok (.bipush 27, 2) := by decide +kernel
theorem dX0_init_39 : decode cX0_init 39 = .ok (.newarray .int, 2) := by decide +kernel
theorem dX0_init_41 : decode cX0_init 41 = .ok (.putfield 24, 3) := by decide +kernel
theorem dX0_init_44 : decode cX0_init 44 = .ok (.aload_n 0, 1) := by decide +kernel
theorem dX0_init_45 : decode cX0_init 45 = .ok (.iconst 2, 1) := by decide +kernel
theorem dX0_init_46 : decode cX0_init 46 = .ok (.putfield 27, 3) := by decide +kernel
theorem dX0_init_49 : decode cX0_init 49 = .ok (.aload_n 0, 1) := by decide +kernel
theorem dX0_init_50 : decode cX0_init 50 = .ok (.iconst 3, 1) := by decide +kernel
theorem dX0_init_51 : decode cX0_init 51 = .ok (.putfield 31, 3) := by decide +kernel
theorem dX0_init_54 : decode cX0_init 54 = .ok (.aload_n 0, 1) := by decide +kernel
theorem dX0_init_55 : decode cX0_init 55 = .ok (.bipush 24, 2) := by decide +kernel
theorem dX0_init_57 : decode cX0_init 57 = .ok (.newarray .int, 2) := by decide +kernel
theorem dX0_init_59 : decode cX0_init 59 = .ok (.putfield 34, 3) := by decide +kernel
theorem dX0_init_62 : decode cX0_init 62 = .ok (.return_, 1) := by decide +kernel
theorem dX0_empty_0 : decode cX0_empty 0 = .ok (.aload_n 0, 1) := by decide +kernel
theorem dX0_empty_1 : decode cX0_empty 1 = .ok (.iconst 0, 1) := by decide +kernel
theorem dX0_empty_2 : decode cX0_empty 2 = .ok (.putfield 37, 3) := by decide +kernel
theorem dX0_empty_5 : decode cX0_empty 5 = .ok (.aload_n 0, 1) := by decide +kernel
theorem dX0_empty_6 : decode cX0_empty 6 = .ok (.iconst 0, 1) := by decide +kernel
theorem dX0_empty_7 : decode cX0_empty 7 = .ok (.putfield 40, 3) := by decide +kernel
theorem dX0_empty_10 : decode cX0_empty 10 = .ok (.aload_n 0, 1) := by decide +kernel
theorem dX0_empty_11 : decode cX0_empty 11 = .ok (.iconst 2, 1) := by decide +kernel
theorem dX0_empty_12 : decode cX0_empty 12 = .ok (.putfield 27, 3) := by decide +kernel
theorem dX0_empty_15 : decode cX0_empty 15 = .ok (.aload_n 0, 1) := by decide +kernel
theorem dX0_empty_16 : decode cX0_empty 16 = .ok (.iconst 3, 1) := by decide +kernel
theorem dX0_empty_17 : decode cX0_empty 17 = .ok (.putfield 31, 3) := by decide +kernel
theorem dX0_empty_20 : decode cX0_empty 20 = .ok (.aload_n 0, 1) := by decide +kernel
theorem dX0_empty_21 : decode cX0_empty 21 = .ok (.iconst 0, 1) := by decide +kernel
theorem dX0_empty_22 : decode cX0_empty 22 = .ok (.putfield 43, 3) := by decide +kernel
theorem dX0_empty_25 : decode cX0_empty 25 = .ok (.return_, 1) := by decide +kernel
theorem dX0_signCount_0 : decode cX0_signCount 0 = .ok (.iconst 0, 1) := by decide +kernel
theorem dX0_signCount_1 : decode cX0_signCount 1 = .ok (.istore_n 2, 1) := by decide +kernel
theorem dX0_signCount_2 : decode cX0_signCount 2 = .ok (.iload_n 2, 1) := by decide +kernel
theorem dX0_signCount_3 : decode cX0_signCount 3 = .ok (.bipush 6, 2) := by decide +kernel
theorem dX0_signCount_5 : decode cX0_signCount 5 = .ok (.if_icmp .ge 17, 3) := by decide +kernel
theorem dX0_signCount_8 : decode cX0_signCount 8 = .ok (.lload_n 0, 1) := by decide +kernel
theorem dX0_signCount_9 : decode cX0_signCount 9 = .ok (.iload_n 2, 1) := by decide +kernel
theorem dX0_signCount_10 : decode cX0_signCount 10 = .ok (.invokestatic 46, 3) := by decide +kernel
theorem dX0_signCount_13 : decode cX0_signCount 13 = .ok (.ifCond .eq 9, 3) := by decide +kernel
theorem dX0_signCount_16 : decode cX0_signCount 16 = .ok (.iinc 2 1, 3) := by decide +kernel
theorem dX0_signCount_19 : decode cX0_signCount 19 = .ok (.goto (-17), 3) := by decide +kernel
theorem dX0_signCount_22 : decode cX0_signCount 22 = .ok (.lload_n 0, 1) := by decide +kernel
theorem dX0_signCount_23 : decode cX0_signCount 23 = .ok (.iconst 5, 1) := by decide +kernel
theorem dX0_signCount_24 : decode cX0_signCount 24 = .ok (.iload_n 2, 1) := by decide +kernel
theorem dX0_signCount_25 : decode cX0_signCount 25 = .ok (.imul, 1) := by decide +kernel
theorem dX0_signCount_26 : decode cX0_signCount 26 = .ok (.lshr, 1) := by decide +kernel
theorem dX0_signCount_27 : decode cX0_signCount 27 = .ok (.lconst 0, 1) := by decide +kernel
theorem dX0_signCount_28 : decode cX0_signCount 28 = .ok (.lcmp, 1) := by decide +kernel
theorem dX0_signCount_29 : decode cX0_signCount 29 = .ok (.ifCond .eq 7, 3) := by decide +kernel
theorem dX0_signCount_32 : decode cX0_signCount 32 = .ok (.iconst 1, 1) := by decide +kernel
theorem dX0_signCount_33 : decode cX0_signCount 33 = .ok (.goto 4, 3) := by decide +kernel
theorem dX0_signCount_36 : decode cX0_signCount 36 = .ok (.iconst 0, 1) := by decide +kernel
theorem dX0_signCount_37 : decode cX0_signCount 37 = .ok (.istore_n 3, 1) := by decide +kernel
theorem dX0_signCount_38 : decode cX0_signCount 38 = .ok (.iload_n 3, 1) := by decide +kernel
theorem dX0_signCount_39 : decode cX0_signCount 39 = .ok (.ifCond .ne 15, 3) := by decide +kernel
theorem dX0_signCount_42 : decode cX0_signCount 42 = .ok (.lload_n 0, 1) := by decide +kernel
theorem dX0_signCount_43 : decode cX0_signCount 43 = .ok (.iload_n 2, 1) := by decide +kernel
theorem dX0_signCount_44 : decode cX0_signCount 44 = .ok (.invokestatic 50, 3) := by decide +kernel
theorem dX0_signCount_47 : decode cX0_signCount 47 = .ok (.ifCond .eq 7, 3) := by decide +kernel
theorem dX0_signCount_50 : decode cX0_signCount 50 = .ok (.iload_n 2, 1) := by decide +kernel
theorem dX0_signCount_51 : decode cX0_signCount 51 = .ok (.goto 4, 3) := by decide +kernel
theorem dX0_signCount_54 : decode cX0_signCount 54 = .ok (.iconst 0, 1) := by decide +kernel
theorem dX0_signCount_55 : decode cX0_signCount 55 = .ok (.ireturn, 1) := by decide +kernel
theorem dX0_areSigns_0 : decode cX0_areSigns 0 = .ok (.iconst 0, 1) := by decide +kernel
theorem dX0_areSigns_1 : decode cX0_areSigns 1 = .ok (.istore_n 3, 1) := by decide +kernel
theorem dX0_areSigns_2 : decode cX0_areSigns 2 = .ok (.iconst 0, 1) := by decide +kernel
theorem dX0_areSigns_3 : decode cX0_areSigns 3 = .ok (.istore 4, 2) := by decide +kernel
theorem dX0_areSigns_5 : decode cX0_areSigns 5 = .ok (.iload 4, 2) := by decide +kernel
theorem dX0_areSigns_7 : decode cX0_areSigns 7 = .ok (.iload_n 2, 1) := by decide +kernel
theorem dX0_areSigns_8 : decode cX0_areSigns 8 = .ok (.if_icmp .ge 75, 3) := by decide +kernel
theorem dX0_areSigns_11 : decode cX0_areSigns 11 = .ok (.lload_n 0, 1) := by decide +kernel
theorem dX0_areSigns_12 : decode cX0_areSigns 12 = .ok (.iload 4, 2) := by decide +kernel
theorem dX0_areSigns_14 : decode cX0_areSigns 14 = .ok (.invokestatic 46, 3) := by decide +kernel
theorem dX0_areSigns_17 : decode cX0_areSigns 17 = .ok (.istore 5, 2) := by decide +kernel
theorem dX0_areSigns_19 : decode cX0_areSigns 19 = .ok (.iload 4, 2) := by decide +kernel
theorem dX0_areSigns_21 : decode cX0_areSigns 21 = .ok (.ifCond .le 15, 3) := by decide +kernel
theorem dX0_areSigns_24 : decode cX0_areSigns 24 = .ok (.iload 4, 2) := by decide +kernel
theorem dX0_areSigns_26 : decode cX0_areSigns 26 = .ok (.iload_n 2, 1) := by decide +kernel
theorem dX0_areSigns_27 : decode cX0_areSigns 27 = .ok (.iconst 1, 1) := by decide +kernel
theorem dX0_areSigns_28 : decode cX0_areSigns 28 = .ok (.isub, 1) := by decide +kernel
theorem dX0_areSigns_29 : decode cX0_areSigns 29 = .ok (.if_icmp .ge 7, 3) := by decide +kernel
theorem dX0_areSigns_32 : decode cX0_areSigns 32 = .ok (.iconst 1, 1) := by decide +kernel
theorem dX0_areSigns_33 : decode cX0_areSigns 33 = .ok (.goto 4, 3) := by decide +kernel
theorem dX0_areSigns_36 : decode cX0_areSigns 36 = .ok (.iconst 0, 1) := by decide +kernel
theorem dX0_areSigns_37 : decode cX0_areSigns 37 = .ok (.istore 6, 2) := by decide +kernel
theorem dX0_areSigns_39 : decode cX0_areSigns 39 = .ok (.iload 5, 2) := by decide +kernel
theorem dX0_areSigns_41 : decode cX0_areSigns 41 = .ok (.bipush 27, 2) := by decide +kernel
theorem dX0_areSigns_43 : decode cX0_areSigns 43 = .ok (.if_icmp .gt 15, 3) := by decide +kernel
theorem dX0_areSigns_46 : decode cX0_areSigns 46 = .ok (.iload 5, 2) := by decide +kernel
theorem dX0_areSigns_48 : decode cX0_areSigns 48 = .ok (.bipush 27, 2) := by decide +kernel
theorem dX0_areSigns_50 : decode cX0_areSigns 50 = .ok (.if_icmp .ne 10, 3) := by decide +kernel
theorem dX0_areSigns_53 : decode cX0_areSigns 53 = .ok (.iload 6, 2) := by decide +kernel
theorem dX0_areSigns_55 : decode cX0_areSigns 55 = .ok (.ifCond .eq 5, 3) := by decide +kernel
theorem dX0_areSigns_58 : decode cX0_areSigns 58 = .ok (.iconst 0, 1) := by decide +kernel
theorem dX0_areSigns_59 : decode cX0_areSigns 59 = .ok (.ireturn, 1) := by decide +kernel
theorem dX0_areSigns_60 : decode cX0_areSigns 60 = .ok (.iload_n 3, 1) := by decide +kernel
theorem dX0_areSigns_61 : decode cX0_areSigns 61 = .ok (.ifCond .ne 10, 3) := by decide +kernel
theorem dX0_areSigns_64 : decode cX0_areSigns 64 = .ok (.iload 5, 2) := by decide +kernel
theorem dX0_areSigns_66 : decode cX0_areSigns 66 = .ok (.bipush 26, 2) := by decide +kernel
theorem dX0_areSigns_68 : decode cX0_areSigns 68 = .ok (.if_icmp .gt 7, 3) := by decide +kernel
theorem dX0_areSigns_71 : decode cX0_areSigns 71 = .ok (.iconst 1, 1) := by decide +kernel
theorem dX0_areSigns_72 : decode cX0_areSigns 72 = .ok (.goto 4, 3) := by decide +kernel
theorem dX0_areSigns_75 : decode cX0_areSigns 75 = .ok (.iconst 0, 1) := by decide +kernel
theorem dX0_areSigns_76 : decode cX0_areSigns 76 = .ok (.istore_n 3, 1) := by decide +kernel
theorem dX0_areSigns_77 : decode cX0_areSigns 77 = .ok (.iinc 4 1, 3) := by decide +kernel
theorem dX0_areSigns_80 : decode cX0_areSigns 80 = .ok (.goto (-75), 3) := by decide +kernel
theorem dX0_areSigns_83 : decode cX0_areSigns 83 = .ok (.iload_n 3, 1) := by decide +kernel
theorem dX0_areSigns_84 : decode cX0_areSigns 84 = .ok (.ireturn, 1) := by decide +kernel
theorem dX0_signAt_0 : decode cX0_signAt 0 = .ok (.lload_n 0, 1) := by decide +kernel
theorem dX0_signAt_1 : decode cX0_signAt 1 = .ok (.iconst 5, 1) := by decide +kernel
theorem dX0_signAt_2 : decode cX0_signAt 2 = .ok (.iload_n 2, 1) := by decide +kernel
theorem dX0_signAt_3 : decode cX0_signAt 3 = .ok (.imul, 1) := by decide +kernel
theorem dX0_signAt_4 : decode cX0_signAt 4 = .ok (.lshr, 1) := by decide +kernel
theorem dX0_signAt_5 : decode cX0_signAt 5 = .ok (.l2i, 1) := by decide +kernel
theorem dX0_signAt_6 : decode cX0_signAt 6 = .ok (.bipush 31, 2) := by decide +kernel
theorem dX0_signAt_8 : decode cX0_signAt 8 = .ok (.iand, 1) := by decide +kernel
theorem dX0_signAt_9 : decode cX0_signAt 9 = .ok (.ireturn, 1) := by decide +kernel
theorem dX0_areValuesFor_0 : decode cX0_areValuesFor 0 = .ok (.iload_n 1, 1) := by decide +kernel
theorem dX0_areValuesFor_1 : decode cX0_areValuesFor 1 = .ok (.istore_n 2, 1) := by decide +kernel
theorem dX0_areValuesFor_2 : decode cX0_areValuesFor 2 = .ok (.iconst 0, 1) := by decide +kernel
theorem dX0_areValuesFor_3 : decode cX0_areValuesFor 3 = .ok (.istore_n 3, 1) := by decide +kernel
theorem dX0_areValuesFor_4 : decode cX0_areValuesFor 4 = .ok (.iload_n 3, 1) := by decide +kernel
theorem dX0_areValuesFor_5 : decode cX0_areValuesFor 5 = .ok (.iload_n 0, 1) := by decide +kernel
theorem dX0_areValuesFor_6 : decode cX0_areValuesFor 6 = .ok (.if_icmp .gt 14, 3) := by decide +kernel
theorem dX0_areValuesFor_9 : decode cX0_areValuesFor 9 = .ok (.iload_n 2, 1) := by decide +kernel
theorem dX0_areValuesFor_10 : decode cX0_areValuesFor 10 = .ok (.bipush 10, 2) := by decide +kernel
theorem dX0_areValuesFor_12 : decode cX0_areValuesFor 12 = .ok (.idiv, 1) := by decide +kernel
theorem dX0_areValuesFor_13 : decode cX0_areValuesFor 13 = .ok (.istore_n 2, 1) := by decide +kernel
theorem dX0_areValuesFor_14 : decode cX0_areValuesFor 14 = .ok (.iinc 3 1, 3) := by decide +kernel
theorem dX0_areValuesFor_17 : decode cX0_areValuesFor 17 = .ok (.goto (-13), 3) := by decide +kernel
theorem dX0_areValuesFor_20 : decode cX0_areValuesFor 20 = .ok (.iload_n 1, 1) := by decide +kernel
theorem dX0_areValuesFor_21 : decode cX0_areValuesFor 21 = .ok (.ifCond .lt 11, 3) := by decide +kernel
theorem dX0_areValuesFor_24 : decode cX0_areValuesFor 24 = .ok (.iload_n 2, 1) := by decide +kernel
theorem dX0_areValuesFor_25 : decode cX0_areValuesFor 25 = .ok (.ifCond .ne 7, 3) := by decide +kernel
theorem dX0_areValuesFor_28 : decode cX0_areValuesFor 28 = .ok (.iconst 1, 1) := by decide +kernel
theorem dX0_areValuesFor_29 : decode cX0_areValuesFor 29 = .ok (.goto 4, 3) := by decide +kernel
theorem dX0_areValuesFor_32 : decode cX0_areValuesFor 32 = .ok (.iconst 0, 1) := by decide +kernel
theorem dX0_areValuesFor_33 : decode cX0_areValuesFor 33 = .ok (.ireturn, 1) := by decide +kernel
theorem dX0_addPattern_0 : decode cX0_addPattern 0 = .ok (.aload_n 0, 1) := by decide +kernel
theorem dX0_addPattern_1 : decode cX0_addPattern 1 = .ok (.getfield 9, 3) := by decide +kernel
theorem dX0_addPattern_4 : decode cX0_addPattern 4 = .ok (.aload_n 0, 1) := by decide +kernel
theorem dX0_addPattern_5 : decode cX0_addPattern 5 = .ok (.getfield 37, 3) := by decide +kernel
theorem dX0_addPattern_8 : decode cX0_addPattern 8 = .ok (.iload_n 1, 1) := by decide +kernel
theorem dX0_addPattern_9 : decode cX0_addPattern 9 = .ok (.iastore, 1) := by decide +kernel
theorem dX0_addPattern_10 : decode cX0_addPattern 10 = .ok (.aload_n 0, 1) := by decide +kernel
theorem dX0_addPattern_11 : decode cX0_addPattern 11 = .ok (.getfield 15, 3) := by decide +kernel
theorem dX0_addPattern_14 : decode cX0_addPattern 14 = .ok (.aload_n 0, 1) := by decide +kernel
theorem dX0_addPattern_15 : decode cX0_addPattern 15 = .ok (.getfield 37, 3) := by decide +kernel
theorem dX0_addPattern_18 : decode cX0_addPattern 18 = .ok (.iload_n 2, 1) := by decide +kernel
theorem dX0_addPattern_19 : decode cX0_addPattern 19 = .ok (.iastore, 1) := by decide +kernel
theorem dX0_addPattern_20 : decode cX0_addPattern 20 = .ok (.aload_n 0, 1) := by decide +kernel
theorem dX0_addPattern_21 : decode cX0_addPattern 21 = .ok (.getfield 18, 3) := by decide +kernel
theorem dX0_addPattern_24 : decode cX0_addPattern 24 = .ok (.aload_n 0, 1) := by decide +kernel
theorem dX0_addPattern_25 : decode cX0_addPattern 25 = .ok (.getfield 37, 3) := by decide +kernel
theorem dX0_addPattern_28 : decode cX0_addPattern 28 = .ok (.iload_n 3, 1) := by decide +kernel
theorem dX0_addPattern_29 : decode cX0_addPattern 29 = .ok (.iastore, 1) := by decide +kernel
theorem dX0_addPattern_30 : decode cX0_addPattern 30 = .ok (.aload_n 0, 1) := by decide +kernel
theorem dX0_addPattern_31 : decode cX0_addPattern 31 = .ok (.dup, 1) := by decide +kernel
theorem dX0_addPattern_32 : decode cX0_addPattern 32 = .ok (.getfield 37, 3) := by decide +kernel
theorem dX0_addPattern_35 : decode cX0_addPattern 35 = .ok (.iconst 1, 1) := by decide +kernel
theorem dX0_addPattern_36 : decode cX0_addPattern 36 = .ok (.iadd, 1) := by decide +kernel
theorem dX0_addPattern_37 : decode cX0_addPattern 37 = .ok (.putfield 37, 3) := by decide +kernel
theorem dX0_addPattern_40 : decode cX0_addPattern 40 = .ok (.aload_n 0, 1) := by decide +kernel
theorem dX0_addPattern_41 : decode cX0_addPattern 41 = .ok (.getfield 37, 3) := by decide +kernel
theorem dX0_addPattern_44 : decode cX0_addPattern 44 = .ok (.iconst 1, 1) := by decide +kernel
theorem dX0_addPattern_45 : decode cX0_addPattern 45 = .ok (.isub, 1) := by decide +kernel
theorem dX0_addPattern_46 : decode cX0_addPattern 46 = .ok (.ireturn, 1) := by decide +kernel
theorem dX0_addLetter_0 : decode cX0_addLetter 0 = .ok (.aload_n 0, 1) := by decide +kernel
theorem dX0_addLetter_1 : decode cX0_addLetter 1 = .ok (.dup, 1) := by decide +kernel
theorem dX0_addLetter_2 : decode cX0_addLetter 2 = .ok (.getfield 40, 3) := by decide +kernel
theorem dX0_addLetter_5 : decode cX0_addLetter 5 = .ok (.iconst 1, 1) := by decide +kernel
theorem dX0_addLetter_6 : decode cX0_addLetter 6 = .ok (.iadd, 1) := by decide +kernel
theorem dX0_addLetter_7 : decode cX0_addLetter 7 = .ok (.putfield 40, 3) := by decide +kernel
theorem dX0_addLetter_10 : decode cX0_addLetter 10 = .ok (.aload_n 0, 1) := by decide +kernel
theorem dX0_addLetter_11 : decode cX0_addLetter 11 = .ok (.getfield 21, 3) := by decide +kernel
theorem dX0_addLetter_14 : decode cX0_addLetter 14 = .ok (.aload_n 0, 1) := by decide +kernel
theorem dX0_addLetter_15 : decode cX0_addLetter 15 = .ok (.getfield 40, 3) := by decide +kernel
theorem dX0_addLetter_18 : decode cX0_addLetter 18 = .ok (.iload_n 1, 1) := by decide +kernel
theorem dX0_addLetter_19 : decode cX0_addLetter 19 = .ok (.iastore, 1) := by decide +kernel
theorem dX0_addLetter_20 : decode cX0_addLetter 20 = .ok (.aload_n 0, 1) := by decide +kernel
theorem dX0_addLetter_21 : decode cX0_addLetter 21 = .ok (.getfield 40, 3) := by decide +kernel
theorem dX0_addLetter_24 : decode cX0_addLetter 24 = .ok (.ireturn, 1) := by decide +kernel
theorem dX0_changeAhead_0 : decode cX0_changeAhead 0 = .ok (.aload_n 0, 1) := by decide +kernel
theorem dX0_changeAhead_1 : decode cX0_changeAhead 1 = .ok (.getfield 27, 3) := by decide +kernel
theorem dX0_changeAhead_4 : decode cX0_changeAhead 4 = .ok (.istore_n 2, 1) := by decide +kernel
theorem dX0_changeAhead_5 : decode cX0_changeAhead 5 = .ok (.aload_n 0, 1) := by decide +kernel
theorem dX0_changeAhead_6 : decode cX0_changeAhead 6 = .ok (.iload_n 1, 1) := by decide +kernel
theorem dX0_changeAhead_7 : decode cX0_changeAhead 7 = .ok (.putfield 27, 3) := by decide +kernel
theorem dX0_changeAhead_10 : decode cX0_changeAhead 10 = .ok (.iload_n 2, 1) := by decide +kernel
theorem dX0_changeAhead_11 : decode cX0_changeAhead 11 = .ok (.ireturn, 1) := by decide +kernel
theorem dX0_changeBehind_0 : decode cX0_changeBehind 0 = .ok (.aload_n 0, 1) := by decide +kernel
theorem dX0_changeBehind_1 : decode cX0_changeBehind 1 = .ok (.getfield 31, 3) := by decide +kernel
theorem dX0_changeBehind_4 : decode cX0_changeBehind 4 = .ok (.istore_n 2, 1) := by decide +kernel
theorem dX0_changeBehind_5 : decode cX0_changeBehind 5 = .ok (.aload_n 0, 1) := by decide +kernel
theorem dX0_changeBehind_6 : decode cX0_changeBehind 6 = .ok (.iload_n 1, 1) := by decide +kernel
theorem dX0_changeBehind_7 : decode cX0_changeBehind 7 = .ok (.putfield 31, 3) := by decide +kernel
theorem dX0_changeBehind_10 : decode cX0_changeBehind 10 = .ok (.iload_n 2, 1) := by decide +kernel
theorem dX0_changeBehind_11 : decode cX0_changeBehind 11 = .ok (.ireturn, 1) := by decide +kernel
theorem dX0_findCuts_0 : decode cX0_findCuts 0 = .ok (.aload_n 0, 1) := by decide +kernel
theorem dX0_findCuts_1 : decode cX0_findCuts 1 = .ok (.invokevirtual 54, 3) := by decide +kernel
theorem dX0_findCuts_4 : decode cX0_findCuts 4 = .ok (.aload_n 0, 1) := by decide +kernel
theorem dX0_findCuts_5 : decode cX0_findCuts 5 = .ok (.iconst 0, 1) := by decide +kernel
theorem dX0_findCuts_6 : decode cX0_findCuts 6 = .ok (.putfield 43, 3) := by decide +kernel
theorem dX0_findCuts_9 : decode cX0_findCuts 9 = .ok (.aload_n 0, 1) := by decide +kernel
theorem dX0_findCuts_10 : decode cX0_findCuts 10 = .ok (.getfield 27, 3) := by decide +kernel
theorem dX0_findCuts_13 : decode cX0_findCuts 13 = .ok (.istore_n 1, 1) := by decide +kernel
theorem dX0_findCuts_14 : decode cX0_findCuts 14 = .ok (.iload_n 1, 1) := by decide +kernel
theorem dX0_findCuts_15 : decode cX0_findCuts 15 = .ok (.aload_n 0, 1) := by decide +kernel
theorem dX0_findCuts_16 : decode cX0_findCuts 16 = .ok (.getfield 40, 3) := by decide +kernel
theorem dX0_findCuts_19 : decode cX0_findCuts 19 = .ok (.aload_n 0, 1) := by decide +kernel
theorem dX0_findCuts_20 : decode cX0_findCuts 20 = .ok (.getfield 31, 3) := by decide +kernel
theorem dX0_findCuts_23 : decode cX0_findCuts 23 = .ok (.isub, 1) := by decide +kernel
theorem dX0_findCuts_24 : decode cX0_findCuts 24 = .ok (.if_icmp .gt 43, 3) := by decide +kernel
theorem dX0_findCuts_27 : decode cX0_findCuts 27 = .ok (.aload_n 0, 1) := by decide +kernel
theorem dX0_findCuts_28 : decode cX0_findCuts 28 = .ok (.getfield 24, 3) := by decide +kernel
theorem dX0_findCuts_31 : decode cX0_findCuts 31 = .ok (.iload_n 1, 1) := by decide +kernel
theorem dX0_findCuts_32 : decode cX0_findCuts 32 = .ok (.iconst 1, 1) := by decide +kernel
theorem dX0_findCuts_33 : decode cX0_findCuts 33 = .ok (.iadd, 1) := by decide +kernel
theorem dX0_findCuts_34 : decode cX0_findCuts 34 = .ok (.iaload, 1) := by decide +kernel
theorem dX0_findCuts_35 : decode cX0_findCuts 35 = .ok (.iconst 2, 1) := by decide +kernel
theorem dX0_findCuts_36 : decode cX0_findCuts 36 = .ok (.irem, 1) := by decide +kernel
theorem dX0_findCuts_37 : decode cX0_findCuts 37 = .ok (.iconst 1, 1) := by decide +kernel
theorem dX0_findCuts_38 : decode cX0_findCuts 38 = .ok (.if_icmp .ne 23, 3) := by decide +kernel
theorem dX0_findCuts_41 : decode cX0_findCuts 41 = .ok (.aload_n 0, 1) := by decide +kernel
theorem dX0_findCuts_42 : decode cX0_findCuts 42 = .ok (.getfield 34, 3) := by decide +kernel
theorem dX0_findCuts_45 : decode cX0_findCuts 45 = .ok (.aload_n 0, 1) := by decide +kernel
theorem dX0_findCuts_46 : decode cX0_findCuts 46 = .ok (.getfield 43, 3) := by decide +kernel
theorem dX0_findCuts_49 : decode cX0_findCuts 49 = .ok (.iload_n 1, 1) := by decide +kernel
theorem dX0_findCuts_50 : decode cX0_findCuts 50 = .ok (.iastore, 1) := by decide +kernel
theorem dX0_findCuts_51 : decode cX0_findCuts 51 = .ok (.aload_n 0, 1) := by decide +kernel
theorem dX0_findCuts_52 : decode cX0_findCuts 52 = .ok (.dup, 1) := by decide +kernel
theorem dX0_findCuts_53 : decode cX0_findCuts 53 = .ok (.getfield 43, 3) := by decide +kernel
theorem dX0_findCuts_56 : decode cX0_findCuts 56 = .ok (.iconst 1, 1) := by decide +kernel
theorem dX0_findCuts_57 : decode cX0_findCuts 57 = .ok (.iadd, 1) := by decide +kernel
theorem dX0_findCuts_58 : decode cX0_findCuts 58 = .ok (.putfield 43, 3) := by decide +kernel
theorem dX0_findCuts_61 : decode cX0_findCuts 61 = .ok (.iinc 1 1, 3) := by decide +kernel
theorem dX0_findCuts_64 : decode cX0_findCuts 64 = .ok (.goto (-50), 3) := by decide +kernel
theorem dX0_findCuts_67 : decode cX0_findCuts 67 = .ok (.aload_n 0, 1) := by decide +kernel
theorem dX0_findCuts_68 : decode cX0_findCuts 68 = .ok (.getfield 43, 3) := by decide +kernel
theorem dX0_findCuts_71 : decode cX0_findCuts 71 = .ok (.ireturn, 1) := by decide +kernel
theorem dX0_weighPlaces_0 : decode cX0_weighPlaces 0 = .ok (.aload_n 0, 1) := by decide +kernel
theorem dX0_weighPlaces_1 : decode cX0_weighPlaces 1 = .ok (.getfield 21, 3) := by decide +kernel
theorem dX0_weighPlaces_4 : decode cX0_weighPlaces 4 = .ok (.iconst 0, 1) := by decide +kernel
theorem dX0_weighPlaces_5 : decode cX0_weighPlaces 5 = .ok (.bipush 27, 2) := by decide +kernel
theorem dX0_weighPlaces_7 : decode cX0_weighPlaces 7 = .ok (.iastore, 1) := by decide +kernel
theorem dX0_weighPlaces_8 : decode cX0_weighPlaces 8 = .ok (.aload_n 0, 1) := by decide +kernel
theorem dX0_weighPlaces_9 : decode cX0_weighPlaces 9 = .ok (.getfield 21, 3) := by decide +kernel
theorem dX0_weighPlaces_12 : decode cX0_weighPlaces 12 = .ok (.aload_n 0, 1) := by decide +kernel
theorem dX0_weighPlaces_13 : decode cX0_weighPlaces 13 = .ok (.getfield 40, 3) := by decide +kernel
theorem dX0_weighPlaces_16 : decode cX0_weighPlaces 16 = .ok (.iconst 1, 1) := by decide +kernel
theorem dX0_weighPlaces_17 : decode cX0_weighPlaces 17 = .ok (.iadd, 1) := by decide +kernel
theorem dX0_weighPlaces_18 : decode cX0_weighPlaces 18 = .ok (.bipush 27, 2) := by decide +kernel
theorem dX0_weighPlaces_20 : decode cX0_weighPlaces 20 = .ok (.iastore, 1) := by decide +kernel
theorem dX0_weighPlaces_21 : decode cX0_weighPlaces 21 = .ok (.iconst 0, 1) := by decide +kernel
theorem dX0_weighPlaces_22 : decode cX0_weighPlaces 22 = .ok (.istore_n 1, 1) := by decide +kernel
theorem dX0_weighPlaces_23 : decode cX0_weighPlaces 23 = .ok (.iload_n 1, 1) := by decide +kernel
theorem dX0_weighPlaces_24 : decode cX0_weighPlaces 24 = .ok (.aload_n 0, 1) := by decide +kernel
theorem dX0_weighPlaces_25 : decode cX0_weighPlaces 25 = .ok (.getfield 40, 3) := by decide +kernel
theorem dX0_weighPlaces_28 : decode cX0_weighPlaces 28 = .ok (.iconst 2, 1) := by decide +kernel
theorem dX0_weighPlaces_29 : decode cX0_weighPlaces 29 = .ok (.iadd, 1) := by decide +kernel
theorem dX0_weighPlaces_30 : decode cX0_weighPlaces 30 = .ok (.if_icmp .gt 16, 3) := by decide +kernel
theorem dX0_weighPlaces_33 : decode cX0_weighPlaces 33 = .ok (.aload_n 0, 1) := by decide +kernel
theorem dX0_weighPlaces_34 : decode cX0_weighPlaces 34 = .ok (.getfield 24, 3) := by decide +kernel
theorem dX0_weighPlaces_37 : decode cX0_weighPlaces 37 = .ok (.iload_n 1, 1) := by decide +kernel
theorem dX0_weighPlaces_38 : decode cX0_weighPlaces 38 = .ok (.iconst 0, 1) := by decide +kernel
theorem dX0_weighPlaces_39 : decode cX0_weighPlaces 39 = .ok (.iastore, 1) := by decide +kernel
theorem dX0_weighPlaces_40 : decode cX0_weighPlaces 40 = .ok (.iinc 1 1, 3) := by decide +kernel
theorem dX0_weighPlaces_43 : decode cX0_weighPlaces 43 = .ok (.goto (-20), 3) := by decide +kernel
theorem dX0_weighPlaces_46 : decode cX0_weighPlaces 46 = .ok (.iconst 0, 1) := by decide +kernel
theorem dX0_weighPlaces_47 : decode cX0_weighPlaces 47 = .ok (.istore_n 1, 1) := by decide +kernel
theorem dX0_weighPlaces_48 : decode cX0_weighPlaces 48 = .ok (.iload_n 1, 1) := by decide +kernel
theorem dX0_weighPlaces_49 : decode cX0_weighPlaces 49 = .ok (.aload_n 0, 1) := by decide +kernel
theorem dX0_weighPlaces_50 : decode cX0_weighPlaces 50 = .ok (.getfield 37, 3) := by decide +kernel
theorem dX0_weighPlaces_53 : decode cX0_weighPlaces 53 = .ok (.if_icmp .ge 49, 3) := by decide +kernel
theorem dX0_weighPlaces_56 : decode cX0_weighPlaces 56 = .ok (.iconst 0, 1) := by decide +kernel
theorem dX0_weighPlaces_57 : decode cX0_weighPlaces 57 = .ok (.istore_n 2, 1) := by decide +kernel
theorem dX0_weighPlaces_58 : decode cX0_weighPlaces 58 = .ok (.iload_n 2, 1) := by decide +kernel
theorem dX0_weighPlaces_59 : decode cX0_weighPlaces 59 = .ok (.aload_n 0, 1) := by decide +kernel
theorem dX0_weighPlaces_60 : decode cX0_weighPlaces 60 = .ok (.getfield 15, 3) := by decide +kernel
theorem dX0_weighPlaces_63 : decode cX0_weighPlaces 63 = .ok (.iload_n 1, 1) := by decide +kernel
theorem dX0_weighPlaces_64 : decode cX0_weighPlaces 64 = .ok (.iaload, 1) := by decide +kernel
theorem dX0_weighPlaces_65 : decode cX0_weighPlaces 65 = .ok (.iadd, 1) := by decide +kernel
theorem dX0_weighPlaces_66 : decode cX0_weighPlaces 66 = .ok (.aload_n 0, 1) := by decide +kernel
theorem dX0_weighPlaces_67 : decode cX0_weighPlaces 67 = .ok (.getfield 40, 3) := by decide +kernel
theorem dX0_weighPlaces_70 : decode cX0_weighPlaces 70 = .ok (.iconst 2, 1) := by decide +kernel
theorem dX0_weighPlaces_71 : decode cX0_weighPlaces 71 = .ok (.iadd, 1) := by decide +kernel
theorem dX0_weighPlaces_72 : decode cX0_weighPlaces 72 = .ok (.if_icmp .gt 24, 3) := by decide +kernel
theorem dX0_weighPlaces_75 : decode cX0_weighPlaces 75 = .ok (.aload_n 0, 1) := by decide +kernel
theorem dX0_weighPlaces_76 : decode cX0_weighPlaces 76 = .ok (.iload_n 1, 1) := by decide +kernel
theorem dX0_weighPlaces_77 : decode cX0_weighPlaces 77 = .ok (.iload_n 2, 1) := by decide +kernel
theorem dX0_weighPlaces_78 : decode cX0_weighPlaces 78 = .ok (.invokevirtual 57, 3) := by decide +kernel
theorem dX0_weighPlaces_81 : decode cX0_weighPlaces 81 = .ok (.ifCond .eq 9, 3) := by decide +kernel
theorem dX0_weighPlaces_84 : decode cX0_weighPlaces 84 = .ok (.aload_n 0, 1) := by decide +kernel
theorem dX0_weighPlaces_85 : decode cX0_weighPlaces 85 = .ok (.iload_n 1, 1) := by decide +kernel
theorem dX0_weighPlaces_86 : decode cX0_weighPlaces 86 = .ok (.iload_n 2, 1) := by decide +kernel
theorem dX0_weighPlaces_87 : decode cX0_weighPlaces 87 = .ok (.invokevirtual 61, 3) := by decide +kernel
theorem dX0_weighPlaces_90 : decode cX0_weighPlaces 90 = .ok (.iinc 2 1, 3) := by decide +kernel
theorem dX0_weighPlaces_93 : decode cX0_weighPlaces 93 = .ok (.goto (-35), 3) := by decide +kernel
theorem dX0_weighPlaces_96 : decode cX0_weighPlaces 96 = .ok (.iinc 1 1, 3) := by decide +kernel
theorem dX0_weighPlaces_99 : decode cX0_weighPlaces 99 = .ok (.goto (-51), 3) := by decide +kernel
theorem dX0_weighPlaces_102 : decode cX0_weighPlaces 102 = .ok (.return_, 1) := by decide +kernel
theorem dX0_standsAt_0 : decode cX0_standsAt 0 = .ok (.iconst 0, 1) := by decide +kernel
theorem dX0_standsAt_1 : decode cX0_standsAt 1 = .ok (.istore_n 3, 1) := by decide +kernel
theorem dX0_standsAt_2 : decode cX0_standsAt 2 = .ok (.iload_n 3, 1) := by decide +kernel
theorem dX0_standsAt_3 : decode cX0_standsAt 3 = .ok (.aload_n 0, 1) := by decide +kernel
theorem dX0_standsAt_4 : decode cX0_standsAt 4 = .ok (.getfield 15, 3) := by decide +kernel
theorem dX0_standsAt_7 : decode cX0_standsAt 7 = .ok (.iload_n 1, 1) := by decide +kernel
theorem dX0_standsAt_8 : decode cX0_standsAt 8 = .ok (.iaload, 1) := by decide +kernel
theorem dX0_standsAt_9 : decode cX0_standsAt 9 = .ok (.if_icmp .ge 33, 3) := by decide +kernel
theorem dX0_standsAt_12 : decode cX0_standsAt 12 = .ok (.aload_n 0, 1) := by decide +kernel
theorem dX0_standsAt_13 : decode cX0_standsAt 13 = .ok (.getfield 21, 3) := by decide +kernel
theorem dX0_standsAt_16 : decode cX0_standsAt 16 = .ok (.iload_n 2, 1) := by decide +kernel
theorem dX0_standsAt_17 : decode cX0_standsAt 17 = .ok (.iload_n 3, 1) := by decide +kernel
theorem dX0_standsAt_18 : decode cX0_standsAt 18 = .ok (.iadd, 1) := by decide +kernel
theorem dX0_standsAt_19 : decode cX0_standsAt 19 = .ok (.iaload, 1) := by decide +kernel
theorem dX0_standsAt_20 : decode cX0_standsAt 20 = .ok (.aload_n 0, 1) := by decide +kernel
theorem dX0_standsAt_21 : decode cX0_standsAt 21 = .ok (.getfield 9, 3) := by decide +kernel
theorem dX0_standsAt_24 : decode cX0_standsAt 24 = .ok (.iload_n 1, 1) := by decide +kernel
theorem dX0_standsAt_25 : decode cX0_standsAt 25 = .ok (.iaload, 1) := by decide +kernel
theorem dX0_standsAt_26 : decode cX0_standsAt 26 = .ok (.i2l, 1) := by decide +kernel
theorem dX0_standsAt_27 : decode cX0_standsAt 27 = .ok (.iload_n 3, 1) := by decide +kernel
theorem dX0_standsAt_28 : decode cX0_standsAt 28 = .ok (.invokestatic 46, 3) := by decide +kernel
theorem dX0_standsAt_31 : decode cX0_standsAt 31 = .ok (.if_icmp .eq 5, 3) := by decide +kernel
theorem dX0_standsAt_34 : decode cX0_standsAt 34 = .ok (.iconst 0, 1) := by decide +kernel
theorem dX0_standsAt_35 : decode cX0_standsAt 35 = .ok (.ireturn, 1) := by decide +kernel
theorem dX0_standsAt_36 : decode cX0_standsAt 36 = .ok (.iinc 3 1, 3) := by decide +kernel
theorem dX0_standsAt_39 : decode cX0_standsAt 39 = .ok (.goto (-37), 3) := by decide +kernel
theorem dX0_standsAt_42 : decode cX0_standsAt 42 = .ok (.iconst 1, 1) := by decide +kernel
theorem dX0_standsAt_43 : decode cX0_standsAt 43 = .ok (.ireturn, 1) := by decide +kernel
theorem dX0_raiseValues_0 : decode cX0_raiseValues 0 = .ok (.aload_n 0, 1) := by decide +kernel
theorem dX0_raiseValues_1 : decode cX0_raiseValues 1 = .ok (.getfield 18, 3) := by decide +kernel
theorem dX0_raiseValues_4 : decode cX0_raiseValues 4 = .ok (.iload_n 1, 1) := by decide +kernel
theorem dX0_raiseValues_5 : decode cX0_raiseValues 5 = .ok (.iaload, 1) := by decide +kernel
theorem dX0_raiseValues_6 : decode cX0_raiseValues 6 = .ok (.istore_n 3, 1) := by decide +kernel
theorem dX0_raiseValues_7 : decode cX0_raiseValues 7 = .ok (.iconst 0, 1) := by decide +kernel
theorem dX0_raiseValues_8 : decode cX0_raiseValues 8 = .ok (.istore 4, 2) := by decide +kernel
theorem dX0_raiseValues_10 : decode cX0_raiseValues 10 = .ok (.iload 4, 2) := by decide +kernel
theorem dX0_raiseValues_12 : decode cX0_raiseValues 12 = .ok (.aload_n 0, 1) := by decide +kernel
theorem dX0_raiseValues_13 : decode cX0_raiseValues 13 = .ok (.getfield 15, 3) := by decide +kernel
theorem dX0_raiseValues_16 : decode cX0_raiseValues 16 = .ok (.iload_n 1, 1) := by decide +kernel
theorem dX0_raiseValues_17 : decode cX0_raiseValues 17 = .ok (.iaload, 1) := by decide +kernel
theorem dX0_raiseValues_18 : decode cX0_raiseValues 18 = .ok (.if_icmp .gt 39, 3) := by decide +kernel
theorem dX0_raiseValues_21 : decode cX0_raiseValues 21 = .ok (.aload_n 0, 1) := by decide +kernel
theorem dX0_raiseValues_22 : decode cX0_raiseValues 22 = .ok (.getfield 24, 3) := by decide +kernel
theorem dX0_raiseValues_25 : decode cX0_raiseValues 25 = .ok (.iload_n 2, 1) := by decide +kernel
theorem dX0_raiseValues_26 : decode cX0_raiseValues 26 = .ok (.iload 4, 2) := by decide +kernel
theorem dX0_raiseValues_28 : decode cX0_raiseValues 28 = .ok (.iadd, 1) := by decide +kernel
theorem dX0_raiseValues_29 : decode cX0_raiseValues 29 = .ok (.aload_n 0, 1) := by decide +kernel
theorem dX0_raiseValues_30 : decode cX0_raiseValues 30 = .ok (.getfield 24, 3) := by decide +kernel
theorem dX0_raiseValues_33 : decode cX0_raiseValues 33 = .ok (.iload_n 2, 1) := by decide +kernel
theorem dX0_raiseValues_34 : decode cX0_raiseValues 34 = .ok (.iload 4, 2) := by decide +kernel
theorem dX0_raiseValues_36 : decode cX0_raiseValues 36 = .ok (.iadd, 1) := by decide +kernel
theorem dX0_raiseValues_37 : decode cX0_raiseValues 37 = .ok (.iaload, 1) := by decide +kernel
theorem dX0_raiseValues_38 : decode cX0_raiseValues 38 = .ok (.iload_n 3, 1) := by decide +kernel
theorem dX0_raiseValues_39 : decode cX0_raiseValues 39 = .ok (.bipush 10, 2) := by decide +kernel
theorem dX0_raiseValues_41 : decode cX0_raiseValues 41 = .ok (.irem, 1) := by decide +kernel
theorem dX0_raiseValues_42 : decode cX0_raiseValues 42 = .ok (.invokestatic 65, 3) := by decide +kernel
theorem dX0_raiseValues_45 : decode cX0_raiseValues 45 = .ok (.iastore, 1) := by decide +kernel
theorem dX0_raiseValues_46 : decode cX0_raiseValues 46 = .ok (.iload_n 3, 1) := by decide +kernel
theorem dX0_raiseValues_47 : decode cX0_raiseValues 47 = .ok (.bipush 10, 2) := by decide +kernel
theorem dX0_raiseValues_49 : decode cX0_raiseValues 49 = .ok (.idiv, 1) := by decide +kernel
theorem dX0_raiseValues_50 : decode cX0_raiseValues 50 = .ok (.istore_n 3, 1) := by decide +kernel
theorem dX0_raiseValues_51 : decode cX0_raiseValues 51 = .ok (.iinc 4 1, 3) := by decide +kernel
theorem dX0_raiseValues_54 : decode cX0_raiseValues 54 = .ok (.goto (-44), 3) := by decide +kernel
theorem dX0_raiseValues_57 : decode cX0_raiseValues 57 = .ok (.return_, 1) := by decide +kernel
theorem dX1_init_0 : decode cX1_init 0 = .ok (.aload_n 0, 1) := by decide +kernel
theorem dX1_init_1 : decode cX1_init 1 = .ok (.invokespecial 3, 3) := by decide +kernel
theorem dX1_init_4 : decode cX1_init 4 = .ok (.return_, 1) := by decide +kernel
theorem dX1_become_0 : decode cX1_become 0 = .ok (.aload_n 0, 1) := by decide +kernel
theorem dX1_become_1 : decode cX1_become 1 = .ok (.iload_n 1, 1) := by decide +kernel
theorem dX1_become_2 : decode cX1_become 2 = .ok (.putfield 9, 3) := by decide +kernel
theorem dX1_become_5 : decode cX1_become 5 = .ok (.aload_n 0, 1) := by decide +kernel
theorem dX1_become_6 : decode cX1_become 6 = .ok (.iload_n 2, 1) := by decide +kernel
theorem dX1_become_7 : decode cX1_become 7 = .ok (.putfield 15, 3) := by decide +kernel
theorem dX1_become_10 : decode cX1_become 10 = .ok (.aload_n 0, 1) := by decide +kernel
theorem dX1_become_11 : decode cX1_become 11 = .ok (.iload_n 3, 1) := by decide +kernel
theorem dX1_become_12 : decode cX1_become 12 = .ok (.putfield 18, 3) := by decide +kernel
theorem dX1_become_15 : decode cX1_become 15 = .ok (.aload_n 0, 1) := by decide +kernel
theorem dX1_become_16 : decode cX1_become 16 = .ok (.iconst 0, 1) := by decide +kernel
theorem dX1_become_17 : decode cX1_become 17 = .ok (.putfield 22, 3) := by decide +kernel
theorem dX1_become_20 : decode cX1_become 20 = .ok (.aload_n 0, 1) := by decide +kernel
theorem dX1_become_21 : decode cX1_become 21 = .ok (.iconst (-1), 1) := by decide +kernel
theorem dX1_become_22 : decode cX1_become 22 = .ok (.putfield 25, 3) := by decide +kernel
theorem dX1_become_25 : decode cX1_become 25 = .ok (.aload_n 0, 1) := by decide +kernel
theorem dX1_become_26 : decode cX1_become 26 = .ok (.iconst (-1), 1) := by decide +kernel
theorem dX1_become_27 : decode cX1_become 27 = .ok (.putfield 28, 3) := by decide +kernel
theorem dX1_become_30 : decode cX1_become 30 = .ok (.aload_n 0, 1) := by decide +kernel
theorem dX1_become_31 : decode cX1_become 31 = .ok (.iconst (-1), 1) := by decide +kernel
theorem dX1_become_32 : decode cX1_become 32 = .ok (.putfield 31, 3) := by decide +kernel
theorem dX1_become_35 : decode cX1_become 35 = .ok (.aload_n 0, 1) := by decide +kernel
theorem dX1_become_36 : decode cX1_become 36 = .ok (.iconst 0, 1) := by decide +kernel
theorem dX1_become_37 : decode cX1_become 37 = .ok (.putfield 34, 3) := by decide +kernel
theorem dX1_become_40 : decode cX1_become 40 = .ok (.aload_n 0, 1) := by decide +kernel
theorem dX1_become_41 : decode cX1_become 41 = .ok (.iconst 0, 1) := by decide +kernel
theorem dX1_become_42 : decode cX1_become 42 = .ok (.putfield 37, 3) := by decide +kernel
theorem dX1_become_45 : decode cX1_become 45 = .ok (.return_, 1) := by decide +kernel
theorem dX1_end_0 : decode cX1_end 0 = .ok (.aload_n 0, 1) := by decide +kernel
theorem dX1_end_1 : decode cX1_end 1 = .ok (.getfield 34, 3) := by decide +kernel
theorem dX1_end_4 : decode cX1_end 4 = .ok (.aload_n 0, 1) := by decide +kernel
theorem dX1_end_5 : decode cX1_end 5 = .ok (.getfield 9, 3) := by decide +kernel
theorem dX1_end_8 : decode cX1_end 8 = .ok (.iadd, 1) := by decide +kernel
theorem dX1_end_9 : decode cX1_end 9 = .ok (.ireturn, 1) := by decide +kernel
theorem dX2_init_0 : decode cX2_init 0 = .ok (.aload_n 0, 1) := by decide +kernel
theorem dX2_init_1 : decode cX2_init 1 = .ok (.invokespecial 3, 3) := by decide +kernel
theorem dX2_init_4 : decode cX2_init 4 = .ok (.aload_n 0, 1) := by decide +kernel
theorem dX2_init_5 : decode cX2_init 5 = .ok (.bipush 60, 2) := by decide +kernel
theorem dX2_init_7 : decode cX2_init 7 = .ok (.newarray .int, 2) := by decide +kernel
theorem dX2_init_9 : decode cX2_init 9 = .ok (.putfield 9, 3) := by decide +kernel
theorem dX2_init_12 : decode cX2_init 12 = .ok (.aload_n 0, 1) := by decide +kernel
theorem dX2_init_13 : decode cX2_init 13 = .ok (.bipush 120, 2) := by decide +kernel
theorem dX2_init_15 : decode cX2_init 15 = .ok (.newarray .int, 2) := by decide +kernel
theorem dX2_init_17 : decode cX2_init 17 = .ok (.putfield 15, 3) := by decide +kernel
theorem dX2_init_20 : decode cX2_init 20 = .ok (.aload_n 0, 1) := by decide +kernel
theorem dX2_init_21 : decode cX2_init 21 = .ok (.bipush 120, 2) := by decide +kernel
theorem dX2_init_23 : decode cX2_init 23 = .ok (.newarray .int, 2) := by decide +kernel
theorem dX2_init_25 : decode cX2_init 25 = .ok (.putfield 18, 3) := by decide +kernel
theorem dX2_init_28 : decode cX2_init 28 = .ok (.aload_n 0, 1) := by decide +kernel
theorem dX2_init_29 : decode cX2_init 29 = .ok (.bipush 120, 2) := by decide +kernel
theorem dX2_init_31 : decode cX2_init 31 = .ok (.newarray .boolean, 2) := by decide +kernel
theorem dX2_init_33 : decode cX2_init 33 = .ok (.putfield 21, 3) := by decide +kernel
theorem dX2_init_36 : decode cX2_init 36 = .ok (.aload_n 0, 1) := by decide +kernel
theorem dX2_init_37 : decode cX2_init 37 = .ok (.bipush 60, 2) := by decide +kernel
theorem dX2_init_39 : decode cX2_init 39 = .ok (.newarray .int, 2) := by decide +kernel
theorem dX2_init_41 : decode cX2_init 41 = .ok (.putfield 25, 3) := by decide +kernel
theorem dX2_init_44 : decode cX2_init 44 = .ok (.aload_n 0, 1) := by decide +kernel
theorem dX2_init_45 : decode cX2_init 45 = .ok (.iconst 0, 1) := by decide +kernel
theorem dX2_init_46 : decode cX2_init 46 = .ok (.putfield 28, 3) := by decide +kernel
theorem dX2_init_49 : decode cX2_init 49 = .ok (.return_, 1) := by decide +kernel
theorem dX2_empty_0 : decode cX2_empty 0 = .ok (.iconst 0, 1) := by decide +kernel
theorem dX2_empty_1 : decode cX2_empty 1 = .ok (.istore_n 1, 1) := by decide +kernel
theorem dX2_empty_2 : decode cX2_empty 2 = .ok (.iload_n 1, 1) := by decide +kernel
theorem dX2_empty_3 : decode cX2_empty 3 = .ok (.bipush 60, 2) := by decide +kernel
theorem dX2_empty_5 : decode cX2_empty 5 = .ok (.if_icmp .ge 16, 3) := by decide +kernel
theorem dX2_empty_8 : decode cX2_empty 8 = .ok (.aload_n 0, 1) := by decide +kernel
theorem dX2_empty_9 : decode cX2_empty 9 = .ok (.getfield 9, 3) := by decide +kernel
theorem dX2_empty_12 : decode cX2_empty 12 = .ok (.iload_n 1, 1) := by decide +kernel
theorem dX2_empty_13 : decode cX2_empty 13 = .ok (.iconst 0, 1) := by decide +kernel
theorem dX2_empty_14 : decode cX2_empty 14 = .ok (.iastore, 1) := by decide +kernel
theorem dX2_empty_15 : decode cX2_empty 15 = .ok (.iinc 1 1, 3) := by decide +kernel
theorem dX2_empty_18 : decode cX2_empty 18 = .ok (.goto (-16), 3) := by decide +kernel
theorem dX2_empty_21 : decode cX2_empty 21 = .ok (.aload_n 0, 1) := by decide +kernel
theorem dX2_empty_22 : decode cX2_empty 22 = .ok (.iconst 0, 1) := by decide +kernel
theorem dX2_empty_23 : decode cX2_empty 23 = .ok (.putfield 32, 3) := by decide +kernel
theorem dX2_empty_26 : decode cX2_empty 26 = .ok (.aload_n 0, 1) := by decide +kernel
theorem dX2_empty_27 : decode cX2_empty 27 = .ok (.iconst 0, 1) := by decide +kernel
theorem dX2_empty_28 : decode cX2_empty 28 = .ok (.putfield 28, 3) := by decide +kernel
theorem dX2_empty_31 : decode cX2_empty 31 = .ok (.aload_n 0, 1) := by decide +kernel
theorem dX2_empty_32 : decode cX2_empty 32 = .ok (.iconst 0, 1) := by decide +kernel
theorem dX2_empty_33 : decode cX2_empty 33 = .ok (.putfield 35, 3) := by decide +kernel
theorem dX2_empty_36 : decode cX2_empty 36 = .ok (.return_, 1) := by decide +kernel
theorem dX2_addSyllable_0 : decode cX2_addSyllable 0 = .ok (.iconst 2, 1) := by decide +kernel
theorem dX2_addSyllable_1 : decode cX2_addSyllable 1 = .ok (.iload_n 1, 1) := by decide +kernel
theorem dX2_addSyllable_2 : decode cX2_addSyllable 2 = .ok (.imul, 1) := by decide +kernel
theorem dX2_addSyllable_3 : decode cX2_addSyllable 3 = .ok (.aload_n 0, 1) := by decide +kernel
theorem dX2_addSyllable_4 : decode cX2_addSyllable 4 = .ok (.getfield 9, 3) := by decide +kernel
theorem dX2_addSyllable_7 : decode cX2_addSyllable 7 = .ok (.iload_n 1, 1) := by decide +kernel
theorem dX2_addSyllable_8 : decode cX2_addSyllable 8 = .ok (.iaload, 1) := by decide +kernel
theorem dX2_addSyllable_9 : decode cX2_addSyllable 9 = .ok (.iadd, 1) := by decide +kernel
theorem dX2_addSyllable_10 : decode cX2_addSyllable 10 = .ok (.istore 5, 2) := by decide +kernel
theorem dX2_addSyllable_12 : decode cX2_addSyllable 12 = .ok (.aload_n 0, 1) := by decide +kernel
theorem dX2_addSyllable_13 : decode cX2_addSyllable 13 = .ok (.getfield 15, 3) := by decide +kernel
theorem dX2_addSyllable_16 : decode cX2_addSyllable 16 = .ok (.iload 5, 2) := by decide +kernel
theorem dX2_addSyllable_18 : decode cX2_addSyllable 18 = .ok (.iload_n 2, 1) := by decide +kernel
theorem dX2_addSyllable_19 : decode cX2_addSyllable 19 = .ok (.iastore, 1) := by decide +kernel
theorem dX2_addSyllable_20 : decode cX2_addSyllable 20 = .ok (.aload_n 0, 1) := by decide +kernel
theorem dX2_addSyllable_21 : decode cX2_addSyllable 21 = .ok (.getfield 18, 3) := by decide +kernel
theorem dX2_addSyllable_24 : decode cX2_addSyllable 24 = .ok (.iload 5, 2) := by decide +kernel
theorem dX2_addSyllable_26 : decode cX2_addSyllable 26 = .ok (.iload_n 3, 1) := by decide +kernel
theorem dX2_addSyllable_27 : decode cX2_addSyllable 27 = .ok (.iastore, 1) := by decide +kernel
theorem dX2_addSyllable_28 : decode cX2_addSyllable 28 = .ok (.aload_n 0, 1) := by decide +kernel
theorem dX2_addSyllable_29 : decode cX2_addSyllable 29 = .ok (.getfield 21, 3) := by decide +kernel
theorem dX2_addSyllable_32 : decode cX2_addSyllable 32 = .ok (.iload 5, 2) := by decide +kernel
theorem dX2_addSyllable_34 : decode cX2_addSyllable 34 = .ok (.iload 4, 2) := by decide +kernel
theorem dX2_addSyllable_36 : decode cX2_addSyllable 36 = .ok (.bastore, 1) := by decide +kernel
theorem dX2_addSyllable_37 : decode cX2_addSyllable 37 = .ok (.aload_n 0, 1) := by decide +kernel
theorem dX2_addSyllable_38 : decode cX2_addSyllable 38 = .ok (.getfield 9, 3) := by decide +kernel
theorem dX2_addSyllable_41 : decode cX2_addSyllable 41 = .ok (.iload_n 1, 1) := by decide +kernel
theorem dX2_addSyllable_42 : decode cX2_addSyllable 42 = .ok (.dup2, 1) := by decide +kernel
theorem dX2_addSyllable_43 : decode cX2_addSyllable 43 = .ok (.iaload, 1) := by decide +kernel
theorem dX2_addSyllable_44 : decode cX2_addSyllable 44 = .ok (.iconst 1, 1) := by decide +kernel
theorem dX2_addSyllable_45 : decode cX2_addSyllable 45 = .ok (.iadd, 1) := by decide +kernel
theorem dX2_addSyllable_46 : decode cX2_addSyllable 46 = .ok (.iastore, 1) := by decide +kernel
theorem dX2_addSyllable_47 : decode cX2_addSyllable 47 = .ok (.aload_n 0, 1) := by decide +kernel
theorem dX2_addSyllable_48 : decode cX2_addSyllable 48 = .ok (.dup, 1) := by decide +kernel
theorem dX2_addSyllable_49 : decode cX2_addSyllable 49 = .ok (.getfield 32, 3) := by decide +kernel
theorem dX2_addSyllable_52 : decode cX2_addSyllable 52 = .ok (.iconst 1, 1) := by decide +kernel
theorem dX2_addSyllable_53 : decode cX2_addSyllable 53 = .ok (.iadd, 1) := by decide +kernel
theorem dX2_addSyllable_54 : decode cX2_addSyllable 54 = .ok (.putfield 32, 3) := by decide +kernel
theorem dX2_addSyllable_57 : decode cX2_addSyllable 57 = .ok (.aload_n 0, 1) := by decide +kernel
theorem dX2_addSyllable_58 : decode cX2_addSyllable 58 = .ok (.getfield 9, 3) := by decide +kernel
theorem dX2_addSyllable_61 : decode cX2_addSyllable 61 = .ok (.iload_n 1, 1) := by decide +kernel
theorem dX2_addSyllable_62 : decode cX2_addSyllable 62 = .ok (.iaload, 1) := by decide +kernel
theorem dX2_addSyllable_63 : decode cX2_addSyllable 63 = .ok (.ireturn, 1) := by decide +kernel
theorem dX2_removeSyllables_0 : decode cX2_removeSyllables 0 = .ok (.aload_n 0, 1) := by decide +kernel
theorem dX2_removeSyllables_1 : decode cX2_removeSyllables 1 = .ok (.getfield 9, 3) := by decide +kernel
theorem dX2_removeSyllables_4 : decode cX2_removeSyllables 4 = .ok (.iload_n 1, 1) := by decide +kernel
theorem dX2_removeSyllables_5 : decode cX2_removeSyllables 5 = .ok (.iaload, 1) := by decide +kernel
theorem dX2_removeSyllables_6 : decode cX2_removeSyllables 6 = .ok (.istore_n 2, 1) := by decide +kernel
theorem dX2_removeSyllables_7 : decode cX2_removeSyllables 7 = .ok (.aload_n 0, 1) := by decide +kernel
theorem dX2_removeSyllables_8 : decode cX2_removeSyllables 8 = .ok (.getfield 9, 3) := by decide +kernel
theorem dX2_removeSyllables_11 : decode cX2_removeSyllables 11 = .ok (.iload_n 1, 1) := by decide +kernel
theorem dX2_removeSyllables_12 : decode cX2_removeSyllables 12 = .ok (.iconst 0, 1) := by decide +kernel
theorem dX2_removeSyllables_13 : decode cX2_removeSyllables 13 = .ok (.iastore, 1) := by decide +kernel
theorem dX2_removeSyllables_14 : decode cX2_removeSyllables 14 = .ok (.aload_n 0, 1) := by decide +kernel
theorem dX2_removeSyllables_15 : decode cX2_removeSyllables 15 = .ok (.dup, 1) := by decide +kernel
theorem dX2_removeSyllables_16 : decode cX2_removeSyllables 16 = .ok (.getfield 32, 3) := by decide +kernel
theorem dX2_removeSyllables_19 : decode cX2_removeSyllables 19 = .ok (.iload_n 2, 1) := by decide +kernel
theorem dX2_removeSyllables_20 : decode cX2_removeSyllables 20 = .ok (.isub, 1) := by decide +kernel
theorem dX2_removeSyllables_21 : decode cX2_removeSyllables 21 = .ok (.putfield 32, 3) := by decide +kernel
theorem dX2_removeSyllables_24 : decode cX2_removeSyllables 24 = .ok (.iload_n 2, 1) := by decide +kernel
theorem dX2_removeSyllables_25 : decode cX2_removeSyllables 25 = .ok (.ireturn, 1) := by decide +kernel
theorem dX2_hasBoxes_0 : decode cX2_hasBoxes 0 = .ok (.aload_n 0, 1) := by decide +kernel
theorem dX2_hasBoxes_1 : decode cX2_hasBoxes 1 = .ok (.getfield 32, 3) := by decide +kernel
theorem dX2_hasBoxes_4 : decode cX2_hasBoxes 4 = .ok (.ifCond .le 7, 3) := by decide +kernel
theorem dX2_hasBoxes_7 : decode cX2_hasBoxes 7 = .ok (.iconst 1, 1) := by decide +kernel
theorem dX2_hasBoxes_8 : decode cX2_hasBoxes 8 = .ok (.goto 4, 3) := by decide +kernel
theorem dX2_hasBoxes_11 : decode cX2_hasBoxes 11 = .ok (.iconst 0, 1) := by decide +kernel
theorem dX2_hasBoxes_12 : decode cX2_hasBoxes 12 = .ok (.ireturn, 1) := by decide +kernel
theorem dX2_hasBox_0 : decode cX2_hasBox 0 = .ok (.aload_n 0, 1) := by decide +kernel
theorem dX2_hasBox_1 : decode cX2_hasBox 1 = .ok (.getfield 9, 3) := by decide +kernel
theorem dX2_hasBox_4 : decode cX2_hasBox 4 = .ok (.iload_n 1, 1) := by decide +kernel
theorem dX2_hasBox_5 : decode cX2_hasBox 5 = .ok (.iaload, 1) := by decide +kernel
theorem dX2_hasBox_6 : decode cX2_hasBox 6 = .ok (.ifCond .le 7, 3) := by decide +kernel
theorem dX2_hasBox_9 : decode cX2_hasBox 9 = .ok (.iconst 1, 1) := by decide +kernel
theorem dX2_hasBox_10 : decode cX2_hasBox 10 = .ok (.goto 4, 3) := by decide +kernel
theorem dX2_hasBox_13 : decode cX2_hasBox 13 = .ok (.iconst 0, 1) := by decide +kernel
theorem dX2_hasBox_14 : decode cX2_hasBox 14 = .ok (.ireturn, 1) := by decide +kernel
theorem dX2_isTied_0 : decode cX2_isTied 0 = .ok (.aload_n 0, 1) := by decide +kernel
theorem dX2_isTied_1 : decode cX2_isTied 1 = .ok (.getfield 9, 3) := by decide +kernel
theorem dX2_isTied_4 : decode cX2_isTied 4 = .ok (.iload_n 1, 1) := by decide +kernel
theorem dX2_isTied_5 : decode cX2_isTied 5 = .ok (.iaload, 1) := by decide +kernel
theorem dX2_isTied_6 : decode cX2_isTied 6 = .ok (.iconst 2, 1) := by decide +kernel
theorem dX2_isTied_7 : decode cX2_isTied 7 = .ok (.if_icmp .ne 7, 3) := by decide +kernel
theorem dX2_isTied_10 : decode cX2_isTied 10 = .ok (.iconst 1, 1) := by decide +kernel
theorem dX2_isTied_11 : decode cX2_isTied 11 = .ok (.goto 4, 3) := by decide +kernel
theorem dX2_isTied_14 : decode cX2_isTied 14 = .ok (.iconst 0, 1) := by decide +kernel
theorem dX2_isTied_15 : decode cX2_isTied 15 = .ok (.ireturn, 1) := by decide +kernel
theorem dX2_isGoingOn_0 : decode cX2_isGoingOn 0 = .ok (.iconst 2, 1) := by decide +kernel
theorem dX2_isGoingOn_1 : decode cX2_isGoingOn 1 = .ok (.iload_n 1, 1) := by decide +kernel
theorem dX2_isGoingOn_2 : decode cX2_isGoingOn 2 = .ok (.imul, 1) := by decide +kernel
theorem dX2_isGoingOn_3 : decode cX2_isGoingOn 3 = .ok (.istore_n 2, 1) := by decide +kernel
theorem dX2_isGoingOn_4 : decode cX2_isGoingOn 4 = .ok (.aload_n 0, 1) := by decide +kernel
theorem dX2_isGoingOn_5 : decode cX2_isGoingOn 5 = .ok (.iload_n 1, 1) := by decide +kernel
theorem dX2_isGoingOn_6 : decode cX2_isGoingOn 6 = .ok (.invokevirtual 39, 3) := by decide +kernel
theorem dX2_isGoingOn_9 : decode cX2_isGoingOn 9 = .ok (.ifCond .eq 14, 3) := by decide +kernel
theorem dX2_isGoingOn_12 : decode cX2_isGoingOn 12 = .ok (.aload_n 0, 1) := by decide +kernel
theorem dX2_isGoingOn_13 : decode cX2_isGoingOn 13 = .ok (.getfield 21, 3) := by decide +kernel
theorem dX2_isGoingOn_16 : decode cX2_isGoingOn 16 = .ok (.iload_n 2, 1) := by decide +kernel
theorem dX2_isGoingOn_17 : decode cX2_isGoingOn 17 = .ok (.iconst 1, 1) := by decide +kernel
theorem dX2_isGoingOn_18 : decode cX2_isGoingOn 18 = .ok (.iadd, 1) := by decide +kernel
theorem dX2_isGoingOn_19 : decode cX2_isGoingOn 19 = .ok (.baload, 1) := by decide +kernel
theorem dX2_isGoingOn_20 : decode cX2_isGoingOn 20 = .ok (.goto 9, 3) := by decide +kernel
theorem dX2_isGoingOn_23 : decode cX2_isGoingOn 23 = .ok (.aload_n 0, 1) := by decide +kernel
theorem dX2_isGoingOn_24 : decode cX2_isGoingOn 24 = .ok (.getfield 21, 3) := by decide +kernel
theorem dX2_isGoingOn_27 : decode cX2_isGoingOn 27 = .ok (.iload_n 2, 1) := by decide +kernel
theorem dX2_isGoingOn_28 : decode cX2_isGoingOn 28 = .ok (.baload, 1) := by decide +kernel
theorem dX2_isGoingOn_29 : decode cX2_isGoingOn 29 = .ok (.ireturn, 1) := by decide +kernel
theorem dX2_boxWidth_0 : decode cX2_boxWidth 0 = .ok (.iconst 2, 1) := by decide +kernel
theorem dX2_boxWidth_1 : decode cX2_boxWidth 1 = .ok (.iload_n 1, 1) := by decide +kernel
theorem dX2_boxWidth_2 : decode cX2_boxWidth 2 = .ok (.imul, 1) := by decide +kernel
theorem dX2_boxWidth_3 : decode cX2_boxWidth 3 = .ok (.istore_n 2, 1) := by decide +kernel
theorem dX2_boxWidth_4 : decode cX2_boxWidth 4 = .ok (.aload_n 0, 1) := by decide +kernel
theorem dX2_boxWidth_5 : decode cX2_boxWidth 5 = .ok (.iload_n 1, 1) := by decide +kernel
theorem dX2_boxWidth_6 : decode cX2_boxWidth 6 = .ok (.invokevirtual 39, 3) := by decide +kernel
theorem dX2_boxWidth_9 : decode cX2_boxWidth 9 = .ok (.ifCond .eq 23, 3) := by decide +kernel
theorem dX2_boxWidth_12 : decode cX2_boxWidth 12 = .ok (.aload_n 0, 1) := by decide +kernel
theorem dX2_boxWidth_13 : decode cX2_boxWidth 13 = .ok (.getfield 15, 3) := by decide +kernel
theorem dX2_boxWidth_16 : decode cX2_boxWidth 16 = .ok (.iload_n 2, 1) := by decide +kernel
theorem dX2_boxWidth_17 : decode cX2_boxWidth 17 = .ok (.iaload, 1) := by decide +kernel
theorem dX2_boxWidth_18 : decode cX2_boxWidth 18 = .ok (.iconst 5, 1) := by decide +kernel
theorem dX2_boxWidth_19 : decode cX2_boxWidth 19 = .ok (.iadd, 1) := by decide +kernel
theorem dX2_boxWidth_20 : decode cX2_boxWidth 20 = .ok (.aload_n 0, 1) := by decide +kernel
theorem dX2_boxWidth_21 : decode cX2_boxWidth 21 = .ok (.getfield 15, 3) := by decide +kernel
theorem dX2_boxWidth_24 : decode cX2_boxWidth 24 = .ok (.iload_n 2, 1) := by decide +kernel
theorem dX2_boxWidth_25 : decode cX2_boxWidth 25 = .ok (.iconst 1, 1) := by decide +kernel
theorem dX2_boxWidth_26 : decode cX2_boxWidth 26 = .ok (.iadd, 1) := by decide +kernel
theorem dX2_boxWidth_27 : decode cX2_boxWidth 27 = .ok (.iaload, 1) := by decide +kernel
theorem dX2_boxWidth_28 : decode cX2_boxWidth 28 = .ok (.iadd, 1) := by decide +kernel
theorem dX2_boxWidth_29 : decode cX2_boxWidth 29 = .ok (.goto 9, 3) := by decide +kernel
theorem dX2_boxWidth_32 : decode cX2_boxWidth 32 = .ok (.aload_n 0, 1) := by decide +kernel
theorem dX2_boxWidth_33 : decode cX2_boxWidth 33 = .ok (.getfield 15, 3) := by decide +kernel
theorem dX2_boxWidth_36 : decode cX2_boxWidth 36 = .ok (.iload_n 2, 1) := by decide +kernel
theorem dX2_boxWidth_37 : decode cX2_boxWidth 37 = .ok (.iaload, 1) := by decide +kernel
theorem dX2_boxWidth_38 : decode cX2_boxWidth 38 = .ok (.ireturn, 1) := by decide +kernel
theorem dX2_boxEnd_0 : decode cX2_boxEnd 0 = .ok (.aload_n 0, 1) := by decide +kernel
theorem dX2_boxEnd_1 : decode cX2_boxEnd 1 = .ok (.getfield 25, 3) := by decide +kernel
theorem dX2_boxEnd_4 : decode cX2_boxEnd 4 = .ok (.iload_n 1, 1) := by decide +kernel
theorem dX2_boxEnd_5 : decode cX2_boxEnd 5 = .ok (.iaload, 1) := by decide +kernel
theorem dX2_boxEnd_6 : decode cX2_boxEnd 6 = .ok (.aload_n 0, 1) := by decide +kernel
theorem dX2_boxEnd_7 : decode cX2_boxEnd 7 = .ok (.iload_n 1, 1) := by decide +kernel
theorem dX2_boxEnd_8 : decode cX2_boxEnd 8 = .ok (.invokevirtual 43, 3) := by decide +kernel
theorem dX2_boxEnd_11 : decode cX2_boxEnd 11 = .ok (.iadd, 1) := by decide +kernel
theorem dX2_boxEnd_12 : decode cX2_boxEnd 12 = .ok (.ireturn, 1) := by decide +kernel
theorem dX2_offset_0 : decode cX2_offset 0 = .ok (.aload_n 0, 1) := by decide +kernel
theorem dX2_offset_1 : decode cX2_offset 1 = .ok (.getfield 28, 3) := by decide +kernel
theorem dX2_offset_4 : decode cX2_offset 4 = .ok (.lookupswitch 38 #[(0, 28), (1, 36)], 28) := by decide +kernel
theorem dX2_offset_32 : decode cX2_offset 32 = .ok (.aload_n 0, 1) := by decide +kernel
theorem dX2_offset_33 : decode cX2_offset 33 = .ok (.iload_n 1, 1) := by decide +kernel
theorem dX2_offset_34 : decode cX2_offset 34 = .ok (.invokevirtual 43, 3) := by decide +kernel
theorem dX2_offset_37 : decode cX2_offset 37 = .ok (.iconst 2, 1) := by decide +kernel
theorem dX2_offset_38 : decode cX2_offset 38 = .ok (.idiv, 1) := by decide +kernel
theorem dX2_offset_39 : decode cX2_offset 39 = .ok (.ireturn, 1) := by decide +kernel
theorem dX2_offset_40 : decode cX2_offset 40 = .ok (.iconst 0, 1) := by decide +kernel
theorem dX2_offset_41 : decode cX2_offset 41 = .ok (.ireturn, 1) := by decide +kernel
theorem dX2_offset_42 : decode cX2_offset 42 = .ok (.aload_n 0, 1) := by decide +kernel
theorem dX2_offset_43 : decode cX2_offset 43 = .ok (.getfield 18, 3) := by decide +kernel
theorem dX2_offset_46 : decode cX2_offset 46 = .ok (.iconst 2, 1) := by decide +kernel
theorem dX2_offset_47 : decode cX2_offset 47 = .ok (.iload_n 1, 1) := by decide +kernel
theorem dX2_offset_48 : decode cX2_offset 48 = .ok (.imul, 1) := by decide +kernel
theorem dX2_offset_49 : decode cX2_offset 49 = .ok (.iaload, 1) := by decide +kernel
theorem dX2_offset_50 : decode cX2_offset 50 = .ok (.ireturn, 1) := by decide +kernel
theorem dX2_placeBox_0 : decode cX2_placeBox 0 = .ok (.aload_n 0, 1) := by decide +kernel
theorem dX2_placeBox_1 : decode cX2_placeBox 1 = .ok (.getfield 25, 3) := by decide +kernel
theorem dX2_placeBox_4 : decode cX2_placeBox 4 = .ok (.iload_n 1, 1) := by decide +kernel
theorem dX2_placeBox_5 : decode cX2_placeBox 5 = .ok (.aload_n 0, 1) := by decide +kernel
theorem dX2_placeBox_6 : decode cX2_placeBox 6 = .ok (.getfield 47, 3) := by decide +kernel
theorem dX2_placeBox_9 : decode cX2_placeBox 9 = .ok (.iload_n 2, 1) := by decide +kernel
theorem dX2_placeBox_10 : decode cX2_placeBox 10 = .ok (.aload_n 0, 1) := by decide +kernel
theorem dX2_placeBox_11 : decode cX2_placeBox 11 = .ok (.iload_n 1, 1) := by decide +kernel
theorem dX2_placeBox_12 : decode cX2_placeBox 12 = .ok (.invokevirtual 50, 3) := by decide +kernel
theorem dX2_placeBox_15 : decode cX2_placeBox 15 = .ok (.isub, 1) := by decide +kernel
theorem dX2_placeBox_16 : decode cX2_placeBox 16 = .ok (.invokestatic 53, 3) := by decide +kernel
theorem dX2_placeBox_19 : decode cX2_placeBox 19 = .ok (.iastore, 1) := by decide +kernel
theorem dX2_placeBox_20 : decode cX2_placeBox 20 = .ok (.aload_n 0, 1) := by decide +kernel
theorem dX2_placeBox_21 : decode cX2_placeBox 21 = .ok (.iload_n 1, 1) := by decide +kernel
theorem dX2_placeBox_22 : decode cX2_placeBox 22 = .ok (.invokevirtual 59, 3) := by decide +kernel
theorem dX2_placeBox_25 : decode cX2_placeBox 25 = .ok (.istore_n 3, 1) := by decide +kernel
theorem dX2_placeBox_26 : decode cX2_placeBox 26 = .ok (.aload_n 0, 1) := by decide +kernel
theorem dX2_placeBox_27 : decode cX2_placeBox 27 = .ok (.iload_n 3, 1) := by decide +kernel
theorem dX2_placeBox_28 : decode cX2_placeBox 28 = .ok (.aload_n 0, 1) := by decide +kernel
theorem dX2_placeBox_29 : decode cX2_placeBox 29 = .ok (.iload_n 1, 1) := by decide +kernel
theorem dX2_placeBox_30 : decode cX2_placeBox 30 = .ok (.invokevirtual 62, 3) := by decide +kernel
theorem dX2_placeBox_33 : decode cX2_placeBox 33 = .ok (.ifCond .eq 7, 3) := by decide +kernel
theorem dX2_placeBox_36 : decode cX2_placeBox 36 = .ok (.iconst 4, 1) := by decide +kernel
theorem dX2_placeBox_37 : decode cX2_placeBox 37 = .ok (.goto 5, 3) := by decide +kernel
theorem dX2_placeBox_40 : decode cX2_placeBox 40 = .ok (.bipush 12, 2) := by decide +kernel
theorem dX2_placeBox_42 : decode cX2_placeBox 42 = .ok (.iadd, 1) := by decide +kernel
theorem dX2_placeBox_43 : decode cX2_placeBox 43 = .ok (.putfield 47, 3) := by decide +kernel
theorem dX2_placeBox_46 : decode cX2_placeBox 46 = .ok (.iload_n 3, 1) := by decide +kernel
theorem dX2_placeBox_47 : decode cX2_placeBox 47 = .ok (.ireturn, 1) := by decide +kernel
theorem dX2_nextBox_0 : decode cX2_nextBox 0 = .ok (.iload_n 1, 1) := by decide +kernel
theorem dX2_nextBox_1 : decode cX2_nextBox 1 = .ok (.iconst 1, 1) := by decide +kernel
theorem dX2_nextBox_2 : decode cX2_nextBox 2 = .ok (.iadd, 1) := by decide +kernel
theorem dX2_nextBox_3 : decode cX2_nextBox 3 = .ok (.istore_n 2, 1) := by decide +kernel
theorem dX2_nextBox_4 : decode cX2_nextBox 4 = .ok (.iload_n 2, 1) := by decide +kernel
theorem dX2_nextBox_5 : decode cX2_nextBox 5 = .ok (.bipush 60, 2) := by decide +kernel
theorem dX2_nextBox_7 : decode cX2_nextBox 7 = .ok (.if_icmp .ge 19, 3) := by decide +kernel
theorem dX2_nextBox_10 : decode cX2_nextBox 10 = .ok (.aload_n 0, 1) := by decide +kernel
theorem dX2_nextBox_11 : decode cX2_nextBox 11 = .ok (.iload_n 2, 1) := by decide +kernel
theorem dX2_nextBox_12 : decode cX2_nextBox 12 = .ok (.invokevirtual 65, 3) := by decide +kernel
theorem dX2_nextBox_15 : decode cX2_nextBox 15 = .ok (.ifCond .eq 5, 3) := by decide +kernel
theorem dX2_nextBox_18 : decode cX2_nextBox 18 = .ok (.iload_n 2, 1) := by decide +kernel
theorem dX2_nextBox_19 : decode cX2_nextBox 19 = .ok (.ireturn, 1) := by decide +kernel
theorem dX2_nextBox_20 : decode cX2_nextBox 20 = .ok (.iinc 2 1, 3) := by decide +kernel
theorem dX2_nextBox_23 : decode cX2_nextBox 23 = .ok (.goto (-19), 3) := by decide +kernel
theorem dX2_nextBox_26 : decode cX2_nextBox 26 = .ok (.iconst (-1), 1) := by decide +kernel
theorem dX2_nextBox_27 : decode cX2_nextBox 27 = .ok (.ireturn, 1) := by decide +kernel
theorem dX2_lastBox_0 : decode cX2_lastBox 0 = .ok (.bipush 59, 2) := by decide +kernel
theorem dX2_lastBox_2 : decode cX2_lastBox 2 = .ok (.istore_n 1, 1) := by decide +kernel
theorem dX2_lastBox_3 : decode cX2_lastBox 3 = .ok (.iload_n 1, 1) := by decide +kernel
theorem dX2_lastBox_4 : decode cX2_lastBox 4 = .ok (.ifCond .lt 19, 3) := by decide +kernel
theorem dX2_lastBox_7 : decode cX2_lastBox 7 = .ok (.aload_n 0, 1) := by decide +kernel
theorem dX2_lastBox_8 : decode cX2_lastBox 8 = .ok (.iload_n 1, 1) := by decide +kernel
theorem dX2_lastBox_9 : decode cX2_lastBox 9 = .ok (.invokevirtual 65, 3) := by decide +kernel
theorem dX2_lastBox_12 : decode cX2_lastBox 12 = .ok (.ifCond .eq 5, 3) := by decide +kernel
theorem dX2_lastBox_15 : decode cX2_lastBox 15 = .ok (.iload_n 1, 1) := by decide +kernel
theorem dX2_lastBox_16 : decode cX2_lastBox 16 = .ok (.ireturn, 1) := by decide +kernel
theorem dX2_lastBox_17 : decode cX2_lastBox 17 = .ok (.iinc 1 (-1), 3) := by decide +kernel
theorem dX2_lastBox_20 : decode cX2_lastBox 20 = .ok (.goto (-17), 3) := by decide +kernel
theorem dX2_lastBox_23 : decode cX2_lastBox 23 = .ok (.iconst (-1), 1) := by decide +kernel
theorem dX2_lastBox_24 : decode cX2_lastBox 24 = .ok (.ireturn, 1) := by decide +kernel
theorem dX2_hyphenRoom_0 : decode cX2_hyphenRoom 0 = .ok (.aload_n 0, 1) := by decide +kernel
theorem dX2_hyphenRoom_1 : decode cX2_hyphenRoom 1 = .ok (.iload_n 1, 1) := by decide +kernel
theorem dX2_hyphenRoom_2 : decode cX2_hyphenRoom 2 = .ok (.invokevirtual 68, 3) := by decide +kernel
theorem dX2_hyphenRoom_5 : decode cX2_hyphenRoom 5 = .ok (.istore_n 2, 1) := by decide +kernel
theorem dX2_hyphenRoom_6 : decode cX2_hyphenRoom 6 = .ok (.iload_n 2, 1) := by decide +kernel
theorem dX2_hyphenRoom_7 : decode cX2_hyphenRoom 7 = .ok (.iconst (-1), 1) := by decide +kernel
theorem dX2_hyphenRoom_8 : decode cX2_hyphenRoom 8 = .ok (.if_icmp .eq 11, 3) := by decide +kernel
theorem dX2_hyphenRoom_11 : decode cX2_hyphenRoom 11 = .ok (.aload_n 0, 1) := by decide +kernel
theorem dX2_hyphenRoom_12 : decode cX2_hyphenRoom 12 = .ok (.iload_n 1, 1) := by decide +kernel
theorem dX2_hyphenRoom_13 : decode cX2_hyphenRoom 13 = .ok (.invokevirtual 62, 3) := by decide +kernel
theorem dX2_hyphenRoom_16 : decode cX2_hyphenRoom 16 = .ok (.ifCond .ne 5, 3) := by decide +kernel
theorem dX2_hyphenRoom_19 : decode cX2_hyphenRoom 19 = .ok (.iconst 0, 1) := by decide +kernel
theorem dX2_hyphenRoom_20 : decode cX2_hyphenRoom 20 = .ok (.ireturn, 1) := by decide +kernel
theorem dX2_hyphenRoom_21 : decode cX2_hyphenRoom 21 = .ok (.aload_n 0, 1) := by decide +kernel
theorem dX2_hyphenRoom_22 : decode cX2_hyphenRoom 22 = .ok (.getfield 25, 3) := by decide +kernel
theorem dX2_hyphenRoom_25 : decode cX2_hyphenRoom 25 = .ok (.iload_n 2, 1) := by decide +kernel
theorem dX2_hyphenRoom_26 : decode cX2_hyphenRoom 26 = .ok (.iaload, 1) := by decide +kernel
theorem dX2_hyphenRoom_27 : decode cX2_hyphenRoom 27 = .ok (.aload_n 0, 1) := by decide +kernel
theorem dX2_hyphenRoom_28 : decode cX2_hyphenRoom 28 = .ok (.iload_n 1, 1) := by decide +kernel
theorem dX2_hyphenRoom_29 : decode cX2_hyphenRoom 29 = .ok (.invokevirtual 59, 3) := by decide +kernel
theorem dX2_hyphenRoom_32 : decode cX2_hyphenRoom 32 = .ok (.isub, 1) := by decide +kernel
theorem dX2_hyphenRoom_33 : decode cX2_hyphenRoom 33 = .ok (.ireturn, 1) := by decide +kernel
theorem dX2_hasSameSyllables_0 : decode cX2_hasSameSyllables 0 = .ok (.aload_n 0, 1) := by decide +kernel
theorem dX2_hasSameSyllables_1 : decode cX2_hasSameSyllables 1 = .ok (.getfield 9, 3) := by decide +kernel
theorem dX2_hasSameSyllables_4 : decode cX2_hasSameSyllables 4 = .ok (.iload_n 2, 1) := by decide +kernel
theorem dX2_hasSameSyllables_5 : decode cX2_hasSameSyllables 5 = .ok (.iaload, 1) := by decide +kernel
theorem dX2_hasSameSyllables_6 : decode cX2_hasSameSyllables 6 = .ok (.aload_n 1, 1) := by decide +kernel
theorem dX2_hasSameSyllables_7 : decode cX2_hasSameSyllables 7 = .ok (.getfield 9, 3) := by decide +kernel
theorem dX2_hasSameSyllables_10 : decode cX2_hasSameSyllables 10 = .ok (.iload_n 2, 1) := by decide +kernel
theorem dX2_hasSameSyllables_11 : decode cX2_hasSameSyllables 11 = .ok (.iaload, 1) := by decide +kernel
theorem dX2_hasSameSyllables_12 : decode cX2_hasSameSyllables 12 = .ok (.if_icmp .eq 5, 3) := by decide +kernel
theorem dX2_hasSameSyllables_15 : decode cX2_hasSameSyllables 15 = .ok (.iconst 0, 1) := by decide +kernel
theorem dX2_hasSameSyllables_16 : decode cX2_hasSameSyllables 16 = .ok (.ireturn, 1) := by decide +kernel
theorem dX2_hasSameSyllables_17 : decode cX2_hasSameSyllables 17 = .ok (.iconst 2, 1) := by decide +kernel
theorem dX2_hasSameSyllables_18 : decode cX2_hasSameSyllables 18 = .ok (.iload_n 2, 1) := by decide +kernel
theorem dX2_hasSameSyllables_19 : decode cX2_hasSameSyllables 19 = .ok (.imul, 1) := by decide +kernel
theorem dX2_hasSameSyllables_20 : decode cX2_hasSameSyllables 20 = .ok (.istore_n 3, 1) := by decide +kernel
theorem dX2_hasSameSyllables_21 : decode cX2_hasSameSyllables 21 = .ok (.iload_n 3, 1) := by decide +kernel
theorem dX2_hasSameSyllables_22 : decode cX2_hasSameSyllables 22 = .ok (.istore 4, 2) := by decide +kernel
theorem dX2_hasSameSyllables_24 : decode cX2_hasSameSyllables 24 = .ok (.iload 4, 2) := by decide +kernel
theorem dX2_hasSameSyllables_26 : decode cX2_hasSameSyllables 26 = .ok (.iload_n 3, 1) := by decide +kernel
theorem dX2_hasSameSyllables_27 : decode cX2_hasSameSyllables 27 = .ok (.aload_n 0, 1) := by decide +kernel
theorem dX2_hasSameSyllables_28 : decode cX2_hasSameSyllables 28 = .ok (.getfield 9, 3) := by decide +kernel
theorem dX2_hasSameSyllables_31 : decode cX2_hasSameSyllables 31 = .ok (.iload_n 2, 1) := by decide +kernel
theorem dX2_hasSameSyllables_32 : decode cX2_hasSameSyllables 32 = .ok (.iaload, 1) := by decide +kernel
theorem dX2_hasSameSyllables_33 : decode cX2_hasSameSyllables 33 = .ok (.iadd, 1) := by decide +kernel
theorem dX2_hasSameSyllables_34 : decode cX2_hasSameSyllables 34 = .ok (.if_icmp .ge 62, 3) := by decide +kernel
theorem dX2_hasSameSyllables_37 : decode cX2_hasSameSyllables 37 = .ok (.aload_n 0, 1) := by decide +kernel
theorem dX2_hasSameSyllables_38 : decode cX2_hasSameSyllables 38 = .ok (.getfield 15, 3) := by decide +kernel
theorem dX2_hasSameSyllables_41 : decode cX2_hasSameSyllables 41 = .ok (.iload 4, 2) := by decide +kernel
theorem dX2_hasSameSyllables_43 : decode cX2_hasSameSyllables 43 = .ok (.iaload, 1) := by decide +kernel
theorem dX2_hasSameSyllables_44 : decode cX2_hasSameSyllables 44 = .ok (.aload_n 1, 1) := by decide +kernel
theorem dX2_hasSameSyllables_45 : decode cX2_hasSameSyllables 45 = .ok (.getfield 15, 3) := by decide +kernel
theorem dX2_hasSameSyllables_48 : decode cX2_hasSameSyllables 48 = .ok (.iload 4, 2) := by decide +kernel
theorem dX2_hasSameSyllables_50 : decode cX2_hasSameSyllables 50 = .ok (.iaload, 1) := by decide +kernel
theorem dX2_hasSameSyllables_51 : decode cX2_hasSameSyllables 51 = .ok (.if_icmp .ne 37, 3) := by decide +kernel
theorem dX2_hasSameSyllables_54 : decode cX2_hasSameSyllables 54 = .ok (.aload_n 0, 1) := by decide +kernel
theorem dX2_hasSameSyllables_55 : decode cX2_hasSameSyllables 55 = .ok (.getfield 18, 3) := by decide +kernel
theorem dX2_hasSameSyllables_58 : decode cX2_hasSameSyllables 58 = .ok (.iload 4, 2) := by decide +kernel
theorem dX2_hasSameSyllables_60 : decode cX2_hasSameSyllables 60 = .ok (.iaload, 1) := by decide +kernel
theorem dX2_hasSameSyllables_61 : decode cX2_hasSameSyllables 61 = .ok (.aload_n 1, 1) := by decide +kernel
theorem dX2_hasSameSyllables_62 : decode cX2_hasSameSyllables 62 = .ok (.getfield 18, 3) := by decide +kernel
theorem dX2_hasSameSyllables_65 : decode cX2_hasSameSyllables 65 = .ok (.iload 4, 2) := by decide +kernel
theorem dX2_hasSameSyllables_67 : decode cX2_hasSameSyllables 67 = .ok (.iaload, 1) := by decide +kernel
theorem dX2_hasSameSyllables_68 : decode cX2_hasSameSyllables 68 = .ok (.if_icmp .ne 20, 3) := by decide +kernel
theorem dX2_hasSameSyllables_71 : decode cX2_hasSameSyllables 71 = .ok (.aload_n 0, 1) := by decide +kernel
theorem dX2_hasSameSyllables_72 : decode cX2_hasSameSyllables 72 = .ok (.getfield 21, 3) := by decide +kernel
theorem dX2_hasSameSyllables_75 : decode cX2_hasSameSyllables 75 = .ok (.iload 4, 2) := by decide +kernel
theorem dX2_hasSameSyllables_77 : decode cX2_hasSameSyllables 77 = .ok (.baload, 1) := by decide +kernel
theorem dX2_hasSameSyllables_78 : decode cX2_hasSameSyllables 78 = .ok (.aload_n 1, 1) := by decide +kernel
theorem dX2_hasSameSyllables_79 : decode cX2_hasSameSyllables 79 = .ok (.getfield 21, 3) := by decide +kernel
theorem dX2_hasSameSyllables_82 : decode cX2_hasSameSyllables 82 = .ok (.iload 4, 2) := by decide +kernel
theorem dX2_hasSameSyllables_84 : decode cX2_hasSameSyllables 84 = .ok (.baload, 1) := by decide +kernel
theorem dX2_hasSameSyllables_85 : decode cX2_hasSameSyllables 85 = .ok (.if_icmp .eq 5, 3) := by decide +kernel
theorem dX2_hasSameSyllables_88 : decode cX2_hasSameSyllables 88 = .ok (.iconst 0, 1) := by decide +kernel
theorem dX2_hasSameSyllables_89 : decode cX2_hasSameSyllables 89 = .ok (.ireturn, 1) := by decide +kernel
theorem dX2_hasSameSyllables_90 : decode cX2_hasSameSyllables 90 = .ok (.iinc 4 1, 3) := by decide +kernel
theorem dX2_hasSameSyllables_93 : decode cX2_hasSameSyllables 93 = .ok (.goto (-69), 3) := by decide +kernel
theorem dX2_hasSameSyllables_96 : decode cX2_hasSameSyllables 96 = .ok (.iconst 1, 1) := by decide +kernel
theorem dX2_hasSameSyllables_97 : decode cX2_hasSameSyllables 97 = .ok (.ireturn, 1) := by decide +kernel

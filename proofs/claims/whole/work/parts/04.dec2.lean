theorem dX2_init_0 : decode cX2_init 0 = .ok (.aload_n 0, 1) := by decide +kernel
theorem dX2_init_1 : decode cX2_init 1 = .ok (.invokespecial 3, 3) := by decide +kernel
theorem dX2_init_4 : decode cX2_init 4 = .ok (.aload_n 0, 1) := by decide +kernel
theorem dX2_init_5 : decode cX2_init 5 = .ok (.iconst 0, 1) := by decide +kernel
theorem dX2_init_6 : decode cX2_init 6 = .ok (.putfield 9, 3) := by decide +kernel
theorem dX2_init_9 : decode cX2_init 9 = .ok (.aload_n 0, 1) := by decide +kernel
theorem dX2_init_10 : decode cX2_init 10 = .ok (.iconst 0, 1) := by decide +kernel
theorem dX2_init_11 : decode cX2_init 11 = .ok (.putfield 15, 3) := by decide +kernel
theorem dX2_init_14 : decode cX2_init 14 = .ok (.aload_n 0, 1) := by decide +kernel
theorem dX2_init_15 : decode cX2_init 15 = .ok (.aload_n 1, 1) := by decide +kernel
theorem dX2_init_16 : decode cX2_init 16 = .ok (.putfield 18, 3) := by decide +kernel
theorem dX2_init_19 : decode cX2_init 19 = .ok (.aload_n 0, 1) := by decide +kernel
theorem dX2_init_20 : decode cX2_init 20 = .ok (.aload_n 2, 1) := by decide +kernel
theorem dX2_init_21 : decode cX2_init 21 = .ok (.putfield 22, 3) := by decide +kernel
theorem dX2_init_24 : decode cX2_init 24 = .ok (.return_, 1) := by decide +kernel
theorem dX2_place_0 : decode cX2_place 0 = .ok (.aload_n 0, 1) := by decide +kernel
theorem dX2_place_1 : decode cX2_place 1 = .ok (.getfield 9, 3) := by decide +kernel
theorem dX2_place_4 : decode cX2_place 4 = .ok (.ireturn, 1) := by decide +kernel
theorem dX2_readText_0 : decode cX2_readText 0 = .ok (.aload_n 0, 1) := by decide +kernel
theorem dX2_readText_1 : decode cX2_readText 1 = .ok (.invokevirtual 26, 3) := by decide +kernel
theorem dX2_readText_4 : decode cX2_readText 4 = .ok (.aload_n 0, 1) := by decide +kernel
theorem dX2_readText_5 : decode cX2_readText 5 = .ok (.iconst 0, 1) := by decide +kernel
theorem dX2_readText_6 : decode cX2_readText 6 = .ok (.invokevirtual 29, 3) := by decide +kernel
theorem dX2_readText_9 : decode cX2_readText 9 = .ok (.ifCond .eq 14, 3) := by decide +kernel
theorem dX2_readText_12 : decode cX2_readText 12 = .ok (.aload_n 0, 1) := by decide +kernel
theorem dX2_readText_13 : decode cX2_readText 13 = .ok (.invokevirtual 33, 3) := by decide +kernel
theorem dX2_readText_16 : decode cX2_readText 16 = .ok (.ifCond .eq 7, 3) := by decide +kernel
theorem dX2_readText_19 : decode cX2_readText 19 = .ok (.iconst 1, 1) := by decide +kernel
theorem dX2_readText_20 : decode cX2_readText 20 = .ok (.goto 4, 3) := by decide +kernel
theorem dX2_readText_23 : decode cX2_readText 23 = .ok (.iconst 0, 1) := by decide +kernel
theorem dX2_readText_24 : decode cX2_readText 24 = .ok (.ireturn, 1) := by decide +kernel
theorem dX2_readPart_0 : decode cX2_readPart 0 = .ok (.aload_n 0, 1) := by decide +kernel
theorem dX2_readPart_1 : decode cX2_readPart 1 = .ok (.invokevirtual 37, 3) := by decide +kernel
theorem dX2_readPart_4 : decode cX2_readPart 4 = .ok (.istore_n 2, 1) := by decide +kernel
theorem dX2_readPart_5 : decode cX2_readPart 5 = .ok (.iload_n 2, 1) := by decide +kernel
theorem dX2_readPart_6 : decode cX2_readPart 6 = .ok (.iconst (-1), 1) := by decide +kernel
theorem dX2_readPart_7 : decode cX2_readPart 7 = .ok (.if_icmp .eq 13, 3) := by decide +kernel
theorem dX2_readPart_10 : decode cX2_readPart 10 = .ok (.aload_n 0, 1) := by decide +kernel
theorem dX2_readPart_11 : decode cX2_readPart 11 = .ok (.getfield 22, 3) := by decide +kernel
theorem dX2_readPart_14 : decode cX2_readPart 14 = .ok (.invokevirtual 41, 3) := by decide +kernel
theorem dX2_readPart_17 : decode cX2_readPart 17 = .ok (.ifCond .ne 5, 3) := by decide +kernel
theorem dX2_readPart_20 : decode cX2_readPart 20 = .ok (.iconst 0, 1) := by decide +kernel
theorem dX2_readPart_21 : decode cX2_readPart 21 = .ok (.ireturn, 1) := by decide +kernel
theorem dX2_readPart_22 : decode cX2_readPart 22 = .ok (.aload_n 0, 1) := by decide +kernel
theorem dX2_readPart_23 : decode cX2_readPart 23 = .ok (.getfield 22, 3) := by decide +kernel
theorem dX2_readPart_26 : decode cX2_readPart 26 = .ok (.invokevirtual 46, 3) := by decide +kernel
theorem dX2_readPart_29 : decode cX2_readPart 29 = .ok (.istore_n 3, 1) := by decide +kernel
theorem dX2_readPart_30 : decode cX2_readPart 30 = .ok (.aload_n 0, 1) := by decide +kernel
theorem dX2_readPart_31 : decode cX2_readPart 31 = .ok (.getfield 22, 3) := by decide +kernel
theorem dX2_readPart_34 : decode cX2_readPart 34 = .ok (.iload_n 2, 1) := by decide +kernel
theorem dX2_readPart_35 : decode cX2_readPart 35 = .ok (.invokevirtual 49, 3) := by decide +kernel
theorem dX2_readPart_38 : decode cX2_readPart 38 = .ok (.aload_n 0, 1) := by decide +kernel
theorem dX2_readPart_39 : decode cX2_readPart 39 = .ok (.invokevirtual 26, 3) := by decide +kernel
theorem dX2_readPart_42 : decode cX2_readPart 42 = .ok (.aload_n 0, 1) := by decide +kernel
theorem dX2_readPart_43 : decode cX2_readPart 43 = .ok (.bipush 123, 2) := by decide +kernel
theorem dX2_readPart_45 : decode cX2_readPart 45 = .ok (.invokevirtual 53, 3) := by decide +kernel
theorem dX2_readPart_48 : decode cX2_readPart 48 = .ok (.ifCond .ne 5, 3) := by decide +kernel
theorem dX2_readPart_51 : decode cX2_readPart 51 = .ok (.iconst 1, 1) := by decide +kernel
theorem dX2_readPart_52 : decode cX2_readPart 52 = .ok (.ireturn, 1) := by decide +kernel
theorem dX2_readPart_53 : decode cX2_readPart 53 = .ok (.iload_n 1, 1) := by decide +kernel
theorem dX2_readPart_54 : decode cX2_readPart 54 = .ok (.bipush 6, 2) := by decide +kernel
theorem dX2_readPart_56 : decode cX2_readPart 56 = .ok (.if_icmp .lt 5, 3) := by decide +kernel
theorem dX2_readPart_59 : decode cX2_readPart 59 = .ok (.iconst 0, 1) := by decide +kernel
theorem dX2_readPart_60 : decode cX2_readPart 60 = .ok (.ireturn, 1) := by decide +kernel
theorem dX2_readPart_61 : decode cX2_readPart 61 = .ok (.aload_n 0, 1) := by decide +kernel
theorem dX2_readPart_62 : decode cX2_readPart 62 = .ok (.invokevirtual 26, 3) := by decide +kernel
theorem dX2_readPart_65 : decode cX2_readPart 65 = .ok (.aload_n 0, 1) := by decide +kernel
theorem dX2_readPart_66 : decode cX2_readPart 66 = .ok (.iload_n 3, 1) := by decide +kernel
theorem dX2_readPart_67 : decode cX2_readPart 67 = .ok (.iload_n 1, 1) := by decide +kernel
theorem dX2_readPart_68 : decode cX2_readPart 68 = .ok (.iconst 1, 1) := by decide +kernel
theorem dX2_readPart_69 : decode cX2_readPart 69 = .ok (.iadd, 1) := by decide +kernel
theorem dX2_readPart_70 : decode cX2_readPart 70 = .ok (.invokevirtual 57, 3) := by decide +kernel
theorem dX2_readPart_73 : decode cX2_readPart 73 = .ok (.ireturn, 1) := by decide +kernel
theorem dX2_readItems_0 : decode cX2_readItems 0 = .ok (.iconst 0, 1) := by decide +kernel
theorem dX2_readItems_1 : decode cX2_readItems 1 = .ok (.istore_n 3, 1) := by decide +kernel
theorem dX2_readItems_2 : decode cX2_readItems 2 = .ok (.iload_n 3, 1) := by decide +kernel
theorem dX2_readItems_3 : decode cX2_readItems 3 = .ok (.bipush 100, 2) := by decide +kernel
theorem dX2_readItems_5 : decode cX2_readItems 5 = .ok (.if_icmp .ge 55, 3) := by decide +kernel
theorem dX2_readItems_8 : decode cX2_readItems 8 = .ok (.aload_n 0, 1) := by decide +kernel
theorem dX2_readItems_9 : decode cX2_readItems 9 = .ok (.iload_n 1, 1) := by decide +kernel
theorem dX2_readItems_10 : decode cX2_readItems 10 = .ok (.iload_n 2, 1) := by decide +kernel
theorem dX2_readItems_11 : decode cX2_readItems 11 = .ok (.invokevirtual 61, 3) := by decide +kernel
theorem dX2_readItems_14 : decode cX2_readItems 14 = .ok (.ifCond .ne 5, 3) := by decide +kernel
theorem dX2_readItems_17 : decode cX2_readItems 17 = .ok (.iconst 0, 1) := by decide +kernel
theorem dX2_readItems_18 : decode cX2_readItems 18 = .ok (.ireturn, 1) := by decide +kernel
theorem dX2_readItems_19 : decode cX2_readItems 19 = .ok (.aload_n 0, 1) := by decide +kernel
theorem dX2_readItems_20 : decode cX2_readItems 20 = .ok (.bipush 125, 2) := by decide +kernel
theorem dX2_readItems_22 : decode cX2_readItems 22 = .ok (.invokevirtual 53, 3) := by decide +kernel
theorem dX2_readItems_25 : decode cX2_readItems 25 = .ok (.istore 4, 2) := by decide +kernel
theorem dX2_readItems_27 : decode cX2_readItems 27 = .ok (.iload 4, 2) := by decide +kernel
theorem dX2_readItems_29 : decode cX2_readItems 29 = .ok (.ifCond .ne 14, 3) := by decide +kernel
theorem dX2_readItems_32 : decode cX2_readItems 32 = .ok (.aload_n 0, 1) := by decide +kernel
theorem dX2_readItems_33 : decode cX2_readItems 33 = .ok (.bipush 44, 2) := by decide +kernel
theorem dX2_readItems_35 : decode cX2_readItems 35 = .ok (.invokevirtual 53, 3) := by decide +kernel
theorem dX2_readItems_38 : decode cX2_readItems 38 = .ok (.ifCond .ne 5, 3) := by decide +kernel
theorem dX2_readItems_41 : decode cX2_readItems 41 = .ok (.iconst 0, 1) := by decide +kernel
theorem dX2_readItems_42 : decode cX2_readItems 42 = .ok (.ireturn, 1) := by decide +kernel
theorem dX2_readItems_43 : decode cX2_readItems 43 = .ok (.aload_n 0, 1) := by decide +kernel
theorem dX2_readItems_44 : decode cX2_readItems 44 = .ok (.invokevirtual 26, 3) := by decide +kernel
theorem dX2_readItems_47 : decode cX2_readItems 47 = .ok (.iload 4, 2) := by decide +kernel
theorem dX2_readItems_49 : decode cX2_readItems 49 = .ok (.ifCond .eq 5, 3) := by decide +kernel
theorem dX2_readItems_52 : decode cX2_readItems 52 = .ok (.iconst 1, 1) := by decide +kernel
theorem dX2_readItems_53 : decode cX2_readItems 53 = .ok (.ireturn, 1) := by decide +kernel
theorem dX2_readItems_54 : decode cX2_readItems 54 = .ok (.iinc 3 1, 3) := by decide +kernel
theorem dX2_readItems_57 : decode cX2_readItems 57 = .ok (.goto (-55), 3) := by decide +kernel
theorem dX2_readItems_60 : decode cX2_readItems 60 = .ok (.iconst 0, 1) := by decide +kernel
theorem dX2_readItems_61 : decode cX2_readItems 61 = .ok (.ireturn, 1) := by decide +kernel
theorem dX2_readItem_0 : decode cX2_readItem 0 = .ok (.aload_n 0, 1) := by decide +kernel
theorem dX2_readItem_1 : decode cX2_readItem 1 = .ok (.ldc 64, 2) := by decide +kernel
theorem dX2_readItem_3 : decode cX2_readItem 3 = .ok (.invokevirtual 66, 3) := by decide +kernel
theorem dX2_readItem_6 : decode cX2_readItem 6 = .ok (.ifCond .eq 20, 3) := by decide +kernel
theorem dX2_readItem_9 : decode cX2_readItem 9 = .ok (.aload_n 0, 1) := by decide +kernel
theorem dX2_readItem_10 : decode cX2_readItem 10 = .ok (.getfield 22, 3) := by decide +kernel
theorem dX2_readItem_13 : decode cX2_readItem 13 = .ok (.iload_n 1, 1) := by decide +kernel
theorem dX2_readItem_14 : decode cX2_readItem 14 = .ok (.iconst 0, 1) := by decide +kernel
theorem dX2_readItem_15 : decode cX2_readItem 15 = .ok (.iconst (-1), 1) := by decide +kernel
theorem dX2_readItem_16 : decode cX2_readItem 16 = .ok (.iconst (-1), 1) := by decide +kernel
theorem dX2_readItem_17 : decode cX2_readItem 17 = .ok (.invokevirtual 70, 3) := by decide +kernel
theorem dX2_readItem_20 : decode cX2_readItem 20 = .ok (.aload_n 0, 1) := by decide +kernel
theorem dX2_readItem_21 : decode cX2_readItem 21 = .ok (.invokevirtual 26, 3) := by decide +kernel
theorem dX2_readItem_24 : decode cX2_readItem 24 = .ok (.iconst 1, 1) := by decide +kernel
theorem dX2_readItem_25 : decode cX2_readItem 25 = .ok (.ireturn, 1) := by decide +kernel
theorem dX2_readItem_26 : decode cX2_readItem 26 = .ok (.aload_n 0, 1) := by decide +kernel
theorem dX2_readItem_27 : decode cX2_readItem 27 = .ok (.ldc 74, 2) := by decide +kernel
theorem dX2_readItem_29 : decode cX2_readItem 29 = .ok (.invokevirtual 66, 3) := by decide +kernel
theorem dX2_readItem_32 : decode cX2_readItem 32 = .ok (.istore_n 3, 1) := by decide +kernel
theorem dX2_readItem_33 : decode cX2_readItem 33 = .ok (.iload_n 3, 1) := by decide +kernel
theorem dX2_readItem_34 : decode cX2_readItem 34 = .ok (.ifCond .ne 14, 3) := by decide +kernel
theorem dX2_readItem_37 : decode cX2_readItem 37 = .ok (.aload_n 0, 1) := by decide +kernel
theorem dX2_readItem_38 : decode cX2_readItem 38 = .ok (.ldc 76, 2) := by decide +kernel
theorem dX2_readItem_40 : decode cX2_readItem 40 = .ok (.invokevirtual 66, 3) := by decide +kernel
theorem dX2_readItem_43 : decode cX2_readItem 43 = .ok (.ifCond .ne 5, 3) := by decide +kernel
theorem dX2_readItem_46 : decode cX2_readItem 46 = .ok (.iconst 0, 1) := by decide +kernel
theorem dX2_readItem_47 : decode cX2_readItem 47 = .ok (.ireturn, 1) := by decide +kernel
theorem dX2_readItem_48 : decode cX2_readItem 48 = .ok (.aload_n 0, 1) := by decide +kernel
theorem dX2_readItem_49 : decode cX2_readItem 49 = .ok (.invokevirtual 26, 3) := by decide +kernel
theorem dX2_readItem_52 : decode cX2_readItem 52 = .ok (.aload_n 0, 1) := by decide +kernel
theorem dX2_readItem_53 : decode cX2_readItem 53 = .ok (.invokevirtual 78, 3) := by decide +kernel
theorem dX2_readItem_56 : decode cX2_readItem 56 = .ok (.istore 4, 2) := by decide +kernel
theorem dX2_readItem_58 : decode cX2_readItem 58 = .ok (.iload 4, 2) := by decide +kernel
theorem dX2_readItem_60 : decode cX2_readItem 60 = .ok (.iconst (-1), 1) := by decide +kernel
theorem dX2_readItem_61 : decode cX2_readItem 61 = .ok (.if_icmp .ne 5, 3) := by decide +kernel
theorem dX2_readItem_64 : decode cX2_readItem 64 = .ok (.iconst 0, 1) := by decide +kernel
theorem dX2_readItem_65 : decode cX2_readItem 65 = .ok (.ireturn, 1) := by decide +kernel
theorem dX2_readItem_66 : decode cX2_readItem 66 = .ok (.aload_n 0, 1) := by decide +kernel
theorem dX2_readItem_67 : decode cX2_readItem 67 = .ok (.invokevirtual 26, 3) := by decide +kernel
theorem dX2_readItem_70 : decode cX2_readItem 70 = .ok (.aload_n 0, 1) := by decide +kernel
theorem dX2_readItem_71 : decode cX2_readItem 71 = .ok (.getfield 22, 3) := by decide +kernel
theorem dX2_readItem_74 : decode cX2_readItem 74 = .ok (.iload_n 1, 1) := by decide +kernel
theorem dX2_readItem_75 : decode cX2_readItem 75 = .ok (.iload_n 3, 1) := by decide +kernel
theorem dX2_readItem_76 : decode cX2_readItem 76 = .ok (.ifCond .eq 7, 3) := by decide +kernel
theorem dX2_readItem_79 : decode cX2_readItem 79 = .ok (.iconst 1, 1) := by decide +kernel
theorem dX2_readItem_80 : decode cX2_readItem 80 = .ok (.goto 4, 3) := by decide +kernel
theorem dX2_readItem_83 : decode cX2_readItem 83 = .ok (.iconst 2, 1) := by decide +kernel
theorem dX2_readItem_84 : decode cX2_readItem 84 = .ok (.iload 4, 2) := by decide +kernel
theorem dX2_readItem_86 : decode cX2_readItem 86 = .ok (.aload_n 0, 1) := by decide +kernel
theorem dX2_readItem_87 : decode cX2_readItem 87 = .ok (.getfield 22, 3) := by decide +kernel
theorem dX2_readItem_90 : decode cX2_readItem 90 = .ok (.invokevirtual 46, 3) := by decide +kernel
theorem dX2_readItem_93 : decode cX2_readItem 93 = .ok (.invokevirtual 70, 3) := by decide +kernel
theorem dX2_readItem_96 : decode cX2_readItem 96 = .ok (.aload_n 0, 1) := by decide +kernel
theorem dX2_readItem_97 : decode cX2_readItem 97 = .ok (.iload_n 2, 1) := by decide +kernel
theorem dX2_readItem_98 : decode cX2_readItem 98 = .ok (.invokevirtual 29, 3) := by decide +kernel
theorem dX2_readItem_101 : decode cX2_readItem 101 = .ok (.ireturn, 1) := by decide +kernel
theorem dX2_advance_0 : decode cX2_advance 0 = .ok (.aload_n 0, 1) := by decide +kernel
theorem dX2_advance_1 : decode cX2_advance 1 = .ok (.aload_n 0, 1) := by decide +kernel
theorem dX2_advance_2 : decode cX2_advance 2 = .ok (.getfield 15, 3) := by decide +kernel
theorem dX2_advance_5 : decode cX2_advance 5 = .ok (.putfield 9, 3) := by decide +kernel
theorem dX2_advance_8 : decode cX2_advance 8 = .ok (.aload_n 0, 1) := by decide +kernel
theorem dX2_advance_9 : decode cX2_advance 9 = .ok (.getfield 9, 3) := by decide +kernel
theorem dX2_advance_12 : decode cX2_advance 12 = .ok (.sipush 200, 3) := by decide +kernel
theorem dX2_advance_15 : decode cX2_advance 15 = .ok (.if_icmp .ge 32, 3) := by decide +kernel
theorem dX2_advance_18 : decode cX2_advance 18 = .ok (.aload_n 0, 1) := by decide +kernel
theorem dX2_advance_19 : decode cX2_advance 19 = .ok (.getfield 18, 3) := by decide +kernel
theorem dX2_advance_22 : decode cX2_advance 22 = .ok (.aload_n 0, 1) := by decide +kernel
theorem dX2_advance_23 : decode cX2_advance 23 = .ok (.getfield 9, 3) := by decide +kernel
theorem dX2_advance_26 : decode cX2_advance 26 = .ok (.invokevirtual 81, 3) := by decide +kernel
theorem dX2_advance_29 : decode cX2_advance 29 = .ok (.bipush 32, 2) := by decide +kernel
theorem dX2_advance_31 : decode cX2_advance 31 = .ok (.if_icmp .ne 16, 3) := by decide +kernel
theorem dX2_advance_34 : decode cX2_advance 34 = .ok (.aload_n 0, 1) := by decide +kernel
theorem dX2_advance_35 : decode cX2_advance 35 = .ok (.dup, 1) := by decide +kernel
theorem dX2_advance_36 : decode cX2_advance 36 = .ok (.getfield 9, 3) := by decide +kernel
theorem dX2_advance_39 : decode cX2_advance 39 = .ok (.iconst 1, 1) := by decide +kernel
theorem dX2_advance_40 : decode cX2_advance 40 = .ok (.iadd, 1) := by decide +kernel
theorem dX2_advance_41 : decode cX2_advance 41 = .ok (.putfield 9, 3) := by decide +kernel
theorem dX2_advance_44 : decode cX2_advance 44 = .ok (.goto (-36), 3) := by decide +kernel
theorem dX2_advance_47 : decode cX2_advance 47 = .ok (.aload_n 0, 1) := by decide +kernel
theorem dX2_advance_48 : decode cX2_advance 48 = .ok (.getfield 18, 3) := by decide +kernel
theorem dX2_advance_51 : decode cX2_advance 51 = .ok (.aload_n 0, 1) := by decide +kernel
theorem dX2_advance_52 : decode cX2_advance 52 = .ok (.getfield 9, 3) := by decide +kernel
theorem dX2_advance_55 : decode cX2_advance 55 = .ok (.invokevirtual 81, 3) := by decide +kernel
theorem dX2_advance_58 : decode cX2_advance 58 = .ok (.istore_n 1, 1) := by decide +kernel
theorem dX2_advance_59 : decode cX2_advance 59 = .ok (.aload_n 0, 1) := by decide +kernel
theorem dX2_advance_60 : decode cX2_advance 60 = .ok (.iload_n 1, 1) := by decide +kernel
theorem dX2_advance_61 : decode cX2_advance 61 = .ok (.iconst (-1), 1) := by decide +kernel
theorem dX2_advance_62 : decode cX2_advance 62 = .ok (.if_icmp .ne 10, 3) := by decide +kernel
theorem dX2_advance_65 : decode cX2_advance 65 = .ok (.aload_n 0, 1) := by decide +kernel
theorem dX2_advance_66 : decode cX2_advance 66 = .ok (.getfield 9, 3) := by decide +kernel
theorem dX2_advance_69 : decode cX2_advance 69 = .ok (.goto 9, 3) := by decide +kernel
theorem dX2_advance_72 : decode cX2_advance 72 = .ok (.aload_n 0, 1) := by decide +kernel
theorem dX2_advance_73 : decode cX2_advance 73 = .ok (.getfield 9, 3) := by decide +kernel
theorem dX2_advance_76 : decode cX2_advance 76 = .ok (.iconst 1, 1) := by decide +kernel
theorem dX2_advance_77 : decode cX2_advance 77 = .ok (.iadd, 1) := by decide +kernel
theorem dX2_advance_78 : decode cX2_advance 78 = .ok (.putfield 15, 3) := by decide +kernel
theorem dX2_advance_81 : decode cX2_advance 81 = .ok (.iload_n 1, 1) := by decide +kernel
theorem dX2_advance_82 : decode cX2_advance 82 = .ok (.invokestatic 87, 3) := by decide +kernel
theorem dX2_advance_85 : decode cX2_advance 85 = .ok (.istore_n 2, 1) := by decide +kernel
theorem dX2_advance_86 : decode cX2_advance 86 = .ok (.iload_n 1, 1) := by decide +kernel
theorem dX2_advance_87 : decode cX2_advance 87 = .ok (.invokestatic 90, 3) := by decide +kernel
theorem dX2_advance_90 : decode cX2_advance 90 = .ok (.istore_n 3, 1) := by decide +kernel
theorem dX2_advance_91 : decode cX2_advance 91 = .ok (.aload_n 0, 1) := by decide +kernel
theorem dX2_advance_92 : decode cX2_advance 92 = .ok (.getfield 15, 3) := by decide +kernel
theorem dX2_advance_95 : decode cX2_advance 95 = .ok (.sipush 200, 3) := by decide +kernel
theorem dX2_advance_98 : decode cX2_advance 98 = .ok (.if_icmp .ge 58, 3) := by decide +kernel
theorem dX2_advance_101 : decode cX2_advance 101 = .ok (.iload_n 2, 1) := by decide +kernel
theorem dX2_advance_102 : decode cX2_advance 102 = .ok (.ifCond .eq 20, 3) := by decide +kernel
theorem dX2_advance_105 : decode cX2_advance 105 = .ok (.aload_n 0, 1) := by decide +kernel
theorem dX2_advance_106 : decode cX2_advance 106 = .ok (.getfield 18, 3) := by decide +kernel
theorem dX2_advance_109 : decode cX2_advance 109 = .ok (.aload_n 0, 1) := by decide +kernel
theorem dX2_advance_110 : decode cX2_advance 110 = .ok (.getfield 15, 3) := by decide +kernel
theorem dX2_advance_113 : decode cX2_advance 113 = .ok (.invokevirtual 81, 3) := by decide +kernel
theorem dX2_advance_116 : decode cX2_advance 116 = .ok (.invokestatic 87, 3) := by decide +kernel
theorem dX2_advance_119 : decode cX2_advance 119 = .ok (.ifCond .ne 24, 3) := by decide +kernel
theorem dX2_advance_122 : decode cX2_advance 122 = .ok (.iload_n 3, 1) := by decide +kernel
theorem dX2_advance_123 : decode cX2_advance 123 = .ok (.ifCond .eq 33, 3) := by decide +kernel
theorem dX2_advance_126 : decode cX2_advance 126 = .ok (.aload_n 0, 1) := by decide +kernel
theorem dX2_advance_127 : decode cX2_advance 127 = .ok (.getfield 18, 3) := by decide +kernel
theorem dX2_advance_130 : decode cX2_advance 130 = .ok (.aload_n 0, 1) := by decide +kernel
theorem dX2_advance_131 : decode cX2_advance 131 = .ok (.getfield 15, 3) := by decide +kernel
theorem dX2_advance_134 : decode cX2_advance 134 = .ok (.invokevirtual 81, 3) := by decide +kernel
theorem dX2_advance_137 : decode cX2_advance 137 = .ok (.invokestatic 90, 3) := by decide +kernel
theorem dX2_advance_140 : decode cX2_advance 140 = .ok (.ifCond .eq 16, 3) := by decide +kernel
theorem dX2_advance_143 : decode cX2_advance 143 = .ok (.aload_n 0, 1) := by decide +kernel
theorem dX2_advance_144 : decode cX2_advance 144 = .ok (.dup, 1) := by decide +kernel
theorem dX2_advance_145 : decode cX2_advance 145 = .ok (.getfield 15, 3) := by decide +kernel
theorem dX2_advance_148 : decode cX2_advance 148 = .ok (.iconst 1, 1) := by decide +kernel
theorem dX2_advance_149 : decode cX2_advance 149 = .ok (.iadd, 1) := by decide +kernel
theorem dX2_advance_150 : decode cX2_advance 150 = .ok (.putfield 15, 3) := by decide +kernel
theorem dX2_advance_153 : decode cX2_advance 153 = .ok (.goto (-62), 3) := by decide +kernel
theorem dX2_advance_156 : decode cX2_advance 156 = .ok (.return_, 1) := by decide +kernel
theorem dX2_isAtEnd_0 : decode cX2_isAtEnd 0 = .ok (.aload_n 0, 1) := by decide +kernel
theorem dX2_isAtEnd_1 : decode cX2_isAtEnd 1 = .ok (.getfield 9, 3) := by decide +kernel
theorem dX2_isAtEnd_4 : decode cX2_isAtEnd 4 = .ok (.aload_n 0, 1) := by decide +kernel
theorem dX2_isAtEnd_5 : decode cX2_isAtEnd 5 = .ok (.getfield 18, 3) := by decide +kernel
theorem dX2_isAtEnd_8 : decode cX2_isAtEnd 8 = .ok (.invokevirtual 93, 3) := by decide +kernel
theorem dX2_isAtEnd_11 : decode cX2_isAtEnd 11 = .ok (.if_icmp .lt 7, 3) := by decide +kernel
theorem dX2_isAtEnd_14 : decode cX2_isAtEnd 14 = .ok (.iconst 1, 1) := by decide +kernel
theorem dX2_isAtEnd_15 : decode cX2_isAtEnd 15 = .ok (.goto 4, 3) := by decide +kernel
theorem dX2_isAtEnd_18 : decode cX2_isAtEnd 18 = .ok (.iconst 0, 1) := by decide +kernel
theorem dX2_isAtEnd_19 : decode cX2_isAtEnd 19 = .ok (.ireturn, 1) := by decide +kernel
theorem dX2_isLetter_0 : decode cX2_isLetter 0 = .ok (.iload_n 0, 1) := by decide +kernel
theorem dX2_isLetter_1 : decode cX2_isLetter 1 = .ok (.bipush 97, 2) := by decide +kernel
theorem dX2_isLetter_3 : decode cX2_isLetter 3 = .ok (.if_icmp .lt 13, 3) := by decide +kernel
theorem dX2_isLetter_6 : decode cX2_isLetter 6 = .ok (.iload_n 0, 1) := by decide +kernel
theorem dX2_isLetter_7 : decode cX2_isLetter 7 = .ok (.bipush 122, 2) := by decide +kernel
theorem dX2_isLetter_9 : decode cX2_isLetter 9 = .ok (.if_icmp .gt 7, 3) := by decide +kernel
theorem dX2_isLetter_12 : decode cX2_isLetter 12 = .ok (.iconst 1, 1) := by decide +kernel
theorem dX2_isLetter_13 : decode cX2_isLetter 13 = .ok (.goto 4, 3) := by decide +kernel
theorem dX2_isLetter_16 : decode cX2_isLetter 16 = .ok (.iconst 0, 1) := by decide +kernel
theorem dX2_isLetter_17 : decode cX2_isLetter 17 = .ok (.ireturn, 1) := by decide +kernel
theorem dX2_isDigit_0 : decode cX2_isDigit 0 = .ok (.iload_n 0, 1) := by decide +kernel
theorem dX2_isDigit_1 : decode cX2_isDigit 1 = .ok (.bipush 48, 2) := by decide +kernel
theorem dX2_isDigit_3 : decode cX2_isDigit 3 = .ok (.if_icmp .lt 13, 3) := by decide +kernel
theorem dX2_isDigit_6 : decode cX2_isDigit 6 = .ok (.iload_n 0, 1) := by decide +kernel
theorem dX2_isDigit_7 : decode cX2_isDigit 7 = .ok (.bipush 57, 2) := by decide +kernel
theorem dX2_isDigit_9 : decode cX2_isDigit 9 = .ok (.if_icmp .gt 7, 3) := by decide +kernel
theorem dX2_isDigit_12 : decode cX2_isDigit 12 = .ok (.iconst 1, 1) := by decide +kernel
theorem dX2_isDigit_13 : decode cX2_isDigit 13 = .ok (.goto 4, 3) := by decide +kernel
theorem dX2_isDigit_16 : decode cX2_isDigit 16 = .ok (.iconst 0, 1) := by decide +kernel
theorem dX2_isDigit_17 : decode cX2_isDigit 17 = .ok (.ireturn, 1) := by decide +kernel
theorem dX2_isSign_0 : decode cX2_isSign 0 = .ok (.aload_n 0, 1) := by decide +kernel
theorem dX2_isSign_1 : decode cX2_isSign 1 = .ok (.getfield 18, 3) := by decide +kernel
theorem dX2_isSign_4 : decode cX2_isSign 4 = .ok (.aload_n 0, 1) := by decide +kernel
theorem dX2_isSign_5 : decode cX2_isSign 5 = .ok (.getfield 9, 3) := by decide +kernel
theorem dX2_isSign_8 : decode cX2_isSign 8 = .ok (.invokevirtual 81, 3) := by decide +kernel
theorem dX2_isSign_11 : decode cX2_isSign 11 = .ok (.iload_n 1, 1) := by decide +kernel
theorem dX2_isSign_12 : decode cX2_isSign 12 = .ok (.if_icmp .ne 7, 3) := by decide +kernel
theorem dX2_isSign_15 : decode cX2_isSign 15 = .ok (.iconst 1, 1) := by decide +kernel
theorem dX2_isSign_16 : decode cX2_isSign 16 = .ok (.goto 4, 3) := by decide +kernel
theorem dX2_isSign_19 : decode cX2_isSign 19 = .ok (.iconst 0, 1) := by decide +kernel
theorem dX2_isSign_20 : decode cX2_isSign 20 = .ok (.ireturn, 1) := by decide +kernel
theorem dX2_isWord_0 : decode cX2_isWord 0 = .ok (.aload_n 0, 1) := by decide +kernel
theorem dX2_isWord_1 : decode cX2_isWord 1 = .ok (.getfield 15, 3) := by decide +kernel
theorem dX2_isWord_4 : decode cX2_isWord 4 = .ok (.aload_n 0, 1) := by decide +kernel
theorem dX2_isWord_5 : decode cX2_isWord 5 = .ok (.getfield 9, 3) := by decide +kernel
theorem dX2_isWord_8 : decode cX2_isWord 8 = .ok (.isub, 1) := by decide +kernel
theorem dX2_isWord_9 : decode cX2_isWord 9 = .ok (.aload_n 1, 1) := by decide +kernel
theorem dX2_isWord_10 : decode cX2_isWord 10 = .ok (.invokevirtual 96, 3) := by decide +kernel
theorem dX2_isWord_13 : decode cX2_isWord 13 = .ok (.if_icmp .eq 5, 3) := by decide +kernel
theorem dX2_isWord_16 : decode cX2_isWord 16 = .ok (.iconst 0, 1) := by decide +kernel
theorem dX2_isWord_17 : decode cX2_isWord 17 = .ok (.ireturn, 1) := by decide +kernel
theorem dX2_isWord_18 : decode cX2_isWord 18 = .ok (.iconst 0, 1) := by decide +kernel
theorem dX2_isWord_19 : decode cX2_isWord 19 = .ok (.istore_n 2, 1) := by decide +kernel
theorem dX2_isWord_20 : decode cX2_isWord 20 = .ok (.iload_n 2, 1) := by decide +kernel
theorem dX2_isWord_21 : decode cX2_isWord 21 = .ok (.aload_n 1, 1) := by decide +kernel
theorem dX2_isWord_22 : decode cX2_isWord 22 = .ok (.invokevirtual 96, 3) := by decide +kernel
theorem dX2_isWord_25 : decode cX2_isWord 25 = .ok (.if_icmp .ge 32, 3) := by decide +kernel
theorem dX2_isWord_28 : decode cX2_isWord 28 = .ok (.aload_n 0, 1) := by decide +kernel
theorem dX2_isWord_29 : decode cX2_isWord 29 = .ok (.getfield 18, 3) := by decide +kernel
theorem dX2_isWord_32 : decode cX2_isWord 32 = .ok (.aload_n 0, 1) := by decide +kernel
theorem dX2_isWord_33 : decode cX2_isWord 33 = .ok (.getfield 9, 3) := by decide +kernel
theorem dX2_isWord_36 : decode cX2_isWord 36 = .ok (.iload_n 2, 1) := by decide +kernel
theorem dX2_isWord_37 : decode cX2_isWord 37 = .ok (.iadd, 1) := by decide +kernel
theorem dX2_isWord_38 : decode cX2_isWord 38 = .ok (.invokevirtual 81, 3) := by decide +kernel
theorem dX2_isWord_41 : decode cX2_isWord 41 = .ok (.aload_n 1, 1) := by decide +kernel
theorem dX2_isWord_42 : decode cX2_isWord 42 = .ok (.iload_n 2, 1) := by decide +kernel
theorem dX2_isWord_43 : decode cX2_isWord 43 = .ok (.invokevirtual 99, 3) := by decide +kernel
theorem dX2_isWord_46 : decode cX2_isWord 46 = .ok (.if_icmp .eq 5, 3) := by decide +kernel
theorem dX2_isWord_49 : decode cX2_isWord 49 = .ok (.iconst 0, 1) := by decide +kernel
theorem dX2_isWord_50 : decode cX2_isWord 50 = .ok (.ireturn, 1) := by decide +kernel
theorem dX2_isWord_51 : decode cX2_isWord 51 = .ok (.iinc 2 1, 3) := by decide +kernel
theorem dX2_isWord_54 : decode cX2_isWord 54 = .ok (.goto (-34), 3) := by decide +kernel
theorem dX2_isWord_57 : decode cX2_isWord 57 = .ok (.iconst 1, 1) := by decide +kernel
theorem dX2_isWord_58 : decode cX2_isWord 58 = .ok (.ireturn, 1) := by decide +kernel
theorem dX2_tableHere_0 : decode cX2_tableHere 0 = .ok (.aload_n 0, 1) := by decide +kernel
theorem dX2_tableHere_1 : decode cX2_tableHere 1 = .ok (.getfield 18, 3) := by decide +kernel
theorem dX2_tableHere_4 : decode cX2_tableHere 4 = .ok (.aload_n 0, 1) := by decide +kernel
theorem dX2_tableHere_5 : decode cX2_tableHere 5 = .ok (.getfield 9, 3) := by decide +kernel
theorem dX2_tableHere_8 : decode cX2_tableHere 8 = .ok (.invokevirtual 81, 3) := by decide +kernel
theorem dX2_tableHere_11 : decode cX2_tableHere 11 = .ok (.bipush 97, 2) := by decide +kernel
theorem dX2_tableHere_13 : decode cX2_tableHere 13 = .ok (.isub, 1) := by decide +kernel
theorem dX2_tableHere_14 : decode cX2_tableHere 14 = .ok (.istore_n 1, 1) := by decide +kernel
theorem dX2_tableHere_15 : decode cX2_tableHere 15 = .ok (.aload_n 0, 1) := by decide +kernel
theorem dX2_tableHere_16 : decode cX2_tableHere 16 = .ok (.getfield 15, 3) := by decide +kernel
theorem dX2_tableHere_19 : decode cX2_tableHere 19 = .ok (.aload_n 0, 1) := by decide +kernel
theorem dX2_tableHere_20 : decode cX2_tableHere 20 = .ok (.getfield 9, 3) := by decide +kernel
theorem dX2_tableHere_23 : decode cX2_tableHere 23 = .ok (.isub, 1) := by decide +kernel
theorem dX2_tableHere_24 : decode cX2_tableHere 24 = .ok (.iconst 1, 1) := by decide +kernel
theorem dX2_tableHere_25 : decode cX2_tableHere 25 = .ok (.if_icmp .ne 16, 3) := by decide +kernel
theorem dX2_tableHere_28 : decode cX2_tableHere 28 = .ok (.iload_n 1, 1) := by decide +kernel
theorem dX2_tableHere_29 : decode cX2_tableHere 29 = .ok (.ifCond .lt 12, 3) := by decide +kernel
theorem dX2_tableHere_32 : decode cX2_tableHere 32 = .ok (.iload_n 1, 1) := by decide +kernel
theorem dX2_tableHere_33 : decode cX2_tableHere 33 = .ok (.iconst 4, 1) := by decide +kernel
theorem dX2_tableHere_34 : decode cX2_tableHere 34 = .ok (.if_icmp .ge 7, 3) := by decide +kernel
theorem dX2_tableHere_37 : decode cX2_tableHere 37 = .ok (.iload_n 1, 1) := by decide +kernel
theorem dX2_tableHere_38 : decode cX2_tableHere 38 = .ok (.goto 4, 3) := by decide +kernel
theorem dX2_tableHere_41 : decode cX2_tableHere 41 = .ok (.iconst (-1), 1) := by decide +kernel
theorem dX2_tableHere_42 : decode cX2_tableHere 42 = .ok (.ireturn, 1) := by decide +kernel
theorem dX2_referenceHere_0 : decode cX2_referenceHere 0 = .ok (.aload_n 0, 1) := by decide +kernel
theorem dX2_referenceHere_1 : decode cX2_referenceHere 1 = .ok (.getfield 9, 3) := by decide +kernel
theorem dX2_referenceHere_4 : decode cX2_referenceHere 4 = .ok (.istore_n 1, 1) := by decide +kernel
theorem dX2_referenceHere_5 : decode cX2_referenceHere 5 = .ok (.iload_n 1, 1) := by decide +kernel
theorem dX2_referenceHere_6 : decode cX2_referenceHere 6 = .ok (.aload_n 0, 1) := by decide +kernel
theorem dX2_referenceHere_7 : decode cX2_referenceHere 7 = .ok (.getfield 15, 3) := by decide +kernel
theorem dX2_referenceHere_10 : decode cX2_referenceHere 10 = .ok (.iconst 1, 1) := by decide +kernel
theorem dX2_referenceHere_11 : decode cX2_referenceHere 11 = .ok (.isub, 1) := by decide +kernel
theorem dX2_referenceHere_12 : decode cX2_referenceHere 12 = .ok (.if_icmp .ge 31, 3) := by decide +kernel
theorem dX2_referenceHere_15 : decode cX2_referenceHere 15 = .ok (.iload_n 1, 1) := by decide +kernel
theorem dX2_referenceHere_16 : decode cX2_referenceHere 16 = .ok (.sipush 200, 3) := by decide +kernel
theorem dX2_referenceHere_19 : decode cX2_referenceHere 19 = .ok (.if_icmp .ge 24, 3) := by decide +kernel
theorem dX2_referenceHere_22 : decode cX2_referenceHere 22 = .ok (.aload_n 0, 1) := by decide +kernel
theorem dX2_referenceHere_23 : decode cX2_referenceHere 23 = .ok (.getfield 18, 3) := by decide +kernel
theorem dX2_referenceHere_26 : decode cX2_referenceHere 26 = .ok (.iload_n 1, 1) := by decide +kernel
theorem dX2_referenceHere_27 : decode cX2_referenceHere 27 = .ok (.invokevirtual 81, 3) := by decide +kernel
theorem dX2_referenceHere_30 : decode cX2_referenceHere 30 = .ok (.bipush 48, 2) := by decide +kernel
theorem dX2_referenceHere_32 : decode cX2_referenceHere 32 = .ok (.if_icmp .eq 5, 3) := by decide +kernel
theorem dX2_referenceHere_35 : decode cX2_referenceHere 35 = .ok (.iconst (-1), 1) := by decide +kernel
theorem dX2_referenceHere_36 : decode cX2_referenceHere 36 = .ok (.ireturn, 1) := by decide +kernel
theorem dX2_referenceHere_37 : decode cX2_referenceHere 37 = .ok (.iinc 1 1, 3) := by decide +kernel
theorem dX2_referenceHere_40 : decode cX2_referenceHere 40 = .ok (.goto (-35), 3) := by decide +kernel
theorem dX2_referenceHere_43 : decode cX2_referenceHere 43 = .ok (.aload_n 0, 1) := by decide +kernel
theorem dX2_referenceHere_44 : decode cX2_referenceHere 44 = .ok (.getfield 18, 3) := by decide +kernel
theorem dX2_referenceHere_47 : decode cX2_referenceHere 47 = .ok (.aload_n 0, 1) := by decide +kernel
theorem dX2_referenceHere_48 : decode cX2_referenceHere 48 = .ok (.getfield 15, 3) := by decide +kernel
theorem dX2_referenceHere_51 : decode cX2_referenceHere 51 = .ok (.iconst 1, 1) := by decide +kernel
theorem dX2_referenceHere_52 : decode cX2_referenceHere 52 = .ok (.isub, 1) := by decide +kernel
theorem dX2_referenceHere_53 : decode cX2_referenceHere 53 = .ok (.invokevirtual 81, 3) := by decide +kernel
theorem dX2_referenceHere_56 : decode cX2_referenceHere 56 = .ok (.bipush 48, 2) := by decide +kernel
theorem dX2_referenceHere_58 : decode cX2_referenceHere 58 = .ok (.isub, 1) := by decide +kernel
theorem dX2_referenceHere_59 : decode cX2_referenceHere 59 = .ok (.istore_n 1, 1) := by decide +kernel
theorem dX2_referenceHere_60 : decode cX2_referenceHere 60 = .ok (.aload_n 0, 1) := by decide +kernel
theorem dX2_referenceHere_61 : decode cX2_referenceHere 61 = .ok (.getfield 18, 3) := by decide +kernel
theorem dX2_referenceHere_64 : decode cX2_referenceHere 64 = .ok (.aload_n 0, 1) := by decide +kernel
theorem dX2_referenceHere_65 : decode cX2_referenceHere 65 = .ok (.getfield 9, 3) := by decide +kernel
theorem dX2_referenceHere_68 : decode cX2_referenceHere 68 = .ok (.invokevirtual 81, 3) := by decide +kernel
theorem dX2_referenceHere_71 : decode cX2_referenceHere 71 = .ok (.invokestatic 90, 3) := by decide +kernel
theorem dX2_referenceHere_74 : decode cX2_referenceHere 74 = .ok (.ifCond .eq 16, 3) := by decide +kernel
theorem dX2_referenceHere_77 : decode cX2_referenceHere 77 = .ok (.iload_n 1, 1) := by decide +kernel
theorem dX2_referenceHere_78 : decode cX2_referenceHere 78 = .ok (.ifCond .eq 8, 3) := by decide +kernel
theorem dX2_referenceHere_81 : decode cX2_referenceHere 81 = .ok (.iload_n 1, 1) := by decide +kernel
theorem dX2_referenceHere_82 : decode cX2_referenceHere 82 = .ok (.iconst 1, 1) := by decide +kernel
theorem dX2_referenceHere_83 : decode cX2_referenceHere 83 = .ok (.if_icmp .ne 7, 3) := by decide +kernel
theorem dX2_referenceHere_86 : decode cX2_referenceHere 86 = .ok (.iload_n 1, 1) := by decide +kernel
theorem dX2_referenceHere_87 : decode cX2_referenceHere 87 = .ok (.goto 4, 3) := by decide +kernel
theorem dX2_referenceHere_90 : decode cX2_referenceHere 90 = .ok (.iconst (-1), 1) := by decide +kernel
theorem dX2_referenceHere_91 : decode cX2_referenceHere 91 = .ok (.ireturn, 1) := by decide +kernel
theorem dX8_init_0 : decode cX8_init 0 = .ok (.aload_n 0, 1) := by decide +kernel
theorem dX8_init_1 : decode cX8_init 1 = .ok (.invokespecial 3, 3) := by decide +kernel
theorem dX8_init_4 : decode cX8_init 4 = .ok (.aload_n 0, 1) := by decide +kernel
theorem dX8_init_5 : decode cX8_init 5 = .ok (.new 9, 3) := by decide +kernel
theorem dX8_init_8 : decode cX8_init 8 = .ok (.dup, 1) := by decide +kernel
theorem dX8_init_9 : decode cX8_init 9 = .ok (.invokespecial 11, 3) := by decide +kernel
theorem dX8_init_12 : decode cX8_init 12 = .ok (.putfield 12, 3) := by decide +kernel
theorem dX8_init_15 : decode cX8_init 15 = .ok (.aload_n 0, 1) := by decide +kernel
theorem dX8_init_16 : decode cX8_init 16 = .ok (.new 16, 3) := by decide +kernel
theorem dX8_init_19 : decode cX8_init 19 = .ok (.dup, 1) := by decide +kernel
theorem dX8_init_20 : decode cX8_init 20 = .ok (.invokespecial 18, 3) := by decide +kernel
theorem dX8_init_23 : decode cX8_init 23 = .ok (.putfield 19, 3) := by decide +kernel
theorem dX8_init_26 : decode cX8_init 26 = .ok (.aload_n 0, 1) := by decide +kernel
theorem dX8_init_27 : decode cX8_init 27 = .ok (.new 23, 3) := by decide +kernel
theorem dX8_init_30 : decode cX8_init 30 = .ok (.dup, 1) := by decide +kernel
theorem dX8_init_31 : decode cX8_init 31 = .ok (.invokespecial 25, 3) := by decide +kernel
theorem dX8_init_34 : decode cX8_init 34 = .ok (.putfield 26, 3) := by decide +kernel
theorem dX8_init_37 : decode cX8_init 37 = .ok (.aload_n 0, 1) := by decide +kernel
theorem dX8_init_38 : decode cX8_init 38 = .ok (.bipush 10, 2) := by decide +kernel
theorem dX8_init_40 : decode cX8_init 40 = .ok (.anewarray 30, 3) := by decide +kernel
theorem dX8_init_43 : decode cX8_init 43 = .ok (.putfield 32, 3) := by decide +kernel
theorem dX8_init_46 : decode cX8_init 46 = .ok (.aload_n 0, 1) := by decide +kernel
theorem dX8_init_47 : decode cX8_init 47 = .ok (.new 36, 3) := by decide +kernel
theorem dX8_init_50 : decode cX8_init 50 = .ok (.dup, 1) := by decide +kernel
theorem dX8_init_51 : decode cX8_init 51 = .ok (.invokespecial 38, 3) := by decide +kernel
theorem dX8_init_54 : decode cX8_init 54 = .ok (.putfield 39, 3) := by decide +kernel
theorem dX8_init_57 : decode cX8_init 57 = .ok (.aload_n 0, 1) := by decide +kernel
theorem dX8_init_58 : decode cX8_init 58 = .ok (.iconst 0, 1) := by decide +kernel
theorem dX8_init_59 : decode cX8_init 59 = .ok (.putfield 43, 3) := by decide +kernel
theorem dX8_init_62 : decode cX8_init 62 = .ok (.aload_n 0, 1) := by decide +kernel
theorem dX8_init_63 : decode cX8_init 63 = .ok (.iconst 0, 1) := by decide +kernel
theorem dX8_init_64 : decode cX8_init 64 = .ok (.putfield 47, 3) := by decide +kernel
theorem dX8_init_67 : decode cX8_init 67 = .ok (.aload_n 0, 1) := by decide +kernel
theorem dX8_init_68 : decode cX8_init 68 = .ok (.iconst (-1), 1) := by decide +kernel
theorem dX8_init_69 : decode cX8_init 69 = .ok (.putfield 50, 3) := by decide +kernel
theorem dX8_init_72 : decode cX8_init 72 = .ok (.aload_n 0, 1) := by decide +kernel
theorem dX8_init_73 : decode cX8_init 73 = .ok (.iconst 0, 1) := by decide +kernel
theorem dX8_init_74 : decode cX8_init 74 = .ok (.putfield 53, 3) := by decide +kernel
theorem dX8_init_77 : decode cX8_init 77 = .ok (.aload_n 0, 1) := by decide +kernel
theorem dX8_init_78 : decode cX8_init 78 = .ok (.new 36, 3) := by decide +kernel
theorem dX8_init_81 : decode cX8_init 81 = .ok (.dup, 1) := by decide +kernel
theorem dX8_init_82 : decode cX8_init 82 = .ok (.invokespecial 38, 3) := by decide +kernel
theorem dX8_init_85 : decode cX8_init 85 = .ok (.putfield 56, 3) := by decide +kernel
theorem dX8_init_88 : decode cX8_init 88 = .ok (.aload_n 0, 1) := by decide +kernel
theorem dX8_init_89 : decode cX8_init 89 = .ok (.new 9, 3) := by decide +kernel
theorem dX8_init_92 : decode cX8_init 92 = .ok (.dup, 1) := by decide +kernel
theorem dX8_init_93 : decode cX8_init 93 = .ok (.invokespecial 11, 3) := by decide +kernel
theorem dX8_init_96 : decode cX8_init 96 = .ok (.putfield 59, 3) := by decide +kernel
theorem dX8_init_99 : decode cX8_init 99 = .ok (.aload_n 0, 1) := by decide +kernel
theorem dX8_init_100 : decode cX8_init 100 = .ok (.new 62, 3) := by decide +kernel
theorem dX8_init_103 : decode cX8_init 103 = .ok (.dup, 1) := by decide +kernel
theorem dX8_init_104 : decode cX8_init 104 = .ok (.invokespecial 64, 3) := by decide +kernel
theorem dX8_init_107 : decode cX8_init 107 = .ok (.putfield 65, 3) := by decide +kernel
theorem dX8_init_110 : decode cX8_init 110 = .ok (.aload_n 0, 1) := by decide +kernel
theorem dX8_init_111 : decode cX8_init 111 = .ok (.new 62, 3) := by decide +kernel
theorem dX8_init_114 : decode cX8_init 114 = .ok (.dup, 1) := by decide +kernel
theorem dX8_init_115 : decode cX8_init 115 = .ok (.invokespecial 64, 3) := by decide +kernel
theorem dX8_init_118 : decode cX8_init 118 = .ok (.putfield 69, 3) := by decide +kernel
theorem dX8_init_121 : decode cX8_init 121 = .ok (.return_, 1) := by decide +kernel
theorem dX8_row_0 : decode cX8_row 0 = .ok (.iload_n 1, 1) := by decide +kernel
theorem dX8_row_1 : decode cX8_row 1 = .ok (.ifCond .lt 15, 3) := by decide +kernel
theorem dX8_row_4 : decode cX8_row 4 = .ok (.iload_n 1, 1) := by decide +kernel
theorem dX8_row_5 : decode cX8_row 5 = .ok (.iconst 4, 1) := by decide +kernel
theorem dX8_row_6 : decode cX8_row 6 = .ok (.if_icmp .ge 10, 3) := by decide +kernel
theorem dX8_row_9 : decode cX8_row 9 = .ok (.iload_n 2, 1) := by decide +kernel
theorem dX8_row_10 : decode cX8_row 10 = .ok (.invokestatic 72, 3) := by decide +kernel
theorem dX8_row_13 : decode cX8_row 13 = .ok (.ifCond .ne 9, 3) := by decide +kernel
theorem dX8_row_16 : decode cX8_row 16 = .ok (.aload_n 0, 1) := by decide +kernel
theorem dX8_row_17 : decode cX8_row 17 = .ok (.iconst (-1), 1) := by decide +kernel
theorem dX8_row_18 : decode cX8_row 18 = .ok (.invokevirtual 76, 3) := by decide +kernel
theorem dX8_row_21 : decode cX8_row 21 = .ok (.ireturn, 1) := by decide +kernel
theorem dX8_row_22 : decode cX8_row 22 = .ok (.aload_n 0, 1) := by decide +kernel
theorem dX8_row_23 : decode cX8_row 23 = .ok (.iload_n 3, 1) := by decide +kernel
theorem dX8_row_24 : decode cX8_row 24 = .ok (.invokevirtual 80, 3) := by decide +kernel
theorem dX8_row_27 : decode cX8_row 27 = .ok (.ifCond .eq 12, 3) := by decide +kernel
theorem dX8_row_30 : decode cX8_row 30 = .ok (.aload_n 0, 1) := by decide +kernel
theorem dX8_row_31 : decode cX8_row 31 = .ok (.iload 4, 2) := by decide +kernel
theorem dX8_row_33 : decode cX8_row 33 = .ok (.invokevirtual 80, 3) := by decide +kernel
theorem dX8_row_36 : decode cX8_row 36 = .ok (.ifCond .ne 10, 3) := by decide +kernel
theorem dX8_row_39 : decode cX8_row 39 = .ok (.aload_n 0, 1) := by decide +kernel
theorem dX8_row_40 : decode cX8_row 40 = .ok (.bipush (-2), 2) := by decide +kernel
theorem dX8_row_42 : decode cX8_row 42 = .ok (.invokevirtual 76, 3) := by decide +kernel
theorem dX8_row_45 : decode cX8_row 45 = .ok (.ireturn, 1) := by decide +kernel
theorem dX8_row_46 : decode cX8_row 46 = .ok (.aload_n 0, 1) := by decide +kernel
theorem dX8_row_47 : decode cX8_row 47 = .ok (.getfield 12, 3) := by decide +kernel
theorem dX8_row_50 : decode cX8_row 50 = .ok (.invokevirtual 83, 3) := by decide +kernel
theorem dX8_row_53 : decode cX8_row 53 = .ok (.ifCond .ne 13, 3) := by decide +kernel
theorem dX8_row_56 : decode cX8_row 56 = .ok (.aload_n 0, 1) := by decide +kernel
theorem dX8_row_57 : decode cX8_row 57 = .ok (.getfield 19, 3) := by decide +kernel
theorem dX8_row_60 : decode cX8_row 60 = .ok (.invokevirtual 87, 3) := by decide +kernel
theorem dX8_row_63 : decode cX8_row 63 = .ok (.ifCond .eq 10, 3) := by decide +kernel
theorem dX8_row_66 : decode cX8_row 66 = .ok (.aload_n 0, 1) := by decide +kernel
theorem dX8_row_67 : decode cX8_row 67 = .ok (.bipush (-5), 2) := by decide +kernel
theorem dX8_row_69 : decode cX8_row 69 = .ok (.invokevirtual 76, 3) := by decide +kernel
theorem dX8_row_72 : decode cX8_row 72 = .ok (.ireturn, 1) := by decide +kernel
theorem dX8_row_73 : decode cX8_row 73 = .ok (.aload_n 0, 1) := by decide +kernel
theorem dX8_row_74 : decode cX8_row 74 = .ok (.getfield 12, 3) := by decide +kernel
theorem dX8_row_77 : decode cX8_row 77 = .ok (.invokevirtual 88, 3) := by decide +kernel
theorem dX8_row_80 : decode cX8_row 80 = .ok (.istore 5, 2) := by decide +kernel
theorem dX8_row_82 : decode cX8_row 82 = .ok (.aload_n 0, 1) := by decide +kernel
theorem dX8_row_83 : decode cX8_row 83 = .ok (.new 92, 3) := by decide +kernel
theorem dX8_row_86 : decode cX8_row 86 = .ok (.dup, 1) := by decide +kernel
theorem dX8_row_87 : decode cX8_row 87 = .ok (.iload 5, 2) := by decide +kernel
theorem dX8_row_89 : decode cX8_row 89 = .ok (.iload_n 1, 1) := by decide +kernel
theorem dX8_row_90 : decode cX8_row 90 = .ok (.iload_n 2, 1) := by decide +kernel
theorem dX8_row_91 : decode cX8_row 91 = .ok (.iload_n 3, 1) := by decide +kernel
theorem dX8_row_92 : decode cX8_row 92 = .ok (.iload 4, 2) := by decide +kernel
theorem dX8_row_94 : decode cX8_row 94 = .ok (.iconst 1, 1) := by decide +kernel
theorem dX8_row_95 : decode cX8_row 95 = .ok (.invokespecial 94, 3) := by decide +kernel
theorem dX8_row_98 : decode cX8_row 98 = .ok (.invokevirtual 97, 3) := by decide +kernel
theorem dX8_row_101 : decode cX8_row 101 = .ok (.aload_n 0, 1) := by decide +kernel
theorem dX8_row_102 : decode cX8_row 102 = .ok (.iload 5, 2) := by decide +kernel
theorem dX8_row_104 : decode cX8_row 104 = .ok (.invokevirtual 101, 3) := by decide +kernel
theorem dX8_row_107 : decode cX8_row 107 = .ok (.ireturn, 1) := by decide +kernel
theorem dX8_value_0 : decode cX8_value 0 = .ok (.iload_n 2, 1) := by decide +kernel
theorem dX8_value_1 : decode cX8_value 1 = .ok (.invokestatic 72, 3) := by decide +kernel
theorem dX8_value_4 : decode cX8_value 4 = .ok (.ifCond .ne 9, 3) := by decide +kernel
theorem dX8_value_7 : decode cX8_value 7 = .ok (.aload_n 0, 1) := by decide +kernel
theorem dX8_value_8 : decode cX8_value 8 = .ok (.iconst (-1), 1) := by decide +kernel
theorem dX8_value_9 : decode cX8_value 9 = .ok (.invokevirtual 76, 3) := by decide +kernel
theorem dX8_value_12 : decode cX8_value 12 = .ok (.ireturn, 1) := by decide +kernel
theorem dX8_value_13 : decode cX8_value 13 = .ok (.aload_n 0, 1) := by decide +kernel
theorem dX8_value_14 : decode cX8_value 14 = .ok (.getfield 12, 3) := by decide +kernel
theorem dX8_value_17 : decode cX8_value 17 = .ok (.iload_n 1, 1) := by decide +kernel
theorem dX8_value_18 : decode cX8_value 18 = .ok (.invokevirtual 104, 3) := by decide +kernel
theorem dX8_value_21 : decode cX8_value 21 = .ok (.astore_n 3, 1) := by decide +kernel
theorem dX8_value_22 : decode cX8_value 22 = .ok (.aload_n 3, 1) := by decide +kernel
theorem dX8_value_23 : decode cX8_value 23 = .ok (.ifnonnull 10, 3) := by decide +kernel
theorem dX8_value_26 : decode cX8_value 26 = .ok (.aload_n 0, 1) := by decide +kernel
theorem dX8_value_27 : decode cX8_value 27 = .ok (.bipush (-2), 2) := by decide +kernel
theorem dX8_value_29 : decode cX8_value 29 = .ok (.invokevirtual 76, 3) := by decide +kernel
theorem dX8_value_32 : decode cX8_value 32 = .ok (.ireturn, 1) := by decide +kernel
theorem dX8_value_33 : decode cX8_value 33 = .ok (.aload_n 0, 1) := by decide +kernel
theorem dX8_value_34 : decode cX8_value 34 = .ok (.getfield 19, 3) := by decide +kernel
theorem dX8_value_37 : decode cX8_value 37 = .ok (.invokevirtual 87, 3) := by decide +kernel
theorem dX8_value_40 : decode cX8_value 40 = .ok (.ifCond .eq 10, 3) := by decide +kernel
theorem dX8_value_43 : decode cX8_value 43 = .ok (.aload_n 0, 1) := by decide +kernel
theorem dX8_value_44 : decode cX8_value 44 = .ok (.bipush (-5), 2) := by decide +kernel
theorem dX8_value_46 : decode cX8_value 46 = .ok (.invokevirtual 76, 3) := by decide +kernel
theorem dX8_value_49 : decode cX8_value 49 = .ok (.ireturn, 1) := by decide +kernel
theorem dX8_value_50 : decode cX8_value 50 = .ok (.aload_n 0, 1) := by decide +kernel
theorem dX8_value_51 : decode cX8_value 51 = .ok (.aload_n 3, 1) := by decide +kernel
theorem dX8_value_52 : decode cX8_value 52 = .ok (.iload_n 2, 1) := by decide +kernel
theorem dX8_value_53 : decode cX8_value 53 = .ok (.invokevirtual 108, 3) := by decide +kernel
theorem dX8_value_56 : decode cX8_value 56 = .ok (.invokevirtual 97, 3) := by decide +kernel
theorem dX8_value_59 : decode cX8_value 59 = .ok (.aload_n 0, 1) := by decide +kernel
theorem dX8_value_60 : decode cX8_value 60 = .ok (.aload_n 3, 1) := by decide +kernel
theorem dX8_value_61 : decode cX8_value 61 = .ok (.getfield 111, 3) := by decide +kernel
theorem dX8_value_64 : decode cX8_value 64 = .ok (.invokevirtual 101, 3) := by decide +kernel
theorem dX8_value_67 : decode cX8_value 67 = .ok (.ireturn, 1) := by decide +kernel
theorem dX8_refer_0 : decode cX8_refer 0 = .ok (.iload_n 2, 1) := by decide +kernel
theorem dX8_refer_1 : decode cX8_refer 1 = .ok (.ifCond .eq 14, 3) := by decide +kernel
theorem dX8_refer_4 : decode cX8_refer 4 = .ok (.iload_n 2, 1) := by decide +kernel
theorem dX8_refer_5 : decode cX8_refer 5 = .ok (.iconst 1, 1) := by decide +kernel
theorem dX8_refer_6 : decode cX8_refer 6 = .ok (.if_icmp .eq 9, 3) := by decide +kernel
theorem dX8_refer_9 : decode cX8_refer 9 = .ok (.aload_n 0, 1) := by decide +kernel
theorem dX8_refer_10 : decode cX8_refer 10 = .ok (.iconst (-1), 1) := by decide +kernel
theorem dX8_refer_11 : decode cX8_refer 11 = .ok (.invokevirtual 76, 3) := by decide +kernel
theorem dX8_refer_14 : decode cX8_refer 14 = .ok (.ireturn, 1) := by decide +kernel
theorem dX8_refer_15 : decode cX8_refer 15 = .ok (.aload_n 0, 1) := by decide +kernel
theorem dX8_refer_16 : decode cX8_refer 16 = .ok (.getfield 12, 3) := by decide +kernel
theorem dX8_refer_19 : decode cX8_refer 19 = .ok (.iload_n 1, 1) := by decide +kernel
theorem dX8_refer_20 : decode cX8_refer 20 = .ok (.invokevirtual 104, 3) := by decide +kernel
theorem dX8_refer_23 : decode cX8_refer 23 = .ok (.astore 4, 2) := by decide +kernel
theorem dX8_refer_25 : decode cX8_refer 25 = .ok (.aload 4, 2) := by decide +kernel
theorem dX8_refer_27 : decode cX8_refer 27 = .ok (.ifnull 11, 3) := by decide +kernel
theorem dX8_refer_30 : decode cX8_refer 30 = .ok (.aload_n 0, 1) := by decide +kernel
theorem dX8_refer_31 : decode cX8_refer 31 = .ok (.iload_n 3, 1) := by decide +kernel
theorem dX8_refer_32 : decode cX8_refer 32 = .ok (.invokevirtual 80, 3) := by decide +kernel
theorem dX8_refer_35 : decode cX8_refer 35 = .ok (.ifCond .ne 10, 3) := by decide +kernel
theorem dX8_refer_38 : decode cX8_refer 38 = .ok (.aload_n 0, 1) := by decide +kernel
theorem dX8_refer_39 : decode cX8_refer 39 = .ok (.bipush (-2), 2) := by decide +kernel
theorem dX8_refer_41 : decode cX8_refer 41 = .ok (.invokevirtual 76, 3) := by decide +kernel
theorem dX8_refer_44 : decode cX8_refer 44 = .ok (.ireturn, 1) := by decide +kernel
theorem dX8_refer_45 : decode cX8_refer 45 = .ok (.aload_n 0, 1) := by decide +kernel
theorem dX8_refer_46 : decode cX8_refer 46 = .ok (.getfield 19, 3) := by decide +kernel
theorem dX8_refer_49 : decode cX8_refer 49 = .ok (.invokevirtual 87, 3) := by decide +kernel
theorem dX8_refer_52 : decode cX8_refer 52 = .ok (.ifCond .eq 10, 3) := by decide +kernel
theorem dX8_refer_55 : decode cX8_refer 55 = .ok (.aload_n 0, 1) := by decide +kernel
theorem dX8_refer_56 : decode cX8_refer 56 = .ok (.bipush (-5), 2) := by decide +kernel
theorem dX8_refer_58 : decode cX8_refer 58 = .ok (.invokevirtual 76, 3) := by decide +kernel
theorem dX8_refer_61 : decode cX8_refer 61 = .ok (.ireturn, 1) := by decide +kernel
theorem dX8_refer_62 : decode cX8_refer 62 = .ok (.aload_n 0, 1) := by decide +kernel
theorem dX8_refer_63 : decode cX8_refer 63 = .ok (.aload 4, 2) := by decide +kernel
theorem dX8_refer_65 : decode cX8_refer 65 = .ok (.iload_n 2, 1) := by decide +kernel
theorem dX8_refer_66 : decode cX8_refer 66 = .ok (.iload_n 3, 1) := by decide +kernel
theorem dX8_refer_67 : decode cX8_refer 67 = .ok (.invokevirtual 114, 3) := by decide +kernel
theorem dX8_refer_70 : decode cX8_refer 70 = .ok (.invokevirtual 97, 3) := by decide +kernel
theorem dX8_refer_73 : decode cX8_refer 73 = .ok (.aload_n 0, 1) := by decide +kernel
theorem dX8_refer_74 : decode cX8_refer 74 = .ok (.iconst 0, 1) := by decide +kernel
theorem dX8_refer_75 : decode cX8_refer 75 = .ok (.invokevirtual 101, 3) := by decide +kernel
theorem dX8_refer_78 : decode cX8_refer 78 = .ok (.ireturn, 1) := by decide +kernel
theorem dX8_go_0 : decode cX8_go 0 = .ok (.aload_n 0, 1) := by decide +kernel
theorem dX8_go_1 : decode cX8_go 1 = .ok (.getfield 12, 3) := by decide +kernel
theorem dX8_go_4 : decode cX8_go 4 = .ok (.iload_n 1, 1) := by decide +kernel
theorem dX8_go_5 : decode cX8_go 5 = .ok (.invokevirtual 104, 3) := by decide +kernel
theorem dX8_go_8 : decode cX8_go 8 = .ok (.astore_n 2, 1) := by decide +kernel
theorem dX8_go_9 : decode cX8_go 9 = .ok (.aload_n 2, 1) := by decide +kernel
theorem dX8_go_10 : decode cX8_go 10 = .ok (.ifnonnull 10, 3) := by decide +kernel
theorem dX8_go_13 : decode cX8_go 13 = .ok (.aload_n 0, 1) := by decide +kernel
theorem dX8_go_14 : decode cX8_go 14 = .ok (.bipush (-2), 2) := by decide +kernel
theorem dX8_go_16 : decode cX8_go 16 = .ok (.invokevirtual 76, 3) := by decide +kernel
theorem dX8_go_19 : decode cX8_go 19 = .ok (.ireturn, 1) := by decide +kernel
theorem dX8_go_20 : decode cX8_go 20 = .ok (.aload_n 0, 1) := by decide +kernel
theorem dX8_go_21 : decode cX8_go 21 = .ok (.getfield 19, 3) := by decide +kernel
theorem dX8_go_24 : decode cX8_go 24 = .ok (.invokevirtual 87, 3) := by decide +kernel
theorem dX8_go_27 : decode cX8_go 27 = .ok (.ifCond .eq 10, 3) := by decide +kernel
theorem dX8_go_30 : decode cX8_go 30 = .ok (.aload_n 0, 1) := by decide +kernel
theorem dX8_go_31 : decode cX8_go 31 = .ok (.bipush (-5), 2) := by decide +kernel
theorem dX8_go_33 : decode cX8_go 33 = .ok (.invokevirtual 76, 3) := by decide +kernel
theorem dX8_go_36 : decode cX8_go 36 = .ok (.ireturn, 1) := by decide +kernel
theorem dX8_go_37 : decode cX8_go 37 = .ok (.aload_n 0, 1) := by decide +kernel
theorem dX8_go_38 : decode cX8_go 38 = .ok (.aload_n 2, 1) := by decide +kernel
theorem dX8_go_39 : decode cX8_go 39 = .ok (.invokevirtual 118, 3) := by decide +kernel
theorem dX8_go_42 : decode cX8_go 42 = .ok (.invokevirtual 97, 3) := by decide +kernel
theorem dX8_go_45 : decode cX8_go 45 = .ok (.aload_n 0, 1) := by decide +kernel
theorem dX8_go_46 : decode cX8_go 46 = .ok (.iconst 0, 1) := by decide +kernel
theorem dX8_go_47 : decode cX8_go 47 = .ok (.invokevirtual 101, 3) := by decide +kernel
theorem dX8_go_50 : decode cX8_go 50 = .ok (.ireturn, 1) := by decide +kernel
theorem dX8_of_0 : decode cX8_of 0 = .ok (.aload_n 0, 1) := by decide +kernel
theorem dX8_of_1 : decode cX8_of 1 = .ok (.getfield 12, 3) := by decide +kernel
theorem dX8_of_4 : decode cX8_of 4 = .ok (.iload_n 1, 1) := by decide +kernel
theorem dX8_of_5 : decode cX8_of 5 = .ok (.invokevirtual 122, 3) := by decide +kernel
theorem dX8_of_8 : decode cX8_of 8 = .ok (.astore_n 3, 1) := by decide +kernel
theorem dX8_of_9 : decode cX8_of 9 = .ok (.aload_n 3, 1) := by decide +kernel
theorem dX8_of_10 : decode cX8_of 10 = .ok (.ifnonnull 7, 3) := by decide +kernel
theorem dX8_of_13 : decode cX8_of 13 = .ok (.sipush (-5000), 3) := by decide +kernel
theorem dX8_of_16 : decode cX8_of 16 = .ok (.ireturn, 1) := by decide +kernel
theorem dX8_of_17 : decode cX8_of 17 = .ok (.iload_n 2, 1) := by decide +kernel
theorem dX8_of_18 : decode cX8_of 18 = .ok (.tableswitch 67 0 4 #[34, 39, 44, 49, 54], 34) := by decide +kernel
theorem dX8_of_52 : decode cX8_of 52 = .ok (.aload_n 3, 1) := by decide +kernel
theorem dX8_of_53 : decode cX8_of 53 = .ok (.getfield 125, 3) := by decide +kernel
theorem dX8_of_56 : decode cX8_of 56 = .ok (.ireturn, 1) := by decide +kernel
theorem dX8_of_57 : decode cX8_of 57 = .ok (.aload_n 3, 1) := by decide +kernel
theorem dX8_of_58 : decode cX8_of 58 = .ok (.getfield 111, 3) := by decide +kernel
theorem dX8_of_61 : decode cX8_of 61 = .ok (.ireturn, 1) := by decide +kernel
theorem dX8_of_62 : decode cX8_of 62 = .ok (.aload_n 3, 1) := by decide +kernel
theorem dX8_of_63 : decode cX8_of 63 = .ok (.getfield 128, 3) := by decide +kernel
theorem dX8_of_66 : decode cX8_of 66 = .ok (.ireturn, 1) := by decide +kernel
theorem dX8_of_67 : decode cX8_of 67 = .ok (.aload_n 3, 1) := by decide +kernel
theorem dX8_of_68 : decode cX8_of 68 = .ok (.getfield 131, 3) := by decide +kernel
theorem dX8_of_71 : decode cX8_of 71 = .ok (.ireturn, 1) := by decide +kernel
theorem dX8_of_72 : decode cX8_of 72 = .ok (.aload_n 3, 1) := by decide +kernel
theorem dX8_of_73 : decode cX8_of 73 = .ok (.getfield 134, 3) := by decide +kernel
theorem dX8_of_76 : decode cX8_of 76 = .ok (.ifCond .eq 7, 3) := by decide +kernel
theorem dX8_of_79 : decode cX8_of 79 = .ok (.iconst 1, 1) := by decide +kernel
theorem dX8_of_80 : decode cX8_of 80 = .ok (.goto 4, 3) := by decide +kernel
theorem dX8_of_83 : decode cX8_of 83 = .ok (.iconst 0, 1) := by decide +kernel
theorem dX8_of_84 : decode cX8_of 84 = .ok (.ireturn, 1) := by decide +kernel
theorem dX8_of_85 : decode cX8_of 85 = .ok (.sipush (-5000), 3) := by decide +kernel
theorem dX8_of_88 : decode cX8_of 88 = .ok (.ireturn, 1) := by decide +kernel
theorem dX8_feed_0 : decode cX8_feed 0 = .ok (.aload_n 0, 1) := by decide +kernel
theorem dX8_feed_1 : decode cX8_feed 1 = .ok (.getfield 26, 3) := by decide +kernel
theorem dX8_feed_4 : decode cX8_feed 4 = .ok (.invokevirtual 138, 3) := by decide +kernel
theorem dX8_feed_7 : decode cX8_feed 7 = .ok (.bipush 20, 2) := by decide +kernel
theorem dX8_feed_9 : decode cX8_feed 9 = .ok (.iadd, 1) := by decide +kernel
theorem dX8_feed_10 : decode cX8_feed 10 = .ok (.sipush 200, 3) := by decide +kernel
theorem dX8_feed_13 : decode cX8_feed 13 = .ok (.if_icmp .le 5, 3) := by decide +kernel
theorem dX8_feed_16 : decode cX8_feed 16 = .ok (.iconst (-1), 1) := by decide +kernel
theorem dX8_feed_17 : decode cX8_feed 17 = .ok (.ireturn, 1) := by decide +kernel
theorem dX8_feed_18 : decode cX8_feed 18 = .ok (.aload_n 0, 1) := by decide +kernel
theorem dX8_feed_19 : decode cX8_feed 19 = .ok (.getfield 26, 3) := by decide +kernel
theorem dX8_feed_22 : decode cX8_feed 22 = .ok (.iload_n 1, 1) := by decide +kernel
theorem dX8_feed_23 : decode cX8_feed 23 = .ok (.invokevirtual 141, 3) := by decide +kernel
theorem dX8_feed_26 : decode cX8_feed 26 = .ok (.aload_n 0, 1) := by decide +kernel
theorem dX8_feed_27 : decode cX8_feed 27 = .ok (.getfield 26, 3) := by decide +kernel
theorem dX8_feed_30 : decode cX8_feed 30 = .ok (.iload_n 2, 1) := by decide +kernel
theorem dX8_feed_31 : decode cX8_feed 31 = .ok (.invokevirtual 141, 3) := by decide +kernel
theorem dX8_feed_34 : decode cX8_feed 34 = .ok (.aload_n 0, 1) := by decide +kernel
theorem dX8_feed_35 : decode cX8_feed 35 = .ok (.getfield 26, 3) := by decide +kernel
theorem dX8_feed_38 : decode cX8_feed 38 = .ok (.iload_n 3, 1) := by decide +kernel
theorem dX8_feed_39 : decode cX8_feed 39 = .ok (.invokevirtual 141, 3) := by decide +kernel
theorem dX8_feed_42 : decode cX8_feed 42 = .ok (.aload_n 0, 1) := by decide +kernel
theorem dX8_feed_43 : decode cX8_feed 43 = .ok (.getfield 26, 3) := by decide +kernel
theorem dX8_feed_46 : decode cX8_feed 46 = .ok (.iload 4, 2) := by decide +kernel
theorem dX8_feed_48 : decode cX8_feed 48 = .ok (.invokevirtual 141, 3) := by decide +kernel
theorem dX8_feed_51 : decode cX8_feed 51 = .ok (.aload_n 0, 1) := by decide +kernel
theorem dX8_feed_52 : decode cX8_feed 52 = .ok (.getfield 26, 3) := by decide +kernel
theorem dX8_feed_55 : decode cX8_feed 55 = .ok (.iload 5, 2) := by decide +kernel
theorem dX8_feed_57 : decode cX8_feed 57 = .ok (.invokevirtual 141, 3) := by decide +kernel
theorem dX8_feed_60 : decode cX8_feed 60 = .ok (.aload_n 0, 1) := by decide +kernel
theorem dX8_feed_61 : decode cX8_feed 61 = .ok (.getfield 26, 3) := by decide +kernel
theorem dX8_feed_64 : decode cX8_feed 64 = .ok (.invokevirtual 138, 3) := by decide +kernel
theorem dX8_feed_67 : decode cX8_feed 67 = .ok (.ireturn, 1) := by decide +kernel
theorem dX8_end_0 : decode cX8_end 0 = .ok (.iload_n 1, 1) := by decide +kernel
theorem dX8_end_1 : decode cX8_end 1 = .ok (.ifCond .lt 14, 3) := by decide +kernel
theorem dX8_end_4 : decode cX8_end 4 = .ok (.iload_n 1, 1) := by decide +kernel
theorem dX8_end_5 : decode cX8_end 5 = .ok (.aload_n 0, 1) := by decide +kernel
theorem dX8_end_6 : decode cX8_end 6 = .ok (.getfield 26, 3) := by decide +kernel
theorem dX8_end_9 : decode cX8_end 9 = .ok (.invokevirtual 138, 3) := by decide +kernel
theorem dX8_end_12 : decode cX8_end 12 = .ok (.if_icmp .le 5, 3) := by decide +kernel
theorem dX8_end_15 : decode cX8_end 15 = .ok (.iconst (-1), 1) := by decide +kernel
theorem dX8_end_16 : decode cX8_end 16 = .ok (.ireturn, 1) := by decide +kernel
theorem dX8_end_17 : decode cX8_end 17 = .ok (.aload_n 0, 1) := by decide +kernel
theorem dX8_end_18 : decode cX8_end 18 = .ok (.getfield 26, 3) := by decide +kernel
theorem dX8_end_21 : decode cX8_end 21 = .ok (.iload_n 1, 1) := by decide +kernel
theorem dX8_end_22 : decode cX8_end 22 = .ok (.invokevirtual 145, 3) := by decide +kernel
theorem dX8_end_25 : decode cX8_end 25 = .ok (.iload_n 1, 1) := by decide +kernel
theorem dX8_end_26 : decode cX8_end 26 = .ok (.ireturn, 1) := by decide +kernel
theorem dX8_shape_0 : decode cX8_shape 0 = .ok (.aload_n 0, 1) := by decide +kernel
theorem dX8_shape_1 : decode cX8_shape 1 = .ok (.getfield 56, 3) := by decide +kernel
theorem dX8_shape_4 : decode cX8_shape 4 = .ok (.invokevirtual 148, 3) := by decide +kernel
theorem dX8_shape_7 : decode cX8_shape 7 = .ok (.new 151, 3) := by decide +kernel
theorem dX8_shape_10 : decode cX8_shape 10 = .ok (.dup, 1) := by decide +kernel
theorem dX8_shape_11 : decode cX8_shape 11 = .ok (.aload_n 0, 1) := by decide +kernel
theorem dX8_shape_12 : decode cX8_shape 12 = .ok (.getfield 26, 3) := by decide +kernel
theorem dX8_shape_15 : decode cX8_shape 15 = .ok (.aload_n 0, 1) := by decide +kernel
theorem dX8_shape_16 : decode cX8_shape 16 = .ok (.getfield 56, 3) := by decide +kernel
theorem dX8_shape_19 : decode cX8_shape 19 = .ok (.invokespecial 153, 3) := by decide +kernel
theorem dX8_shape_22 : decode cX8_shape 22 = .ok (.astore_n 1, 1) := by decide +kernel
theorem dX8_shape_23 : decode cX8_shape 23 = .ok (.aload_n 1, 1) := by decide +kernel
theorem dX8_shape_24 : decode cX8_shape 24 = .ok (.invokevirtual 156, 3) := by decide +kernel
theorem dX8_shape_27 : decode cX8_shape 27 = .ok (.istore_n 2, 1) := by decide +kernel
theorem dX8_shape_28 : decode cX8_shape 28 = .ok (.aload_n 0, 1) := by decide +kernel
theorem dX8_shape_29 : decode cX8_shape 29 = .ok (.iload_n 2, 1) := by decide +kernel
theorem dX8_shape_30 : decode cX8_shape 30 = .ok (.ifCond .eq 7, 3) := by decide +kernel
theorem dX8_shape_33 : decode cX8_shape 33 = .ok (.iconst (-1), 1) := by decide +kernel
theorem dX8_shape_34 : decode cX8_shape 34 = .ok (.goto 7, 3) := by decide +kernel
theorem dX8_shape_37 : decode cX8_shape 37 = .ok (.aload_n 1, 1) := by decide +kernel
theorem dX8_shape_38 : decode cX8_shape 38 = .ok (.invokevirtual 159, 3) := by decide +kernel
theorem dX8_shape_41 : decode cX8_shape 41 = .ok (.putfield 50, 3) := by decide +kernel
theorem dX8_shape_44 : decode cX8_shape 44 = .ok (.aload_n 0, 1) := by decide +kernel
theorem dX8_shape_45 : decode cX8_shape 45 = .ok (.getfield 26, 3) := by decide +kernel
theorem dX8_shape_48 : decode cX8_shape 48 = .ok (.iconst 0, 1) := by decide +kernel
theorem dX8_shape_49 : decode cX8_shape 49 = .ok (.invokevirtual 145, 3) := by decide +kernel
theorem dX8_shape_52 : decode cX8_shape 52 = .ok (.iload_n 2, 1) := by decide +kernel
theorem dX8_shape_53 : decode cX8_shape 53 = .ok (.ifCond .ne 10, 3) := by decide +kernel
theorem dX8_shape_56 : decode cX8_shape 56 = .ok (.aload_n 0, 1) := by decide +kernel
theorem dX8_shape_57 : decode cX8_shape 57 = .ok (.bipush (-6), 2) := by decide +kernel
theorem dX8_shape_59 : decode cX8_shape 59 = .ok (.invokevirtual 76, 3) := by decide +kernel
theorem dX8_shape_62 : decode cX8_shape 62 = .ok (.ireturn, 1) := by decide +kernel
theorem dX8_shape_63 : decode cX8_shape 63 = .ok (.aload_n 0, 1) := by decide +kernel
theorem dX8_shape_64 : decode cX8_shape 64 = .ok (.getfield 39, 3) := by decide +kernel
theorem dX8_shape_67 : decode cX8_shape 67 = .ok (.astore_n 3, 1) := by decide +kernel
theorem dX8_shape_68 : decode cX8_shape 68 = .ok (.aload_n 0, 1) := by decide +kernel
theorem dX8_shape_69 : decode cX8_shape 69 = .ok (.aload_n 0, 1) := by decide +kernel
theorem dX8_shape_70 : decode cX8_shape 70 = .ok (.getfield 56, 3) := by decide +kernel
theorem dX8_shape_73 : decode cX8_shape 73 = .ok (.putfield 39, 3) := by decide +kernel
theorem dX8_shape_76 : decode cX8_shape 76 = .ok (.aload_n 0, 1) := by decide +kernel
theorem dX8_shape_77 : decode cX8_shape 77 = .ok (.aload_n 3, 1) := by decide +kernel
theorem dX8_shape_78 : decode cX8_shape 78 = .ok (.putfield 56, 3) := by decide +kernel
theorem dX8_shape_81 : decode cX8_shape 81 = .ok (.aload_n 0, 1) := by decide +kernel
theorem dX8_shape_82 : decode cX8_shape 82 = .ok (.aload_n 0, 1) := by decide +kernel
theorem dX8_shape_83 : decode cX8_shape 83 = .ok (.getfield 39, 3) := by decide +kernel
theorem dX8_shape_86 : decode cX8_shape 86 = .ok (.invokevirtual 162, 3) := by decide +kernel
theorem dX8_shape_89 : decode cX8_shape 89 = .ok (.invokevirtual 101, 3) := by decide +kernel
theorem dX8_shape_92 : decode cX8_shape 92 = .ok (.ireturn, 1) := by decide +kernel
theorem dX8_fault_0 : decode cX8_fault 0 = .ok (.aload_n 0, 1) := by decide +kernel
theorem dX8_fault_1 : decode cX8_fault 1 = .ok (.getfield 50, 3) := by decide +kernel
theorem dX8_fault_4 : decode cX8_fault 4 = .ok (.ireturn, 1) := by decide +kernel
theorem dX8_size_0 : decode cX8_size 0 = .ok (.aload_n 0, 1) := by decide +kernel
theorem dX8_size_1 : decode cX8_size 1 = .ok (.getfield 65, 3) := by decide +kernel
theorem dX8_size_4 : decode cX8_size 4 = .ok (.aload_n 0, 1) := by decide +kernel
theorem dX8_size_5 : decode cX8_size 5 = .ok (.getfield 39, 3) := by decide +kernel
theorem dX8_size_8 : decode cX8_size 8 = .ok (.aload_n 0, 1) := by decide +kernel
theorem dX8_size_9 : decode cX8_size 9 = .ok (.getfield 12, 3) := by decide +kernel
theorem dX8_size_12 : decode cX8_size 12 = .ok (.iload_n 1, 1) := by decide +kernel
theorem dX8_size_13 : decode cX8_size 13 = .ok (.invokevirtual 165, 3) := by decide +kernel
theorem dX8_size_16 : decode cX8_size 16 = .ok (.aload_n 0, 1) := by decide +kernel
theorem dX8_size_17 : decode cX8_size 17 = .ok (.getfield 65, 3) := by decide +kernel
theorem dX8_size_20 : decode cX8_size 20 = .ok (.invokevirtual 169, 3) := by decide +kernel
theorem dX8_size_23 : decode cX8_size 23 = .ok (.ireturn, 1) := by decide +kernel
theorem dX8_mark_0 : decode cX8_mark 0 = .ok (.aload_n 0, 1) := by decide +kernel
theorem dX8_mark_1 : decode cX8_mark 1 = .ok (.getfield 65, 3) := by decide +kernel
theorem dX8_mark_4 : decode cX8_mark 4 = .ok (.aload_n 0, 1) := by decide +kernel
theorem dX8_mark_5 : decode cX8_mark 5 = .ok (.getfield 39, 3) := by decide +kernel
theorem dX8_mark_8 : decode cX8_mark 8 = .ok (.aload_n 0, 1) := by decide +kernel
theorem dX8_mark_9 : decode cX8_mark 9 = .ok (.getfield 12, 3) := by decide +kernel
theorem dX8_mark_12 : decode cX8_mark 12 = .ok (.iload_n 1, 1) := by decide +kernel
theorem dX8_mark_13 : decode cX8_mark 13 = .ok (.invokevirtual 165, 3) := by decide +kernel
theorem dX8_mark_16 : decode cX8_mark 16 = .ok (.aload_n 0, 1) := by decide +kernel
theorem dX8_mark_17 : decode cX8_mark 17 = .ok (.getfield 65, 3) := by decide +kernel
theorem dX8_mark_20 : decode cX8_mark 20 = .ok (.iload_n 2, 1) := by decide +kernel
theorem dX8_mark_21 : decode cX8_mark 21 = .ok (.invokevirtual 170, 3) := by decide +kernel
theorem dX8_mark_24 : decode cX8_mark 24 = .ok (.ireturn, 1) := by decide +kernel
theorem dX8_page_0 : decode cX8_page 0 = .ok (.iload 4, 2) := by decide +kernel
theorem dX8_page_2 : decode cX8_page 2 = .ok (.iconst (-1), 1) := by decide +kernel
theorem dX8_page_3 : decode cX8_page 3 = .ok (.if_icmp .ne 7, 3) := by decide +kernel
theorem dX8_page_6 : decode cX8_page 6 = .ok (.iconst 1, 1) := by decide +kernel
theorem dX8_page_7 : decode cX8_page 7 = .ok (.goto 4, 3) := by decide +kernel
theorem dX8_page_10 : decode cX8_page 10 = .ok (.iconst 0, 1) := by decide +kernel
theorem dX8_page_11 : decode cX8_page 11 = .ok (.istore 5, 2) := by decide +kernel
theorem dX8_page_13 : decode cX8_page 13 = .ok (.iload_n 2, 1) := by decide +kernel
theorem dX8_page_14 : decode cX8_page 14 = .ok (.iconst 1, 1) := by decide +kernel
theorem dX8_page_15 : decode cX8_page 15 = .ok (.if_icmp .lt 13, 3) := by decide +kernel
theorem dX8_page_18 : decode cX8_page 18 = .ok (.iload_n 2, 1) := by decide +kernel
theorem dX8_page_19 : decode cX8_page 19 = .ok (.bipush 100, 2) := by decide +kernel
theorem dX8_page_21 : decode cX8_page 21 = .ok (.if_icmp .gt 7, 3) := by decide +kernel
theorem dX8_page_24 : decode cX8_page 24 = .ok (.iload_n 3, 1) := by decide +kernel
theorem dX8_page_25 : decode cX8_page 25 = .ok (.ifCond .ge 16, 3) := by decide +kernel
theorem dX8_page_28 : decode cX8_page 28 = .ok (.iload 5, 2) := by decide +kernel
theorem dX8_page_30 : decode cX8_page 30 = .ok (.ifCond .eq 7, 3) := by decide +kernel
theorem dX8_page_33 : decode cX8_page 33 = .ok (.iconst 0, 1) := by decide +kernel
theorem dX8_page_34 : decode cX8_page 34 = .ok (.goto 6, 3) := by decide +kernel
theorem dX8_page_37 : decode cX8_page 37 = .ok (.sipush (-5000), 3) := by decide +kernel
theorem dX8_page_40 : decode cX8_page 40 = .ok (.ireturn, 1) := by decide +kernel
theorem dX8_page_41 : decode cX8_page 41 = .ok (.aload_n 0, 1) := by decide +kernel
theorem dX8_page_42 : decode cX8_page 42 = .ok (.getfield 65, 3) := by decide +kernel
theorem dX8_page_45 : decode cX8_page 45 = .ok (.aload_n 0, 1) := by decide +kernel
theorem dX8_page_46 : decode cX8_page 46 = .ok (.getfield 39, 3) := by decide +kernel
theorem dX8_page_49 : decode cX8_page 49 = .ok (.aload_n 0, 1) := by decide +kernel
theorem dX8_page_50 : decode cX8_page 50 = .ok (.getfield 12, 3) := by decide +kernel
theorem dX8_page_53 : decode cX8_page 53 = .ok (.iload_n 1, 1) := by decide +kernel
theorem dX8_page_54 : decode cX8_page 54 = .ok (.invokevirtual 165, 3) := by decide +kernel
theorem dX8_page_57 : decode cX8_page 57 = .ok (.iload_n 3, 1) := by decide +kernel
theorem dX8_page_58 : decode cX8_page 58 = .ok (.i2l, 1) := by decide +kernel
theorem dX8_page_59 : decode cX8_page 59 = .ok (.iload_n 2, 1) := by decide +kernel
theorem dX8_page_60 : decode cX8_page 60 = .ok (.i2l, 1) := by decide +kernel
theorem dX8_page_61 : decode cX8_page 61 = .ok (.lmul, 1) := by decide +kernel
theorem dX8_page_62 : decode cX8_page 62 = .ok (.lstore 6, 2) := by decide +kernel
theorem dX8_page_64 : decode cX8_page 64 = .ok (.lconst 0, 1) := by decide +kernel
theorem dX8_page_65 : decode cX8_page 65 = .ok (.iload_n 2, 1) := by decide +kernel
theorem dX8_page_66 : decode cX8_page 66 = .ok (.i2l, 1) := by decide +kernel
theorem dX8_page_67 : decode cX8_page 67 = .ok (.aload_n 0, 1) := by decide +kernel
theorem dX8_page_68 : decode cX8_page 68 = .ok (.getfield 65, 3) := by decide +kernel
theorem dX8_page_71 : decode cX8_page 71 = .ok (.invokevirtual 169, 3) := by decide +kernel
theorem dX8_page_74 : decode cX8_page 74 = .ok (.i2l, 1) := by decide +kernel
theorem dX8_page_75 : decode cX8_page 75 = .ok (.lload 6, 2) := by decide +kernel
theorem dX8_page_77 : decode cX8_page 77 = .ok (.lsub, 1) := by decide +kernel
theorem dX8_page_78 : decode cX8_page 78 = .ok (.invokestatic 172, 3) := by decide +kernel
theorem dX8_page_81 : decode cX8_page 81 = .ok (.invokestatic 178, 3) := by decide +kernel
theorem dX8_page_84 : decode cX8_page 84 = .ok (.lstore 8, 2) := by decide +kernel
theorem dX8_page_86 : decode cX8_page 86 = .ok (.iload 5, 2) := by decide +kernel
theorem dX8_page_88 : decode cX8_page 88 = .ok (.ifCond .eq 7, 3) := by decide +kernel
theorem dX8_page_91 : decode cX8_page 91 = .ok (.lload 8, 2) := by decide +kernel
theorem dX8_page_93 : decode cX8_page 93 = .ok (.l2i, 1) := by decide +kernel
theorem dX8_page_94 : decode cX8_page 94 = .ok (.ireturn, 1) := by decide +kernel
theorem dX8_page_95 : decode cX8_page 95 = .ok (.iload 4, 2) := by decide +kernel
theorem dX8_page_97 : decode cX8_page 97 = .ok (.ifCond .lt 28, 3) := by decide +kernel
theorem dX8_page_100 : decode cX8_page 100 = .ok (.iload 4, 2) := by decide +kernel
theorem dX8_page_102 : decode cX8_page 102 = .ok (.i2l, 1) := by decide +kernel
theorem dX8_page_103 : decode cX8_page 103 = .ok (.lload 8, 2) := by decide +kernel
theorem dX8_page_105 : decode cX8_page 105 = .ok (.lcmp, 1) := by decide +kernel
theorem dX8_page_106 : decode cX8_page 106 = .ok (.ifCond .ge 19, 3) := by decide +kernel
theorem dX8_page_109 : decode cX8_page 109 = .ok (.aload_n 0, 1) := by decide +kernel
theorem dX8_page_110 : decode cX8_page 110 = .ok (.getfield 65, 3) := by decide +kernel
theorem dX8_page_113 : decode cX8_page 113 = .ok (.lload 6, 2) := by decide +kernel
theorem dX8_page_115 : decode cX8_page 115 = .ok (.l2i, 1) := by decide +kernel
theorem dX8_page_116 : decode cX8_page 116 = .ok (.iload 4, 2) := by decide +kernel
theorem dX8_page_118 : decode cX8_page 118 = .ok (.iadd, 1) := by decide +kernel
theorem dX8_page_119 : decode cX8_page 119 = .ok (.invokevirtual 170, 3) := by decide +kernel
theorem dX8_page_122 : decode cX8_page 122 = .ok (.goto 6, 3) := by decide +kernel
theorem dX8_page_125 : decode cX8_page 125 = .ok (.sipush (-5000), 3) := by decide +kernel
theorem dX8_page_128 : decode cX8_page 128 = .ok (.ireturn, 1) := by decide +kernel
theorem dX8_reader_0 : decode cX8_reader 0 = .ok (.aload_n 0, 1) := by decide +kernel
theorem dX8_reader_1 : decode cX8_reader 1 = .ok (.getfield 12, 3) := by decide +kernel
theorem dX8_reader_4 : decode cX8_reader 4 = .ok (.iload_n 1, 1) := by decide +kernel
theorem dX8_reader_5 : decode cX8_reader 5 = .ok (.invokevirtual 104, 3) := by decide +kernel
theorem dX8_reader_8 : decode cX8_reader 8 = .ok (.ifnonnull 10, 3) := by decide +kernel
theorem dX8_reader_11 : decode cX8_reader 11 = .ok (.aload_n 0, 1) := by decide +kernel
theorem dX8_reader_12 : decode cX8_reader 12 = .ok (.bipush (-2), 2) := by decide +kernel
theorem dX8_reader_14 : decode cX8_reader 14 = .ok (.invokevirtual 76, 3) := by decide +kernel
theorem dX8_reader_17 : decode cX8_reader 17 = .ok (.ireturn, 1) := by decide +kernel
theorem dX8_reader_18 : decode cX8_reader 18 = .ok (.aload_n 0, 1) := by decide +kernel
theorem dX8_reader_19 : decode cX8_reader 19 = .ok (.getfield 43, 3) := by decide +kernel
theorem dX8_reader_22 : decode cX8_reader 22 = .ok (.ifCond .lt 15, 3) := by decide +kernel
theorem dX8_reader_25 : decode cX8_reader 25 = .ok (.aload_n 0, 1) := by decide +kernel
theorem dX8_reader_26 : decode cX8_reader 26 = .ok (.getfield 43, 3) := by decide +kernel
theorem dX8_reader_29 : decode cX8_reader 29 = .ok (.aload_n 0, 1) := by decide +kernel
theorem dX8_reader_30 : decode cX8_reader 30 = .ok (.getfield 32, 3) := by decide +kernel
theorem dX8_reader_33 : decode cX8_reader 33 = .ok (.arraylength, 1) := by decide +kernel
theorem dX8_reader_34 : decode cX8_reader 34 = .ok (.if_icmp .lt 10, 3) := by decide +kernel
theorem dX8_reader_37 : decode cX8_reader 37 = .ok (.aload_n 0, 1) := by decide +kernel
theorem dX8_reader_38 : decode cX8_reader 38 = .ok (.bipush (-5), 2) := by decide +kernel
theorem dX8_reader_40 : decode cX8_reader 40 = .ok (.invokevirtual 76, 3) := by decide +kernel
theorem dX8_reader_43 : decode cX8_reader 43 = .ok (.ireturn, 1) := by decide +kernel
theorem dX8_reader_44 : decode cX8_reader 44 = .ok (.aload_n 0, 1) := by decide +kernel
theorem dX8_reader_45 : decode cX8_reader 45 = .ok (.getfield 43, 3) := by decide +kernel
theorem dX8_reader_48 : decode cX8_reader 48 = .ok (.istore_n 2, 1) := by decide +kernel
theorem dX8_reader_49 : decode cX8_reader 49 = .ok (.aload_n 0, 1) := by decide +kernel
theorem dX8_reader_50 : decode cX8_reader 50 = .ok (.getfield 32, 3) := by decide +kernel
theorem dX8_reader_53 : decode cX8_reader 53 = .ok (.iload_n 2, 1) := by decide +kernel
theorem dX8_reader_54 : decode cX8_reader 54 = .ok (.new 30, 3) := by decide +kernel
theorem dX8_reader_57 : decode cX8_reader 57 = .ok (.dup, 1) := by decide +kernel
theorem dX8_reader_58 : decode cX8_reader 58 = .ok (.iload_n 1, 1) := by decide +kernel
theorem dX8_reader_59 : decode cX8_reader 59 = .ok (.invokespecial 181, 3) := by decide +kernel
theorem dX8_reader_62 : decode cX8_reader 62 = .ok (.aastore, 1) := by decide +kernel
theorem dX8_reader_63 : decode cX8_reader 63 = .ok (.aload_n 0, 1) := by decide +kernel
theorem dX8_reader_64 : decode cX8_reader 64 = .ok (.iload_n 2, 1) := by decide +kernel
theorem dX8_reader_65 : decode cX8_reader 65 = .ok (.iconst 1, 1) := by decide +kernel
theorem dX8_reader_66 : decode cX8_reader 66 = .ok (.iadd, 1) := by decide +kernel
theorem dX8_reader_67 : decode cX8_reader 67 = .ok (.putfield 43, 3) := by decide +kernel
theorem dX8_reader_70 : decode cX8_reader 70 = .ok (.aload_n 0, 1) := by decide +kernel
theorem dX8_reader_71 : decode cX8_reader 71 = .ok (.iload_n 2, 1) := by decide +kernel
theorem dX8_reader_72 : decode cX8_reader 72 = .ok (.invokevirtual 101, 3) := by decide +kernel
theorem dX8_reader_75 : decode cX8_reader 75 = .ok (.ireturn, 1) := by decide +kernel
theorem dX8_send_0 : decode cX8_send 0 = .ok (.iconst 0, 1) := by decide +kernel
theorem dX8_send_1 : decode cX8_send 1 = .ok (.istore_n 1, 1) := by decide +kernel
theorem dX8_send_2 : decode cX8_send 2 = .ok (.iconst 0, 1) := by decide +kernel
theorem dX8_send_3 : decode cX8_send 3 = .ok (.istore_n 2, 1) := by decide +kernel
theorem dX8_send_4 : decode cX8_send 4 = .ok (.iload_n 2, 1) := by decide +kernel
theorem dX8_send_5 : decode cX8_send 5 = .ok (.aload_n 0, 1) := by decide +kernel
theorem dX8_send_6 : decode cX8_send 6 = .ok (.getfield 32, 3) := by decide +kernel
theorem dX8_send_9 : decode cX8_send 9 = .ok (.arraylength, 1) := by decide +kernel
theorem dX8_send_10 : decode cX8_send 10 = .ok (.if_icmp .ge 83, 3) := by decide +kernel
theorem dX8_send_13 : decode cX8_send 13 = .ok (.aload_n 0, 1) := by decide +kernel
theorem dX8_send_14 : decode cX8_send 14 = .ok (.getfield 32, 3) := by decide +kernel
theorem dX8_send_17 : decode cX8_send 17 = .ok (.iload_n 2, 1) := by decide +kernel
theorem dX8_send_18 : decode cX8_send 18 = .ok (.aaload, 1) := by decide +kernel
theorem dX8_send_19 : decode cX8_send 19 = .ok (.astore_n 3, 1) := by decide +kernel
theorem dX8_send_20 : decode cX8_send 20 = .ok (.aload_n 3, 1) := by decide +kernel
theorem dX8_send_21 : decode cX8_send 21 = .ok (.ifnonnull 6, 3) := by decide +kernel
theorem dX8_send_24 : decode cX8_send 24 = .ok (.goto 63, 3) := by decide +kernel
theorem dX8_send_27 : decode cX8_send 27 = .ok (.aload_n 0, 1) := by decide +kernel
theorem dX8_send_28 : decode cX8_send 28 = .ok (.getfield 65, 3) := by decide +kernel
theorem dX8_send_31 : decode cX8_send 31 = .ok (.aload_n 0, 1) := by decide +kernel
theorem dX8_send_32 : decode cX8_send 32 = .ok (.getfield 39, 3) := by decide +kernel
theorem dX8_send_35 : decode cX8_send 35 = .ok (.aload_n 0, 1) := by decide +kernel
theorem dX8_send_36 : decode cX8_send 36 = .ok (.getfield 12, 3) := by decide +kernel
theorem dX8_send_39 : decode cX8_send 39 = .ok (.aload_n 3, 1) := by decide +kernel
theorem dX8_send_40 : decode cX8_send 40 = .ok (.getfield 183, 3) := by decide +kernel
theorem dX8_send_43 : decode cX8_send 43 = .ok (.invokevirtual 165, 3) := by decide +kernel
theorem dX8_send_46 : decode cX8_send 46 = .ok (.aload_n 0, 1) := by decide +kernel
theorem dX8_send_47 : decode cX8_send 47 = .ok (.getfield 65, 3) := by decide +kernel
theorem dX8_send_50 : decode cX8_send 50 = .ok (.aload_n 3, 1) := by decide +kernel
theorem dX8_send_51 : decode cX8_send 51 = .ok (.getfield 186, 3) := by decide +kernel
theorem dX8_send_54 : decode cX8_send 54 = .ok (.invokevirtual 189, 3) := by decide +kernel
theorem dX8_send_57 : decode cX8_send 57 = .ok (.ifCond .ne 30, 3) := by decide +kernel
theorem dX8_send_60 : decode cX8_send 60 = .ok (.aload_n 3, 1) := by decide +kernel
theorem dX8_send_61 : decode cX8_send 61 = .ok (.getfield 186, 3) := by decide +kernel
theorem dX8_send_64 : decode cX8_send 64 = .ok (.aload_n 0, 1) := by decide +kernel
theorem dX8_send_65 : decode cX8_send 65 = .ok (.getfield 65, 3) := by decide +kernel
theorem dX8_send_68 : decode cX8_send 68 = .ok (.invokevirtual 193, 3) := by decide +kernel
theorem dX8_send_71 : decode cX8_send 71 = .ok (.iload_n 1, 1) := by decide +kernel
theorem dX8_send_72 : decode cX8_send 72 = .ok (.iconst 1, 1) := by decide +kernel
theorem dX8_send_73 : decode cX8_send 73 = .ok (.iload_n 2, 1) := by decide +kernel
theorem dX8_send_74 : decode cX8_send 74 = .ok (.ishl, 1) := by decide +kernel
theorem dX8_send_75 : decode cX8_send 75 = .ok (.ior, 1) := by decide +kernel
theorem dX8_send_76 : decode cX8_send 76 = .ok (.istore_n 1, 1) := by decide +kernel
theorem dX8_send_77 : decode cX8_send 77 = .ok (.aload_n 0, 1) := by decide +kernel
theorem dX8_send_78 : decode cX8_send 78 = .ok (.dup, 1) := by decide +kernel
theorem dX8_send_79 : decode cX8_send 79 = .ok (.getfield 47, 3) := by decide +kernel
theorem dX8_send_82 : decode cX8_send 82 = .ok (.iconst 1, 1) := by decide +kernel
theorem dX8_send_83 : decode cX8_send 83 = .ok (.iadd, 1) := by decide +kernel
theorem dX8_send_84 : decode cX8_send 84 = .ok (.putfield 47, 3) := by decide +kernel
theorem dX8_send_87 : decode cX8_send 87 = .ok (.iinc 2 1, 3) := by decide +kernel
theorem dX8_send_90 : decode cX8_send 90 = .ok (.goto (-86), 3) := by decide +kernel
theorem dX8_send_93 : decode cX8_send 93 = .ok (.iload_n 1, 1) := by decide +kernel
theorem dX8_send_94 : decode cX8_send 94 = .ok (.ireturn, 1) := by decide +kernel
theorem dX8_holds_0 : decode cX8_holds 0 = .ok (.aload_n 0, 1) := by decide +kernel
theorem dX8_holds_1 : decode cX8_holds 1 = .ok (.iload_n 1, 1) := by decide +kernel
theorem dX8_holds_2 : decode cX8_holds 2 = .ok (.invokevirtual 197, 3) := by decide +kernel
theorem dX8_holds_5 : decode cX8_holds 5 = .ok (.astore_n 3, 1) := by decide +kernel
theorem dX8_holds_6 : decode cX8_holds 6 = .ok (.aload_n 3, 1) := by decide +kernel
theorem dX8_holds_7 : decode cX8_holds 7 = .ok (.ifnonnull 7, 3) := by decide +kernel
theorem dX8_holds_10 : decode cX8_holds 10 = .ok (.sipush (-5000), 3) := by decide +kernel
theorem dX8_holds_13 : decode cX8_holds 13 = .ok (.ireturn, 1) := by decide +kernel
theorem dX8_holds_14 : decode cX8_holds 14 = .ok (.iload_n 2, 1) := by decide +kernel
theorem dX8_holds_15 : decode cX8_holds 15 = .ok (.iconst (-1), 1) := by decide +kernel
theorem dX8_holds_16 : decode cX8_holds 16 = .ok (.if_icmp .ne 13, 3) := by decide +kernel
theorem dX8_holds_19 : decode cX8_holds 19 = .ok (.aload_n 3, 1) := by decide +kernel
theorem dX8_holds_20 : decode cX8_holds 20 = .ok (.getfield 186, 3) := by decide +kernel
theorem dX8_holds_23 : decode cX8_holds 23 = .ok (.invokevirtual 169, 3) := by decide +kernel
theorem dX8_holds_26 : decode cX8_holds 26 = .ok (.goto 11, 3) := by decide +kernel
theorem dX8_holds_29 : decode cX8_holds 29 = .ok (.aload_n 3, 1) := by decide +kernel
theorem dX8_holds_30 : decode cX8_holds 30 = .ok (.getfield 186, 3) := by decide +kernel
theorem dX8_holds_33 : decode cX8_holds 33 = .ok (.iload_n 2, 1) := by decide +kernel
theorem dX8_holds_34 : decode cX8_holds 34 = .ok (.invokevirtual 170, 3) := by decide +kernel
theorem dX8_holds_37 : decode cX8_holds 37 = .ok (.ireturn, 1) := by decide +kernel
theorem dX8_same_0 : decode cX8_same 0 = .ok (.aload_n 0, 1) := by decide +kernel
theorem dX8_same_1 : decode cX8_same 1 = .ok (.iload_n 1, 1) := by decide +kernel
theorem dX8_same_2 : decode cX8_same 2 = .ok (.invokevirtual 197, 3) := by decide +kernel
theorem dX8_same_5 : decode cX8_same 5 = .ok (.astore_n 2, 1) := by decide +kernel
theorem dX8_same_6 : decode cX8_same 6 = .ok (.aload_n 2, 1) := by decide +kernel
theorem dX8_same_7 : decode cX8_same 7 = .ok (.ifnonnull 5, 3) := by decide +kernel
theorem dX8_same_10 : decode cX8_same 10 = .ok (.iconst (-1), 1) := by decide +kernel
theorem dX8_same_11 : decode cX8_same 11 = .ok (.ireturn, 1) := by decide +kernel
theorem dX8_same_12 : decode cX8_same 12 = .ok (.aload_n 0, 1) := by decide +kernel
theorem dX8_same_13 : decode cX8_same 13 = .ok (.getfield 65, 3) := by decide +kernel
theorem dX8_same_16 : decode cX8_same 16 = .ok (.aload_n 0, 1) := by decide +kernel
theorem dX8_same_17 : decode cX8_same 17 = .ok (.getfield 39, 3) := by decide +kernel
theorem dX8_same_20 : decode cX8_same 20 = .ok (.aload_n 0, 1) := by decide +kernel
theorem dX8_same_21 : decode cX8_same 21 = .ok (.getfield 12, 3) := by decide +kernel
theorem dX8_same_24 : decode cX8_same 24 = .ok (.aload_n 2, 1) := by decide +kernel
theorem dX8_same_25 : decode cX8_same 25 = .ok (.getfield 183, 3) := by decide +kernel
theorem dX8_same_28 : decode cX8_same 28 = .ok (.invokevirtual 165, 3) := by decide +kernel
theorem dX8_same_31 : decode cX8_same 31 = .ok (.aload_n 0, 1) := by decide +kernel
theorem dX8_same_32 : decode cX8_same 32 = .ok (.getfield 65, 3) := by decide +kernel
theorem dX8_same_35 : decode cX8_same 35 = .ok (.aload_n 2, 1) := by decide +kernel
theorem dX8_same_36 : decode cX8_same 36 = .ok (.getfield 186, 3) := by decide +kernel
theorem dX8_same_39 : decode cX8_same 39 = .ok (.invokevirtual 189, 3) := by decide +kernel
theorem dX8_same_42 : decode cX8_same 42 = .ok (.ifCond .eq 7, 3) := by decide +kernel
theorem dX8_same_45 : decode cX8_same 45 = .ok (.iconst 1, 1) := by decide +kernel
theorem dX8_same_46 : decode cX8_same 46 = .ok (.goto 4, 3) := by decide +kernel
theorem dX8_same_49 : decode cX8_same 49 = .ok (.iconst 0, 1) := by decide +kernel
theorem dX8_same_50 : decode cX8_same 50 = .ok (.ireturn, 1) := by decide +kernel
theorem dX8_edit_0 : decode cX8_edit 0 = .ok (.iload_n 3, 1) := by decide +kernel
theorem dX8_edit_1 : decode cX8_edit 1 = .ok (.invokestatic 72, 3) := by decide +kernel
theorem dX8_edit_4 : decode cX8_edit 4 = .ok (.ifCond .ne 9, 3) := by decide +kernel
theorem dX8_edit_7 : decode cX8_edit 7 = .ok (.aload_n 0, 1) := by decide +kernel
theorem dX8_edit_8 : decode cX8_edit 8 = .ok (.iconst (-1), 1) := by decide +kernel
theorem dX8_edit_9 : decode cX8_edit 9 = .ok (.invokevirtual 76, 3) := by decide +kernel
theorem dX8_edit_12 : decode cX8_edit 12 = .ok (.ireturn, 1) := by decide +kernel
theorem dX8_edit_13 : decode cX8_edit 13 = .ok (.aload_n 0, 1) := by decide +kernel
theorem dX8_edit_14 : decode cX8_edit 14 = .ok (.iload_n 1, 1) := by decide +kernel
theorem dX8_edit_15 : decode cX8_edit 15 = .ok (.invokevirtual 197, 3) := by decide +kernel
theorem dX8_edit_18 : decode cX8_edit 18 = .ok (.astore 4, 2) := by decide +kernel
theorem dX8_edit_20 : decode cX8_edit 20 = .ok (.aload 4, 2) := by decide +kernel
theorem dX8_edit_22 : decode cX8_edit 22 = .ok (.ifnonnull 10, 3) := by decide +kernel
theorem dX8_edit_25 : decode cX8_edit 25 = .ok (.aload_n 0, 1) := by decide +kernel
theorem dX8_edit_26 : decode cX8_edit 26 = .ok (.bipush (-2), 2) := by decide +kernel
theorem dX8_edit_28 : decode cX8_edit 28 = .ok (.invokevirtual 76, 3) := by decide +kernel
theorem dX8_edit_31 : decode cX8_edit 31 = .ok (.ireturn, 1) := by decide +kernel
theorem dX8_edit_32 : decode cX8_edit 32 = .ok (.aload 4, 2) := by decide +kernel
theorem dX8_edit_34 : decode cX8_edit 34 = .ok (.getfield 186, 3) := by decide +kernel
theorem dX8_edit_37 : decode cX8_edit 37 = .ok (.iload_n 2, 1) := by decide +kernel
theorem dX8_edit_38 : decode cX8_edit 38 = .ok (.invokevirtual 201, 3) := by decide +kernel
theorem dX8_edit_41 : decode cX8_edit 41 = .ok (.ifCond .eq 22, 3) := by decide +kernel
theorem dX8_edit_44 : decode cX8_edit 44 = .ok (.aload_n 0, 1) := by decide +kernel
theorem dX8_edit_45 : decode cX8_edit 45 = .ok (.getfield 12, 3) := by decide +kernel
theorem dX8_edit_48 : decode cX8_edit 48 = .ok (.aload 4, 2) := by decide +kernel
theorem dX8_edit_50 : decode cX8_edit 50 = .ok (.getfield 186, 3) := by decide +kernel
theorem dX8_edit_53 : decode cX8_edit 53 = .ok (.iload_n 2, 1) := by decide +kernel
theorem dX8_edit_54 : decode cX8_edit 54 = .ok (.invokevirtual 204, 3) := by decide +kernel
theorem dX8_edit_57 : decode cX8_edit 57 = .ok (.invokevirtual 104, 3) := by decide +kernel
theorem dX8_edit_60 : decode cX8_edit 60 = .ok (.goto 4, 3) := by decide +kernel
theorem dX8_edit_63 : decode cX8_edit 63 = .ok (.aconst_null, 1) := by decide +kernel
theorem dX8_edit_64 : decode cX8_edit 64 = .ok (.astore 5, 2) := by decide +kernel
theorem dX8_edit_66 : decode cX8_edit 66 = .ok (.aload 5, 2) := by decide +kernel
theorem dX8_edit_68 : decode cX8_edit 68 = .ok (.ifnull 20, 3) := by decide +kernel
theorem dX8_edit_71 : decode cX8_edit 71 = .ok (.aload 5, 2) := by decide +kernel
theorem dX8_edit_73 : decode cX8_edit 73 = .ok (.getfield 111, 3) := by decide +kernel
theorem dX8_edit_76 : decode cX8_edit 76 = .ok (.aload 4, 2) := by decide +kernel
theorem dX8_edit_78 : decode cX8_edit 78 = .ok (.getfield 186, 3) := by decide +kernel
theorem dX8_edit_81 : decode cX8_edit 81 = .ok (.iload_n 2, 1) := by decide +kernel
theorem dX8_edit_82 : decode cX8_edit 82 = .ok (.invokevirtual 170, 3) := by decide +kernel
theorem dX8_edit_85 : decode cX8_edit 85 = .ok (.if_icmp .eq 10, 3) := by decide +kernel
theorem dX8_edit_88 : decode cX8_edit 88 = .ok (.aload_n 0, 1) := by decide +kernel
theorem dX8_edit_89 : decode cX8_edit 89 = .ok (.bipush (-3), 2) := by decide +kernel
theorem dX8_edit_91 : decode cX8_edit 91 = .ok (.invokevirtual 76, 3) := by decide +kernel
theorem dX8_edit_94 : decode cX8_edit 94 = .ok (.ireturn, 1) := by decide +kernel
theorem dX8_edit_95 : decode cX8_edit 95 = .ok (.aload_n 0, 1) := by decide +kernel
theorem dX8_edit_96 : decode cX8_edit 96 = .ok (.getfield 19, 3) := by decide +kernel
theorem dX8_edit_99 : decode cX8_edit 99 = .ok (.invokevirtual 87, 3) := by decide +kernel
theorem dX8_edit_102 : decode cX8_edit 102 = .ok (.ifCond .eq 10, 3) := by decide +kernel
theorem dX8_edit_105 : decode cX8_edit 105 = .ok (.aload_n 0, 1) := by decide +kernel
theorem dX8_edit_106 : decode cX8_edit 106 = .ok (.bipush (-5), 2) := by decide +kernel
theorem dX8_edit_108 : decode cX8_edit 108 = .ok (.invokevirtual 76, 3) := by decide +kernel
theorem dX8_edit_111 : decode cX8_edit 111 = .ok (.ireturn, 1) := by decide +kernel
theorem dX8_edit_112 : decode cX8_edit 112 = .ok (.aload_n 0, 1) := by decide +kernel
theorem dX8_edit_113 : decode cX8_edit 113 = .ok (.aload 5, 2) := by decide +kernel
theorem dX8_edit_115 : decode cX8_edit 115 = .ok (.iload_n 3, 1) := by decide +kernel
theorem dX8_edit_116 : decode cX8_edit 116 = .ok (.invokevirtual 108, 3) := by decide +kernel
theorem dX8_edit_119 : decode cX8_edit 119 = .ok (.invokevirtual 97, 3) := by decide +kernel
theorem dX8_edit_122 : decode cX8_edit 122 = .ok (.aload 4, 2) := by decide +kernel
theorem dX8_edit_124 : decode cX8_edit 124 = .ok (.getfield 186, 3) := by decide +kernel
theorem dX8_edit_127 : decode cX8_edit 127 = .ok (.iload_n 2, 1) := by decide +kernel
theorem dX8_edit_128 : decode cX8_edit 128 = .ok (.iload_n 3, 1) := by decide +kernel
theorem dX8_edit_129 : decode cX8_edit 129 = .ok (.invokevirtual 207, 3) := by decide +kernel
theorem dX8_edit_132 : decode cX8_edit 132 = .ok (.aload_n 0, 1) := by decide +kernel
theorem dX8_edit_133 : decode cX8_edit 133 = .ok (.aload 5, 2) := by decide +kernel
theorem dX8_edit_135 : decode cX8_edit 135 = .ok (.getfield 211, 3) := by decide +kernel
theorem dX8_edit_138 : decode cX8_edit 138 = .ok (.invokevirtual 101, 3) := by decide +kernel
theorem dX8_edit_141 : decode cX8_edit 141 = .ok (.ireturn, 1) := by decide +kernel
theorem dX8_asOf_0 : decode cX8_asOf 0 = .ok (.aload_n 0, 1) := by decide +kernel
theorem dX8_asOf_1 : decode cX8_asOf 1 = .ok (.getfield 59, 3) := by decide +kernel
theorem dX8_asOf_4 : decode cX8_asOf 4 = .ok (.invokevirtual 214, 3) := by decide +kernel
theorem dX8_asOf_7 : decode cX8_asOf 7 = .ok (.iload_n 1, 1) := by decide +kernel
theorem dX8_asOf_8 : decode cX8_asOf 8 = .ok (.ifCond .lt 26, 3) := by decide +kernel
theorem dX8_asOf_11 : decode cX8_asOf 11 = .ok (.iload_n 1, 1) := by decide +kernel
theorem dX8_asOf_12 : decode cX8_asOf 12 = .ok (.aload_n 0, 1) := by decide +kernel
theorem dX8_asOf_13 : decode cX8_asOf 13 = .ok (.getfield 19, 3) := by decide +kernel
theorem dX8_asOf_16 : decode cX8_asOf 16 = .ok (.invokevirtual 215, 3) := by decide +kernel
theorem dX8_asOf_19 : decode cX8_asOf 19 = .ok (.if_icmp .gt 15, 3) := by decide +kernel
theorem dX8_asOf_22 : decode cX8_asOf 22 = .ok (.aload_n 0, 1) := by decide +kernel
theorem dX8_asOf_23 : decode cX8_asOf 23 = .ok (.getfield 19, 3) := by decide +kernel
theorem dX8_asOf_26 : decode cX8_asOf 26 = .ok (.iload_n 1, 1) := by decide +kernel
theorem dX8_asOf_27 : decode cX8_asOf 27 = .ok (.aload_n 0, 1) := by decide +kernel
theorem dX8_asOf_28 : decode cX8_asOf 28 = .ok (.getfield 59, 3) := by decide +kernel
theorem dX8_asOf_31 : decode cX8_asOf 31 = .ok (.invokevirtual 216, 3) := by decide +kernel
theorem dX8_asOf_34 : decode cX8_asOf 34 = .ok (.aload_n 0, 1) := by decide +kernel
theorem dX8_asOf_35 : decode cX8_asOf 35 = .ok (.getfield 65, 3) := by decide +kernel
theorem dX8_asOf_38 : decode cX8_asOf 38 = .ok (.aload_n 0, 1) := by decide +kernel
theorem dX8_asOf_39 : decode cX8_asOf 39 = .ok (.getfield 39, 3) := by decide +kernel
theorem dX8_asOf_42 : decode cX8_asOf 42 = .ok (.aload_n 0, 1) := by decide +kernel
theorem dX8_asOf_43 : decode cX8_asOf 43 = .ok (.getfield 59, 3) := by decide +kernel
theorem dX8_asOf_46 : decode cX8_asOf 46 = .ok (.iload_n 2, 1) := by decide +kernel
theorem dX8_asOf_47 : decode cX8_asOf 47 = .ok (.invokevirtual 165, 3) := by decide +kernel
theorem dX8_asOf_50 : decode cX8_asOf 50 = .ok (.iload_n 3, 1) := by decide +kernel
theorem dX8_asOf_51 : decode cX8_asOf 51 = .ok (.iconst (-1), 1) := by decide +kernel
theorem dX8_asOf_52 : decode cX8_asOf 52 = .ok (.if_icmp .ne 13, 3) := by decide +kernel
theorem dX8_asOf_55 : decode cX8_asOf 55 = .ok (.aload_n 0, 1) := by decide +kernel
theorem dX8_asOf_56 : decode cX8_asOf 56 = .ok (.getfield 65, 3) := by decide +kernel
theorem dX8_asOf_59 : decode cX8_asOf 59 = .ok (.invokevirtual 169, 3) := by decide +kernel
theorem dX8_asOf_62 : decode cX8_asOf 62 = .ok (.goto 11, 3) := by decide +kernel
theorem dX8_asOf_65 : decode cX8_asOf 65 = .ok (.aload_n 0, 1) := by decide +kernel
theorem dX8_asOf_66 : decode cX8_asOf 66 = .ok (.getfield 65, 3) := by decide +kernel
theorem dX8_asOf_69 : decode cX8_asOf 69 = .ok (.iload_n 3, 1) := by decide +kernel
theorem dX8_asOf_70 : decode cX8_asOf 70 = .ok (.invokevirtual 170, 3) := by decide +kernel
theorem dX8_asOf_73 : decode cX8_asOf 73 = .ok (.ireturn, 1) := by decide +kernel
theorem dX8_touched_0 : decode cX8_touched 0 = .ok (.aload_n 0, 1) := by decide +kernel
theorem dX8_touched_1 : decode cX8_touched 1 = .ok (.getfield 12, 3) := by decide +kernel
theorem dX8_touched_4 : decode cX8_touched 4 = .ok (.iload_n 1, 1) := by decide +kernel
theorem dX8_touched_5 : decode cX8_touched 5 = .ok (.invokevirtual 104, 3) := by decide +kernel
theorem dX8_touched_8 : decode cX8_touched 8 = .ok (.astore_n 3, 1) := by decide +kernel
theorem dX8_touched_9 : decode cX8_touched 9 = .ok (.aload_n 3, 1) := by decide +kernel
theorem dX8_touched_10 : decode cX8_touched 10 = .ok (.ifnull 10, 3) := by decide +kernel
theorem dX8_touched_13 : decode cX8_touched 13 = .ok (.iload_n 2, 1) := by decide +kernel
theorem dX8_touched_14 : decode cX8_touched 14 = .ok (.invokestatic 72, 3) := by decide +kernel
theorem dX8_touched_17 : decode cX8_touched 17 = .ok (.ifCond .ne 5, 3) := by decide +kernel
theorem dX8_touched_20 : decode cX8_touched 20 = .ok (.iconst 0, 1) := by decide +kernel
theorem dX8_touched_21 : decode cX8_touched 21 = .ok (.ireturn, 1) := by decide +kernel
theorem dX8_touched_22 : decode cX8_touched 22 = .ok (.aload_n 0, 1) := by decide +kernel
theorem dX8_touched_23 : decode cX8_touched 23 = .ok (.getfield 59, 3) := by decide +kernel
theorem dX8_touched_26 : decode cX8_touched 26 = .ok (.aload_n 0, 1) := by decide +kernel
theorem dX8_touched_27 : decode cX8_touched 27 = .ok (.getfield 12, 3) := by decide +kernel
theorem dX8_touched_30 : decode cX8_touched 30 = .ok (.invokevirtual 220, 3) := by decide +kernel
theorem dX8_touched_33 : decode cX8_touched 33 = .ok (.aload_n 0, 1) := by decide +kernel
theorem dX8_touched_34 : decode cX8_touched 34 = .ok (.getfield 59, 3) := by decide +kernel
theorem dX8_touched_37 : decode cX8_touched 37 = .ok (.aload_n 3, 1) := by decide +kernel
theorem dX8_touched_38 : decode cX8_touched 38 = .ok (.iload_n 2, 1) := by decide +kernel
theorem dX8_touched_39 : decode cX8_touched 39 = .ok (.invokevirtual 108, 3) := by decide +kernel
theorem dX8_touched_42 : decode cX8_touched 42 = .ok (.invokevirtual 223, 3) := by decide +kernel
theorem dX8_touched_45 : decode cX8_touched 45 = .ok (.iconst 0, 1) := by decide +kernel
theorem dX8_touched_46 : decode cX8_touched 46 = .ok (.istore 4, 2) := by decide +kernel
theorem dX8_touched_48 : decode cX8_touched 48 = .ok (.iconst 0, 1) := by decide +kernel
theorem dX8_touched_49 : decode cX8_touched 49 = .ok (.istore 5, 2) := by decide +kernel
theorem dX8_touched_51 : decode cX8_touched 51 = .ok (.iload 5, 2) := by decide +kernel
theorem dX8_touched_53 : decode cX8_touched 53 = .ok (.aload_n 0, 1) := by decide +kernel
theorem dX8_touched_54 : decode cX8_touched 54 = .ok (.getfield 32, 3) := by decide +kernel
theorem dX8_touched_57 : decode cX8_touched 57 = .ok (.arraylength, 1) := by decide +kernel
theorem dX8_touched_58 : decode cX8_touched 58 = .ok (.if_icmp .ge 44, 3) := by decide +kernel
theorem dX8_touched_61 : decode cX8_touched 61 = .ok (.aload_n 0, 1) := by decide +kernel
theorem dX8_touched_62 : decode cX8_touched 62 = .ok (.getfield 32, 3) := by decide +kernel
theorem dX8_touched_65 : decode cX8_touched 65 = .ok (.iload 5, 2) := by decide +kernel
theorem dX8_touched_67 : decode cX8_touched 67 = .ok (.aaload, 1) := by decide +kernel
theorem dX8_touched_68 : decode cX8_touched 68 = .ok (.astore 6, 2) := by decide +kernel
theorem dX8_touched_70 : decode cX8_touched 70 = .ok (.aload 6, 2) := by decide +kernel
theorem dX8_touched_72 : decode cX8_touched 72 = .ok (.ifnull 24, 3) := by decide +kernel
theorem dX8_touched_75 : decode cX8_touched 75 = .ok (.aload_n 0, 1) := by decide +kernel
theorem dX8_touched_76 : decode cX8_touched 76 = .ok (.aload 6, 2) := by decide +kernel
theorem dX8_touched_78 : decode cX8_touched 78 = .ok (.getfield 183, 3) := by decide +kernel
theorem dX8_touched_81 : decode cX8_touched 81 = .ok (.invokevirtual 225, 3) := by decide +kernel
theorem dX8_touched_84 : decode cX8_touched 84 = .ok (.ifCond .eq 12, 3) := by decide +kernel
theorem dX8_touched_87 : decode cX8_touched 87 = .ok (.iload 4, 2) := by decide +kernel
theorem dX8_touched_89 : decode cX8_touched 89 = .ok (.iconst 1, 1) := by decide +kernel
theorem dX8_touched_90 : decode cX8_touched 90 = .ok (.iload 5, 2) := by decide +kernel
theorem dX8_touched_92 : decode cX8_touched 92 = .ok (.ishl, 1) := by decide +kernel
theorem dX8_touched_93 : decode cX8_touched 93 = .ok (.ior, 1) := by decide +kernel
theorem dX8_touched_94 : decode cX8_touched 94 = .ok (.istore 4, 2) := by decide +kernel
theorem dX8_touched_96 : decode cX8_touched 96 = .ok (.iinc 5 1, 3) := by decide +kernel
theorem dX8_touched_99 : decode cX8_touched 99 = .ok (.goto (-48), 3) := by decide +kernel
theorem dX8_touched_102 : decode cX8_touched 102 = .ok (.iload 4, 2) := by decide +kernel
theorem dX8_touched_104 : decode cX8_touched 104 = .ok (.ireturn, 1) := by decide +kernel
theorem dX8_count_0 : decode cX8_count 0 = .ok (.iload_n 1, 1) := by decide +kernel
theorem dX8_count_1 : decode cX8_count 1 = .ok (.tableswitch 93 0 6 #[43, 51, 59, 67, 72, 80, 88], 43) := by decide +kernel
theorem dX8_count_44 : decode cX8_count 44 = .ok (.aload_n 0, 1) := by decide +kernel
theorem dX8_count_45 : decode cX8_count 45 = .ok (.getfield 12, 3) := by decide +kernel
theorem dX8_count_48 : decode cX8_count 48 = .ok (.invokevirtual 228, 3) := by decide +kernel
theorem dX8_count_51 : decode cX8_count 51 = .ok (.ireturn, 1) := by decide +kernel
theorem dX8_count_52 : decode cX8_count 52 = .ok (.aload_n 0, 1) := by decide +kernel
theorem dX8_count_53 : decode cX8_count 53 = .ok (.getfield 12, 3) := by decide +kernel
theorem dX8_count_56 : decode cX8_count 56 = .ok (.invokevirtual 88, 3) := by decide +kernel
theorem dX8_count_59 : decode cX8_count 59 = .ok (.ireturn, 1) := by decide +kernel
theorem dX8_count_60 : decode cX8_count 60 = .ok (.aload_n 0, 1) := by decide +kernel
theorem dX8_count_61 : decode cX8_count 61 = .ok (.getfield 39, 3) := by decide +kernel
theorem dX8_count_64 : decode cX8_count 64 = .ok (.invokevirtual 162, 3) := by decide +kernel
theorem dX8_count_67 : decode cX8_count 67 = .ok (.ireturn, 1) := by decide +kernel
theorem dX8_count_68 : decode cX8_count 68 = .ok (.aload_n 0, 1) := by decide +kernel
theorem dX8_count_69 : decode cX8_count 69 = .ok (.getfield 43, 3) := by decide +kernel
theorem dX8_count_72 : decode cX8_count 72 = .ok (.ireturn, 1) := by decide +kernel
theorem dX8_count_73 : decode cX8_count 73 = .ok (.aload_n 0, 1) := by decide +kernel
theorem dX8_count_74 : decode cX8_count 74 = .ok (.getfield 19, 3) := by decide +kernel
theorem dX8_count_77 : decode cX8_count 77 = .ok (.invokevirtual 215, 3) := by decide +kernel
theorem dX8_count_80 : decode cX8_count 80 = .ok (.ireturn, 1) := by decide +kernel
theorem dX8_count_81 : decode cX8_count 81 = .ok (.aload_n 0, 1) := by decide +kernel
theorem dX8_count_82 : decode cX8_count 82 = .ok (.getfield 26, 3) := by decide +kernel
theorem dX8_count_85 : decode cX8_count 85 = .ok (.invokevirtual 138, 3) := by decide +kernel
theorem dX8_count_88 : decode cX8_count 88 = .ok (.ireturn, 1) := by decide +kernel
theorem dX8_count_89 : decode cX8_count 89 = .ok (.aload_n 0, 1) := by decide +kernel
theorem dX8_count_90 : decode cX8_count 90 = .ok (.getfield 47, 3) := by decide +kernel
theorem dX8_count_93 : decode cX8_count 93 = .ok (.ireturn, 1) := by decide +kernel
theorem dX8_count_94 : decode cX8_count 94 = .ok (.iconst (-1), 1) := by decide +kernel
theorem dX8_count_95 : decode cX8_count 95 = .ok (.ireturn, 1) := by decide +kernel
theorem dX8_status_0 : decode cX8_status 0 = .ok (.aload_n 0, 1) := by decide +kernel
theorem dX8_status_1 : decode cX8_status 1 = .ok (.getfield 53, 3) := by decide +kernel
theorem dX8_status_4 : decode cX8_status 4 = .ok (.ireturn, 1) := by decide +kernel
theorem dX8_refused_0 : decode cX8_refused 0 = .ok (.aload_n 0, 1) := by decide +kernel
theorem dX8_refused_1 : decode cX8_refused 1 = .ok (.iload_n 1, 1) := by decide +kernel
theorem dX8_refused_2 : decode cX8_refused 2 = .ok (.putfield 53, 3) := by decide +kernel
theorem dX8_refused_5 : decode cX8_refused 5 = .ok (.iload_n 1, 1) := by decide +kernel
theorem dX8_refused_6 : decode cX8_refused 6 = .ok (.ireturn, 1) := by decide +kernel
theorem dX8_answered_0 : decode cX8_answered 0 = .ok (.aload_n 0, 1) := by decide +kernel
theorem dX8_answered_1 : decode cX8_answered 1 = .ok (.iconst 0, 1) := by decide +kernel
theorem dX8_answered_2 : decode cX8_answered 2 = .ok (.putfield 53, 3) := by decide +kernel
theorem dX8_answered_5 : decode cX8_answered 5 = .ok (.iload_n 1, 1) := by decide +kernel
theorem dX8_answered_6 : decode cX8_answered 6 = .ok (.ireturn, 1) := by decide +kernel
theorem dX8_isValue_0 : decode cX8_isValue 0 = .ok (.iload_n 0, 1) := by decide +kernel
theorem dX8_isValue_1 : decode cX8_isValue 1 = .ok (.sipush (-1000), 3) := by decide +kernel
theorem dX8_isValue_4 : decode cX8_isValue 4 = .ok (.if_icmp .lt 14, 3) := by decide +kernel
theorem dX8_isValue_7 : decode cX8_isValue 7 = .ok (.iload_n 0, 1) := by decide +kernel
theorem dX8_isValue_8 : decode cX8_isValue 8 = .ok (.sipush 1000, 3) := by decide +kernel
theorem dX8_isValue_11 : decode cX8_isValue 11 = .ok (.if_icmp .gt 7, 3) := by decide +kernel
theorem dX8_isValue_14 : decode cX8_isValue 14 = .ok (.iconst 1, 1) := by decide +kernel
theorem dX8_isValue_15 : decode cX8_isValue 15 = .ok (.goto 4, 3) := by decide +kernel
theorem dX8_isValue_18 : decode cX8_isValue 18 = .ok (.iconst 0, 1) := by decide +kernel
theorem dX8_isValue_19 : decode cX8_isValue 19 = .ok (.ireturn, 1) := by decide +kernel
theorem dX8_canBeReferredTo_0 : decode cX8_canBeReferredTo 0 = .ok (.iload_n 1, 1) := by decide +kernel
theorem dX8_canBeReferredTo_1 : decode cX8_canBeReferredTo 1 = .ok (.iconst (-1), 1) := by decide +kernel
theorem dX8_canBeReferredTo_2 : decode cX8_canBeReferredTo 2 = .ok (.if_icmp .eq 14, 3) := by decide +kernel
theorem dX8_canBeReferredTo_5 : decode cX8_canBeReferredTo 5 = .ok (.aload_n 0, 1) := by decide +kernel
theorem dX8_canBeReferredTo_6 : decode cX8_canBeReferredTo 6 = .ok (.getfield 12, 3) := by decide +kernel
theorem dX8_canBeReferredTo_9 : decode cX8_canBeReferredTo 9 = .ok (.iload_n 1, 1) := by decide +kernel
theorem dX8_canBeReferredTo_10 : decode cX8_canBeReferredTo 10 = .ok (.invokevirtual 104, 3) := by decide +kernel
theorem dX8_canBeReferredTo_13 : decode cX8_canBeReferredTo 13 = .ok (.ifnull 7, 3) := by decide +kernel
theorem dX8_canBeReferredTo_16 : decode cX8_canBeReferredTo 16 = .ok (.iconst 1, 1) := by decide +kernel
theorem dX8_canBeReferredTo_17 : decode cX8_canBeReferredTo 17 = .ok (.goto 4, 3) := by decide +kernel
theorem dX8_canBeReferredTo_20 : decode cX8_canBeReferredTo 20 = .ok (.iconst 0, 1) := by decide +kernel
theorem dX8_canBeReferredTo_21 : decode cX8_canBeReferredTo 21 = .ok (.ireturn, 1) := by decide +kernel
theorem dX8_tell_0 : decode cX8_tell 0 = .ok (.aload_n 0, 1) := by decide +kernel
theorem dX8_tell_1 : decode cX8_tell 1 = .ok (.getfield 12, 3) := by decide +kernel
theorem dX8_tell_4 : decode cX8_tell 4 = .ok (.aload_n 1, 1) := by decide +kernel
theorem dX8_tell_5 : decode cX8_tell 5 = .ok (.invokevirtual 223, 3) := by decide +kernel
theorem dX8_tell_8 : decode cX8_tell 8 = .ok (.aload_n 0, 1) := by decide +kernel
theorem dX8_tell_9 : decode cX8_tell 9 = .ok (.getfield 19, 3) := by decide +kernel
theorem dX8_tell_12 : decode cX8_tell 12 = .ok (.aload_n 1, 1) := by decide +kernel
theorem dX8_tell_13 : decode cX8_tell 13 = .ok (.invokevirtual 231, 3) := by decide +kernel
theorem dX8_tell_16 : decode cX8_tell 16 = .ok (.return_, 1) := by decide +kernel
theorem dX8_readerAt_0 : decode cX8_readerAt 0 = .ok (.iload_n 1, 1) := by decide +kernel
theorem dX8_readerAt_1 : decode cX8_readerAt 1 = .ok (.ifCond .lt 21, 3) := by decide +kernel
theorem dX8_readerAt_4 : decode cX8_readerAt 4 = .ok (.iload_n 1, 1) := by decide +kernel
theorem dX8_readerAt_5 : decode cX8_readerAt 5 = .ok (.aload_n 0, 1) := by decide +kernel
theorem dX8_readerAt_6 : decode cX8_readerAt 6 = .ok (.getfield 32, 3) := by decide +kernel
theorem dX8_readerAt_9 : decode cX8_readerAt 9 = .ok (.arraylength, 1) := by decide +kernel
theorem dX8_readerAt_10 : decode cX8_readerAt 10 = .ok (.if_icmp .ge 12, 3) := by decide +kernel
theorem dX8_readerAt_13 : decode cX8_readerAt 13 = .ok (.aload_n 0, 1) := by decide +kernel
theorem dX8_readerAt_14 : decode cX8_readerAt 14 = .ok (.getfield 32, 3) := by decide +kernel
theorem dX8_readerAt_17 : decode cX8_readerAt 17 = .ok (.iload_n 1, 1) := by decide +kernel
theorem dX8_readerAt_18 : decode cX8_readerAt 18 = .ok (.aaload, 1) := by decide +kernel
theorem dX8_readerAt_19 : decode cX8_readerAt 19 = .ok (.goto 4, 3) := by decide +kernel
theorem dX8_readerAt_22 : decode cX8_readerAt 22 = .ok (.aconst_null, 1) := by decide +kernel
theorem dX8_readerAt_23 : decode cX8_readerAt 23 = .ok (.areturn, 1) := by decide +kernel
theorem dX8_isOtherwiseThen_0 : decode cX8_isOtherwiseThen 0 = .ok (.aload_n 0, 1) := by decide +kernel
theorem dX8_isOtherwiseThen_1 : decode cX8_isOtherwiseThen 1 = .ok (.getfield 65, 3) := by decide +kernel
theorem dX8_isOtherwiseThen_4 : decode cX8_isOtherwiseThen 4 = .ok (.aload_n 0, 1) := by decide +kernel
theorem dX8_isOtherwiseThen_5 : decode cX8_isOtherwiseThen 5 = .ok (.getfield 39, 3) := by decide +kernel
theorem dX8_isOtherwiseThen_8 : decode cX8_isOtherwiseThen 8 = .ok (.aload_n 0, 1) := by decide +kernel
theorem dX8_isOtherwiseThen_9 : decode cX8_isOtherwiseThen 9 = .ok (.getfield 12, 3) := by decide +kernel
theorem dX8_isOtherwiseThen_12 : decode cX8_isOtherwiseThen 12 = .ok (.iload_n 1, 1) := by decide +kernel
theorem dX8_isOtherwiseThen_13 : decode cX8_isOtherwiseThen 13 = .ok (.invokevirtual 165, 3) := by decide +kernel
theorem dX8_isOtherwiseThen_16 : decode cX8_isOtherwiseThen 16 = .ok (.aload_n 0, 1) := by decide +kernel
theorem dX8_isOtherwiseThen_17 : decode cX8_isOtherwiseThen 17 = .ok (.getfield 69, 3) := by decide +kernel
theorem dX8_isOtherwiseThen_20 : decode cX8_isOtherwiseThen 20 = .ok (.aload_n 0, 1) := by decide +kernel
theorem dX8_isOtherwiseThen_21 : decode cX8_isOtherwiseThen 21 = .ok (.getfield 39, 3) := by decide +kernel
theorem dX8_isOtherwiseThen_24 : decode cX8_isOtherwiseThen 24 = .ok (.aload_n 0, 1) := by decide +kernel
theorem dX8_isOtherwiseThen_25 : decode cX8_isOtherwiseThen 25 = .ok (.getfield 59, 3) := by decide +kernel
theorem dX8_isOtherwiseThen_28 : decode cX8_isOtherwiseThen 28 = .ok (.iload_n 1, 1) := by decide +kernel
theorem dX8_isOtherwiseThen_29 : decode cX8_isOtherwiseThen 29 = .ok (.invokevirtual 165, 3) := by decide +kernel
theorem dX8_isOtherwiseThen_32 : decode cX8_isOtherwiseThen 32 = .ok (.aload_n 0, 1) := by decide +kernel
theorem dX8_isOtherwiseThen_33 : decode cX8_isOtherwiseThen 33 = .ok (.getfield 65, 3) := by decide +kernel
theorem dX8_isOtherwiseThen_36 : decode cX8_isOtherwiseThen 36 = .ok (.aload_n 0, 1) := by decide +kernel
theorem dX8_isOtherwiseThen_37 : decode cX8_isOtherwiseThen 37 = .ok (.getfield 69, 3) := by decide +kernel
theorem dX8_isOtherwiseThen_40 : decode cX8_isOtherwiseThen 40 = .ok (.invokevirtual 189, 3) := by decide +kernel
theorem dX8_isOtherwiseThen_43 : decode cX8_isOtherwiseThen 43 = .ok (.ifCond .ne 7, 3) := by decide +kernel
theorem dX8_isOtherwiseThen_46 : decode cX8_isOtherwiseThen 46 = .ok (.iconst 1, 1) := by decide +kernel
theorem dX8_isOtherwiseThen_47 : decode cX8_isOtherwiseThen 47 = .ok (.goto 4, 3) := by decide +kernel
theorem dX8_isOtherwiseThen_50 : decode cX8_isOtherwiseThen 50 = .ok (.iconst 0, 1) := by decide +kernel
theorem dX8_isOtherwiseThen_51 : decode cX8_isOtherwiseThen 51 = .ok (.ireturn, 1) := by decide +kernel

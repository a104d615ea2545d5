theorem dX0_init_0 : decode cX0_init 0 = .ok (.aload_n 0, 1) := by decide +kernel
theorem dX0_init_1 : decode cX0_init 1 = .ok (.invokespecial 3, 3) := by decide +kernel
theorem dX0_init_4 : decode cX0_init 4 = .ok (.aload_n 0, 1) := by decide +kernel
theorem dX0_init_5 : decode cX0_init 5 = .ok (.new 9, 3) := by decide +kernel
theorem dX0_init_8 : decode cX0_init 8 = .ok (.dup, 1) := by decide +kernel
theorem dX0_init_9 : decode cX0_init 9 = .ok (.bipush 8, 2) := by decide +kernel
theorem dX0_init_11 : decode cX0_init 11 = .ok (.bipush 16, 2) := by decide +kernel
theorem dX0_init_13 : decode cX0_init 13 = .ok (.invokespecial 11, 3) := by decide +kernel
theorem dX0_init_16 : decode cX0_init 16 = .ok (.putfield 14, 3) := by decide +kernel
theorem dX0_init_19 : decode cX0_init 19 = .ok (.aload_n 0, 1) := by decide +kernel
theorem dX0_init_20 : decode cX0_init 20 = .ok (.new 9, 3) := by decide +kernel
theorem dX0_init_23 : decode cX0_init 23 = .ok (.dup, 1) := by decide +kernel
theorem dX0_init_24 : decode cX0_init 24 = .ok (.iconst 4, 1) := by decide +kernel
theorem dX0_init_25 : decode cX0_init 25 = .ok (.bipush 16, 2) := by decide +kernel
theorem dX0_init_27 : decode cX0_init 27 = .ok (.invokespecial 11, 3) := by decide +kernel
theorem dX0_init_30 : decode cX0_init 30 = .ok (.putfield 20, 3) := by decide +kernel
theorem dX0_init_33 : decode cX0_init 33 = .ok (.aload_n 0, 1) := by decide +kernel
theorem dX0_init_34 : decode cX0_init 34 = .ok (.new 9, 3) := by decide +kernel
theorem dX0_init_37 : decode cX0_init 37 = .ok (.dup, 1) := by decide +kernel
theorem dX0_init_38 : decode cX0_init 38 = .ok (.bipush 6, 2) := by decide +kernel
theorem dX0_init_40 : decode cX0_init 40 = .ok (.bipush 16, 2) := by decide +kernel
theorem dX0_init_42 : decode cX0_init 42 = .ok (.invokespecial 11, 3) := by decide +kernel
theorem dX0_init_45 : decode cX0_init 45 = .ok (.putfield 23, 3) := by decide +kernel
theorem dX0_init_48 : decode cX0_init 48 = .ok (.aload_n 0, 1) := by decide +kernel
theorem dX0_init_49 : decode cX0_init 49 = .ok (.new 9, 3) := by decide +kernel
theorem dX0_init_52 : decode cX0_init 52 = .ok (.dup, 1) := by decide +kernel
theorem dX0_init_53 : decode cX0_init 53 = .ok (.iconst 4, 1) := by decide +kernel
theorem dX0_init_54 : decode cX0_init 54 = .ok (.bipush 16, 2) := by decide +kernel
theorem dX0_init_56 : decode cX0_init 56 = .ok (.invokespecial 11, 3) := by decide +kernel
theorem dX0_init_59 : decode cX0_init 59 = .ok (.putfield 26, 3) := by decide +kernel
theorem dX0_init_62 : decode cX0_init 62 = .ok (.aload_n 0, 1) := by decide +kernel
theorem dX0_init_63 : decode cX0_init 63 = .ok (.new 9, 3) := by decide +kernel
theorem dX0_init_66 : decode cX0_init 66 = .ok (.dup, 1) := by decide +kernel
theorem dX0_init_67 : decode cX0_init 67 = .ok (.bipush 8, 2) := by decide +kernel
theorem dX0_init_69 : decode cX0_init 69 = .ok (.bipush 8, 2) := by decide +kernel
theorem dX0_init_71 : decode cX0_init 71 = .ok (.invokespecial 11, 3) := by decide +kernel
theorem dX0_init_74 : decode cX0_init 74 = .ok (.putfield 29, 3) := by decide +kernel
theorem dX0_init_77 : decode cX0_init 77 = .ok (.aload_n 0, 1) := by decide +kernel
theorem dX0_init_78 : decode cX0_init 78 = .ok (.bipush 8, 2) := by decide +kernel
theorem dX0_init_80 : decode cX0_init 80 = .ok (.newarray .int, 2) := by decide +kernel
theorem dX0_init_82 : decode cX0_init 82 = .ok (.putfield 32, 3) := by decide +kernel
theorem dX0_init_85 : decode cX0_init 85 = .ok (.aload_n 0, 1) := by decide +kernel
theorem dX0_init_86 : decode cX0_init 86 = .ok (.bipush 8, 2) := by decide +kernel
theorem dX0_init_88 : decode cX0_init 88 = .ok (.newarray .int, 2) := by decide +kernel
theorem dX0_init_90 : decode cX0_init 90 = .ok (.putfield 36, 3) := by decide +kernel
theorem dX0_init_93 : decode cX0_init 93 = .ok (.aload_n 0, 1) := by decide +kernel
theorem dX0_init_94 : decode cX0_init 94 = .ok (.bipush 8, 2) := by decide +kernel
theorem dX0_init_96 : decode cX0_init 96 = .ok (.newarray .int, 2) := by decide +kernel
theorem dX0_init_98 : decode cX0_init 98 = .ok (.putfield 39, 3) := by decide +kernel
theorem dX0_init_101 : decode cX0_init 101 = .ok (.aload_n 0, 1) := by decide +kernel
theorem dX0_init_102 : decode cX0_init 102 = .ok (.bipush 24, 2) := by decide +kernel
theorem dX0_init_104 : decode cX0_init 104 = .ok (.bipush 16, 2) := by decide +kernel
theorem dX0_init_106 : decode cX0_init 106 = .ok (.multianewarray 42 2, 4) := by decide +kernel
theorem dX0_init_110 : decode cX0_init 110 = .ok (.putfield 44, 3) := by decide +kernel
theorem dX0_init_113 : decode cX0_init 113 = .ok (.aload_n 0, 1) := by decide +kernel
theorem dX0_init_114 : decode cX0_init 114 = .ok (.invokevirtual 47, 3) := by decide +kernel
theorem dX0_init_117 : decode cX0_init 117 = .ok (.return_, 1) := by decide +kernel
theorem dX0_clear_0 : decode cX0_clear 0 = .ok (.aload_n 0, 1) := by decide +kernel
theorem dX0_clear_1 : decode cX0_clear 1 = .ok (.getfield 14, 3) := by decide +kernel
theorem dX0_clear_4 : decode cX0_clear 4 = .ok (.iconst 0, 1) := by decide +kernel
theorem dX0_clear_5 : decode cX0_clear 5 = .ok (.putfield 50, 3) := by decide +kernel
theorem dX0_clear_8 : decode cX0_clear 8 = .ok (.aload_n 0, 1) := by decide +kernel
theorem dX0_clear_9 : decode cX0_clear 9 = .ok (.getfield 20, 3) := by decide +kernel
theorem dX0_clear_12 : decode cX0_clear 12 = .ok (.iconst 0, 1) := by decide +kernel
theorem dX0_clear_13 : decode cX0_clear 13 = .ok (.putfield 50, 3) := by decide +kernel
theorem dX0_clear_16 : decode cX0_clear 16 = .ok (.aload_n 0, 1) := by decide +kernel
theorem dX0_clear_17 : decode cX0_clear 17 = .ok (.getfield 23, 3) := by decide +kernel
theorem dX0_clear_20 : decode cX0_clear 20 = .ok (.iconst 0, 1) := by decide +kernel
theorem dX0_clear_21 : decode cX0_clear 21 = .ok (.putfield 50, 3) := by decide +kernel
theorem dX0_clear_24 : decode cX0_clear 24 = .ok (.aload_n 0, 1) := by decide +kernel
theorem dX0_clear_25 : decode cX0_clear 25 = .ok (.getfield 26, 3) := by decide +kernel
theorem dX0_clear_28 : decode cX0_clear 28 = .ok (.iconst 0, 1) := by decide +kernel
theorem dX0_clear_29 : decode cX0_clear 29 = .ok (.putfield 50, 3) := by decide +kernel
theorem dX0_clear_32 : decode cX0_clear 32 = .ok (.aload_n 0, 1) := by decide +kernel
theorem dX0_clear_33 : decode cX0_clear 33 = .ok (.getfield 29, 3) := by decide +kernel
theorem dX0_clear_36 : decode cX0_clear 36 = .ok (.iconst 0, 1) := by decide +kernel
theorem dX0_clear_37 : decode cX0_clear 37 = .ok (.putfield 50, 3) := by decide +kernel
theorem dX0_clear_40 : decode cX0_clear 40 = .ok (.aload_n 0, 1) := by decide +kernel
theorem dX0_clear_41 : decode cX0_clear 41 = .ok (.iconst 4, 1) := by decide +kernel
theorem dX0_clear_42 : decode cX0_clear 42 = .ok (.putfield 54, 3) := by decide +kernel
theorem dX0_clear_45 : decode cX0_clear 45 = .ok (.aload_n 0, 1) := by decide +kernel
theorem dX0_clear_46 : decode cX0_clear 46 = .ok (.bipush 12, 2) := by decide +kernel
theorem dX0_clear_48 : decode cX0_clear 48 = .ok (.putfield 57, 3) := by decide +kernel
theorem dX0_clear_51 : decode cX0_clear 51 = .ok (.aload_n 0, 1) := by decide +kernel
theorem dX0_clear_52 : decode cX0_clear 52 = .ok (.bipush 10, 2) := by decide +kernel
theorem dX0_clear_54 : decode cX0_clear 54 = .ok (.putfield 60, 3) := by decide +kernel
theorem dX0_clear_57 : decode cX0_clear 57 = .ok (.aload_n 0, 1) := by decide +kernel
theorem dX0_clear_58 : decode cX0_clear 58 = .ok (.iconst 0, 1) := by decide +kernel
theorem dX0_clear_59 : decode cX0_clear 59 = .ok (.putfield 63, 3) := by decide +kernel
theorem dX0_clear_62 : decode cX0_clear 62 = .ok (.aload_n 0, 1) := by decide +kernel
theorem dX0_clear_63 : decode cX0_clear 63 = .ok (.iconst 0, 1) := by decide +kernel
theorem dX0_clear_64 : decode cX0_clear 64 = .ok (.putfield 66, 3) := by decide +kernel
theorem dX0_clear_67 : decode cX0_clear 67 = .ok (.return_, 1) := by decide +kernel
theorem dX0_mixLight_0 : decode cX0_mixLight 0 = .ok (.iconst 0, 1) := by decide +kernel
theorem dX0_mixLight_1 : decode cX0_mixLight 1 = .ok (.istore_n 1, 1) := by decide +kernel
theorem dX0_mixLight_2 : decode cX0_mixLight 2 = .ok (.iload_n 1, 1) := by decide +kernel
theorem dX0_mixLight_3 : decode cX0_mixLight 3 = .ok (.aload_n 0, 1) := by decide +kernel
theorem dX0_mixLight_4 : decode cX0_mixLight 4 = .ok (.getfield 23, 3) := by decide +kernel
theorem dX0_mixLight_7 : decode cX0_mixLight 7 = .ok (.getfield 50, 3) := by decide +kernel
theorem dX0_mixLight_10 : decode cX0_mixLight 10 = .ok (.if_icmp .ge 86, 3) := by decide +kernel
theorem dX0_mixLight_13 : decode cX0_mixLight 13 = .ok (.iconst 0, 1) := by decide +kernel
theorem dX0_mixLight_14 : decode cX0_mixLight 14 = .ok (.istore_n 2, 1) := by decide +kernel
theorem dX0_mixLight_15 : decode cX0_mixLight 15 = .ok (.iload_n 2, 1) := by decide +kernel
theorem dX0_mixLight_16 : decode cX0_mixLight 16 = .ok (.aload_n 0, 1) := by decide +kernel
theorem dX0_mixLight_17 : decode cX0_mixLight 17 = .ok (.getfield 26, 3) := by decide +kernel
theorem dX0_mixLight_20 : decode cX0_mixLight 20 = .ok (.getfield 50, 3) := by decide +kernel
theorem dX0_mixLight_23 : decode cX0_mixLight 23 = .ok (.if_icmp .ge 67, 3) := by decide +kernel
theorem dX0_mixLight_26 : decode cX0_mixLight 26 = .ok (.aload_n 0, 1) := by decide +kernel
theorem dX0_mixLight_27 : decode cX0_mixLight 27 = .ok (.getfield 44, 3) := by decide +kernel
theorem dX0_mixLight_30 : decode cX0_mixLight 30 = .ok (.iload_n 1, 1) := by decide +kernel
theorem dX0_mixLight_31 : decode cX0_mixLight 31 = .ok (.iconst 4, 1) := by decide +kernel
theorem dX0_mixLight_32 : decode cX0_mixLight 32 = .ok (.imul, 1) := by decide +kernel
theorem dX0_mixLight_33 : decode cX0_mixLight 33 = .ok (.iload_n 2, 1) := by decide +kernel
theorem dX0_mixLight_34 : decode cX0_mixLight 34 = .ok (.iadd, 1) := by decide +kernel
theorem dX0_mixLight_35 : decode cX0_mixLight 35 = .ok (.aaload, 1) := by decide +kernel
theorem dX0_mixLight_36 : decode cX0_mixLight 36 = .ok (.astore_n 3, 1) := by decide +kernel
theorem dX0_mixLight_37 : decode cX0_mixLight 37 = .ok (.iconst 0, 1) := by decide +kernel
theorem dX0_mixLight_38 : decode cX0_mixLight 38 = .ok (.istore 4, 2) := by decide +kernel
theorem dX0_mixLight_40 : decode cX0_mixLight 40 = .ok (.iload 4, 2) := by decide +kernel
theorem dX0_mixLight_42 : decode cX0_mixLight 42 = .ok (.aload_n 0, 1) := by decide +kernel
theorem dX0_mixLight_43 : decode cX0_mixLight 43 = .ok (.getfield 54, 3) := by decide +kernel
theorem dX0_mixLight_46 : decode cX0_mixLight 46 = .ok (.if_icmp .ge 38, 3) := by decide +kernel
theorem dX0_mixLight_49 : decode cX0_mixLight 49 = .ok (.aload_n 3, 1) := by decide +kernel
theorem dX0_mixLight_50 : decode cX0_mixLight 50 = .ok (.iload 4, 2) := by decide +kernel
theorem dX0_mixLight_52 : decode cX0_mixLight 52 = .ok (.aload_n 0, 1) := by decide +kernel
theorem dX0_mixLight_53 : decode cX0_mixLight 53 = .ok (.getfield 23, 3) := by decide +kernel
theorem dX0_mixLight_56 : decode cX0_mixLight 56 = .ok (.getfield 70, 3) := by decide +kernel
theorem dX0_mixLight_59 : decode cX0_mixLight 59 = .ok (.iload_n 1, 1) := by decide +kernel
theorem dX0_mixLight_60 : decode cX0_mixLight 60 = .ok (.aaload, 1) := by decide +kernel
theorem dX0_mixLight_61 : decode cX0_mixLight 61 = .ok (.iload 4, 2) := by decide +kernel
theorem dX0_mixLight_63 : decode cX0_mixLight 63 = .ok (.iaload, 1) := by decide +kernel
theorem dX0_mixLight_64 : decode cX0_mixLight 64 = .ok (.aload_n 0, 1) := by decide +kernel
theorem dX0_mixLight_65 : decode cX0_mixLight 65 = .ok (.getfield 26, 3) := by decide +kernel
theorem dX0_mixLight_68 : decode cX0_mixLight 68 = .ok (.getfield 70, 3) := by decide +kernel
theorem dX0_mixLight_71 : decode cX0_mixLight 71 = .ok (.iload_n 2, 1) := by decide +kernel
theorem dX0_mixLight_72 : decode cX0_mixLight 72 = .ok (.aaload, 1) := by decide +kernel
theorem dX0_mixLight_73 : decode cX0_mixLight 73 = .ok (.iload 4, 2) := by decide +kernel
theorem dX0_mixLight_75 : decode cX0_mixLight 75 = .ok (.iaload, 1) := by decide +kernel
theorem dX0_mixLight_76 : decode cX0_mixLight 76 = .ok (.imul, 1) := by decide +kernel
theorem dX0_mixLight_77 : decode cX0_mixLight 77 = .ok (.iastore, 1) := by decide +kernel
theorem dX0_mixLight_78 : decode cX0_mixLight 78 = .ok (.iinc 4 1, 3) := by decide +kernel
theorem dX0_mixLight_81 : decode cX0_mixLight 81 = .ok (.goto (-41), 3) := by decide +kernel
theorem dX0_mixLight_84 : decode cX0_mixLight 84 = .ok (.iinc 2 1, 3) := by decide +kernel
theorem dX0_mixLight_87 : decode cX0_mixLight 87 = .ok (.goto (-72), 3) := by decide +kernel
theorem dX0_mixLight_90 : decode cX0_mixLight 90 = .ok (.iinc 1 1, 3) := by decide +kernel
theorem dX0_mixLight_93 : decode cX0_mixLight 93 = .ok (.goto (-91), 3) := by decide +kernel
theorem dX0_mixLight_96 : decode cX0_mixLight 96 = .ok (.return_, 1) := by decide +kernel
theorem dX0_layGround_0 : decode cX0_layGround 0 = .ok (.aload_n 0, 1) := by decide +kernel
theorem dX0_layGround_1 : decode cX0_layGround 1 = .ok (.getfield 66, 3) := by decide +kernel
theorem dX0_layGround_4 : decode cX0_layGround 4 = .ok (.ifCond .eq 9, 3) := by decide +kernel
theorem dX0_layGround_7 : decode cX0_layGround 7 = .ok (.sipush 1000, 3) := by decide +kernel
theorem dX0_layGround_10 : decode cX0_layGround 10 = .ok (.goto 7, 3) := by decide +kernel
theorem dX0_layGround_13 : decode cX0_layGround 13 = .ok (.aload_n 0, 1) := by decide +kernel
theorem dX0_layGround_14 : decode cX0_layGround 14 = .ok (.getfield 57, 3) := by decide +kernel
theorem dX0_layGround_17 : decode cX0_layGround 17 = .ok (.istore_n 3, 1) := by decide +kernel
theorem dX0_layGround_18 : decode cX0_layGround 18 = .ok (.iconst 0, 1) := by decide +kernel
theorem dX0_layGround_19 : decode cX0_layGround 19 = .ok (.istore 4, 2) := by decide +kernel
theorem dX0_layGround_21 : decode cX0_layGround 21 = .ok (.iload 4, 2) := by decide +kernel
theorem dX0_layGround_23 : decode cX0_layGround 23 = .ok (.aload_n 0, 1) := by decide +kernel
theorem dX0_layGround_24 : decode cX0_layGround 24 = .ok (.getfield 54, 3) := by decide +kernel
theorem dX0_layGround_27 : decode cX0_layGround 27 = .ok (.if_icmp .ge 27, 3) := by decide +kernel
theorem dX0_layGround_30 : decode cX0_layGround 30 = .ok (.aload_n 2, 1) := by decide +kernel
theorem dX0_layGround_31 : decode cX0_layGround 31 = .ok (.iload 4, 2) := by decide +kernel
theorem dX0_layGround_33 : decode cX0_layGround 33 = .ok (.aload_n 0, 1) := by decide +kernel
theorem dX0_layGround_34 : decode cX0_layGround 34 = .ok (.getfield 20, 3) := by decide +kernel
theorem dX0_layGround_37 : decode cX0_layGround 37 = .ok (.getfield 70, 3) := by decide +kernel
theorem dX0_layGround_40 : decode cX0_layGround 40 = .ok (.iload_n 1, 1) := by decide +kernel
theorem dX0_layGround_41 : decode cX0_layGround 41 = .ok (.aaload, 1) := by decide +kernel
theorem dX0_layGround_42 : decode cX0_layGround 42 = .ok (.iload 4, 2) := by decide +kernel
theorem dX0_layGround_44 : decode cX0_layGround 44 = .ok (.iaload, 1) := by decide +kernel
theorem dX0_layGround_45 : decode cX0_layGround 45 = .ok (.iload_n 3, 1) := by decide +kernel
theorem dX0_layGround_46 : decode cX0_layGround 46 = .ok (.imul, 1) := by decide +kernel
theorem dX0_layGround_47 : decode cX0_layGround 47 = .ok (.iastore, 1) := by decide +kernel
theorem dX0_layGround_48 : decode cX0_layGround 48 = .ok (.iinc 4 1, 3) := by decide +kernel
theorem dX0_layGround_51 : decode cX0_layGround 51 = .ok (.goto (-30), 3) := by decide +kernel
theorem dX0_layGround_54 : decode cX0_layGround 54 = .ok (.return_, 1) := by decide +kernel
theorem dX0_addPart_0 : decode cX0_addPart 0 = .ok (.aload_n 0, 1) := by decide +kernel
theorem dX0_addPart_1 : decode cX0_addPart 1 = .ok (.getfield 14, 3) := by decide +kernel
theorem dX0_addPart_4 : decode cX0_addPart 4 = .ok (.getfield 70, 3) := by decide +kernel
theorem dX0_addPart_7 : decode cX0_addPart 7 = .ok (.iload_n 2, 1) := by decide +kernel
theorem dX0_addPart_8 : decode cX0_addPart 8 = .ok (.aaload, 1) := by decide +kernel
theorem dX0_addPart_9 : decode cX0_addPart 9 = .ok (.astore 5, 2) := by decide +kernel
theorem dX0_addPart_11 : decode cX0_addPart 11 = .ok (.aload_n 0, 1) := by decide +kernel
theorem dX0_addPart_12 : decode cX0_addPart 12 = .ok (.getfield 20, 3) := by decide +kernel
theorem dX0_addPart_15 : decode cX0_addPart 15 = .ok (.getfield 70, 3) := by decide +kernel
theorem dX0_addPart_18 : decode cX0_addPart 18 = .ok (.iload_n 1, 1) := by decide +kernel
theorem dX0_addPart_19 : decode cX0_addPart 19 = .ok (.aaload, 1) := by decide +kernel
theorem dX0_addPart_20 : decode cX0_addPart 20 = .ok (.astore 6, 2) := by decide +kernel
theorem dX0_addPart_22 : decode cX0_addPart 22 = .ok (.iconst 0, 1) := by decide +kernel
theorem dX0_addPart_23 : decode cX0_addPart 23 = .ok (.istore 7, 2) := by decide +kernel
theorem dX0_addPart_25 : decode cX0_addPart 25 = .ok (.iload 7, 2) := by decide +kernel
theorem dX0_addPart_27 : decode cX0_addPart 27 = .ok (.aload_n 0, 1) := by decide +kernel
theorem dX0_addPart_28 : decode cX0_addPart 28 = .ok (.getfield 54, 3) := by decide +kernel
theorem dX0_addPart_31 : decode cX0_addPart 31 = .ok (.if_icmp .ge 53, 3) := by decide +kernel
theorem dX0_addPart_34 : decode cX0_addPart 34 = .ok (.aload 4, 2) := by decide +kernel
theorem dX0_addPart_36 : decode cX0_addPart 36 = .ok (.iload 7, 2) := by decide +kernel
theorem dX0_addPart_38 : decode cX0_addPart 38 = .ok (.aload_n 0, 1) := by decide +kernel
theorem dX0_addPart_39 : decode cX0_addPart 39 = .ok (.getfield 66, 3) := by decide +kernel
theorem dX0_addPart_42 : decode cX0_addPart 42 = .ok (.ifCond .eq 19, 3) := by decide +kernel
theorem dX0_addPart_45 : decode cX0_addPart 45 = .ok (.aload_n 3, 1) := by decide +kernel
theorem dX0_addPart_46 : decode cX0_addPart 46 = .ok (.iload 7, 2) := by decide +kernel
theorem dX0_addPart_48 : decode cX0_addPart 48 = .ok (.iaload, 1) := by decide +kernel
theorem dX0_addPart_49 : decode cX0_addPart 49 = .ok (.aload 5, 2) := by decide +kernel
theorem dX0_addPart_51 : decode cX0_addPart 51 = .ok (.iload 7, 2) := by decide +kernel
theorem dX0_addPart_53 : decode cX0_addPart 53 = .ok (.iaload, 1) := by decide +kernel
theorem dX0_addPart_54 : decode cX0_addPart 54 = .ok (.imul, 1) := by decide +kernel
theorem dX0_addPart_55 : decode cX0_addPart 55 = .ok (.bipush 100, 2) := by decide +kernel
theorem dX0_addPart_57 : decode cX0_addPart 57 = .ok (.idiv, 1) := by decide +kernel
theorem dX0_addPart_58 : decode cX0_addPart 58 = .ok (.goto 19, 3) := by decide +kernel
theorem dX0_addPart_61 : decode cX0_addPart 61 = .ok (.aload_n 3, 1) := by decide +kernel
theorem dX0_addPart_62 : decode cX0_addPart 62 = .ok (.iload 7, 2) := by decide +kernel
theorem dX0_addPart_64 : decode cX0_addPart 64 = .ok (.iaload, 1) := by decide +kernel
theorem dX0_addPart_65 : decode cX0_addPart 65 = .ok (.aload 5, 2) := by decide +kernel
theorem dX0_addPart_67 : decode cX0_addPart 67 = .ok (.iload 7, 2) := by decide +kernel
theorem dX0_addPart_69 : decode cX0_addPart 69 = .ok (.iaload, 1) := by decide +kernel
theorem dX0_addPart_70 : decode cX0_addPart 70 = .ok (.iadd, 1) := by decide +kernel
theorem dX0_addPart_71 : decode cX0_addPart 71 = .ok (.aload 6, 2) := by decide +kernel
theorem dX0_addPart_73 : decode cX0_addPart 73 = .ok (.iload 7, 2) := by decide +kernel
theorem dX0_addPart_75 : decode cX0_addPart 75 = .ok (.iaload, 1) := by decide +kernel
theorem dX0_addPart_76 : decode cX0_addPart 76 = .ok (.isub, 1) := by decide +kernel
theorem dX0_addPart_77 : decode cX0_addPart 77 = .ok (.iastore, 1) := by decide +kernel
theorem dX0_addPart_78 : decode cX0_addPart 78 = .ok (.iinc 7 1, 3) := by decide +kernel
theorem dX0_addPart_81 : decode cX0_addPart 81 = .ok (.goto (-56), 3) := by decide +kernel
theorem dX0_addPart_84 : decode cX0_addPart 84 = .ok (.return_, 1) := by decide +kernel
theorem dX0_settle_0 : decode cX0_settle 0 = .ok (.aload_n 0, 1) := by decide +kernel
theorem dX0_settle_1 : decode cX0_settle 1 = .ok (.getfield 66, 3) := by decide +kernel
theorem dX0_settle_4 : decode cX0_settle 4 = .ok (.ifCond .eq 7, 3) := by decide +kernel
theorem dX0_settle_7 : decode cX0_settle 7 = .ok (.iconst 1, 1) := by decide +kernel
theorem dX0_settle_8 : decode cX0_settle 8 = .ok (.goto 7, 3) := by decide +kernel
theorem dX0_settle_11 : decode cX0_settle 11 = .ok (.aload_n 0, 1) := by decide +kernel
theorem dX0_settle_12 : decode cX0_settle 12 = .ok (.getfield 57, 3) := by decide +kernel
theorem dX0_settle_15 : decode cX0_settle 15 = .ok (.istore_n 3, 1) := by decide +kernel
theorem dX0_settle_16 : decode cX0_settle 16 = .ok (.aload_n 0, 1) := by decide +kernel
theorem dX0_settle_17 : decode cX0_settle 17 = .ok (.getfield 66, 3) := by decide +kernel
theorem dX0_settle_20 : decode cX0_settle 20 = .ok (.ifCond .eq 7, 3) := by decide +kernel
theorem dX0_settle_23 : decode cX0_settle 23 = .ok (.iconst 1, 1) := by decide +kernel
theorem dX0_settle_24 : decode cX0_settle 24 = .ok (.goto 6, 3) := by decide +kernel
theorem dX0_settle_27 : decode cX0_settle 27 = .ok (.sipush 1000, 3) := by decide +kernel
theorem dX0_settle_30 : decode cX0_settle 30 = .ok (.istore 4, 2) := by decide +kernel
theorem dX0_settle_32 : decode cX0_settle 32 = .ok (.iload_n 3, 1) := by decide +kernel
theorem dX0_settle_33 : decode cX0_settle 33 = .ok (.iconst 1, 1) := by decide +kernel
theorem dX0_settle_34 : decode cX0_settle 34 = .ok (.if_icmp .ge 4, 3) := by decide +kernel
theorem dX0_settle_37 : decode cX0_settle 37 = .ok (.return_, 1) := by decide +kernel
theorem dX0_settle_38 : decode cX0_settle 38 = .ok (.iconst 0, 1) := by decide +kernel
theorem dX0_settle_39 : decode cX0_settle 39 = .ok (.istore 5, 2) := by decide +kernel
theorem dX0_settle_41 : decode cX0_settle 41 = .ok (.iload 5, 2) := by decide +kernel
theorem dX0_settle_43 : decode cX0_settle 43 = .ok (.aload_n 0, 1) := by decide +kernel
theorem dX0_settle_44 : decode cX0_settle 44 = .ok (.getfield 54, 3) := by decide +kernel
theorem dX0_settle_47 : decode cX0_settle 47 = .ok (.if_icmp .ge 22, 3) := by decide +kernel
theorem dX0_settle_50 : decode cX0_settle 50 = .ok (.aload_n 2, 1) := by decide +kernel
theorem dX0_settle_51 : decode cX0_settle 51 = .ok (.iload 5, 2) := by decide +kernel
theorem dX0_settle_53 : decode cX0_settle 53 = .ok (.aload_n 1, 1) := by decide +kernel
theorem dX0_settle_54 : decode cX0_settle 54 = .ok (.iload 5, 2) := by decide +kernel
theorem dX0_settle_56 : decode cX0_settle 56 = .ok (.iaload, 1) := by decide +kernel
theorem dX0_settle_57 : decode cX0_settle 57 = .ok (.iload 4, 2) := by decide +kernel
theorem dX0_settle_59 : decode cX0_settle 59 = .ok (.imul, 1) := by decide +kernel
theorem dX0_settle_60 : decode cX0_settle 60 = .ok (.iload_n 3, 1) := by decide +kernel
theorem dX0_settle_61 : decode cX0_settle 61 = .ok (.idiv, 1) := by decide +kernel
theorem dX0_settle_62 : decode cX0_settle 62 = .ok (.iastore, 1) := by decide +kernel
theorem dX0_settle_63 : decode cX0_settle 63 = .ok (.iinc 5 1, 3) := by decide +kernel
theorem dX0_settle_66 : decode cX0_settle 66 = .ok (.goto (-25), 3) := by decide +kernel
theorem dX0_settle_69 : decode cX0_settle 69 = .ok (.return_, 1) := by decide +kernel
theorem dX0_throwBack_0 : decode cX0_throwBack 0 = .ok (.aload_n 0, 1) := by decide +kernel
theorem dX0_throwBack_1 : decode cX0_throwBack 1 = .ok (.iload_n 1, 1) := by decide +kernel
theorem dX0_throwBack_2 : decode cX0_throwBack 2 = .ok (.aload_n 3, 1) := by decide +kernel
theorem dX0_throwBack_3 : decode cX0_throwBack 3 = .ok (.invokevirtual 73, 3) := by decide +kernel
theorem dX0_throwBack_6 : decode cX0_throwBack 6 = .ok (.iconst 0, 1) := by decide +kernel
theorem dX0_throwBack_7 : decode cX0_throwBack 7 = .ok (.istore 4, 2) := by decide +kernel
theorem dX0_throwBack_9 : decode cX0_throwBack 9 = .ok (.iload 4, 2) := by decide +kernel
theorem dX0_throwBack_11 : decode cX0_throwBack 11 = .ok (.aload_n 0, 1) := by decide +kernel
theorem dX0_throwBack_12 : decode cX0_throwBack 12 = .ok (.getfield 14, 3) := by decide +kernel
theorem dX0_throwBack_15 : decode cX0_throwBack 15 = .ok (.getfield 50, 3) := by decide +kernel
theorem dX0_throwBack_18 : decode cX0_throwBack 18 = .ok (.if_icmp .ge 36, 3) := by decide +kernel
theorem dX0_throwBack_21 : decode cX0_throwBack 21 = .ok (.iconst 0, 1) := by decide +kernel
theorem dX0_throwBack_22 : decode cX0_throwBack 22 = .ok (.istore 5, 2) := by decide +kernel
theorem dX0_throwBack_24 : decode cX0_throwBack 24 = .ok (.iload 5, 2) := by decide +kernel
theorem dX0_throwBack_26 : decode cX0_throwBack 26 = .ok (.aload_n 2, 1) := by decide +kernel
theorem dX0_throwBack_27 : decode cX0_throwBack 27 = .ok (.iload 4, 2) := by decide +kernel
theorem dX0_throwBack_29 : decode cX0_throwBack 29 = .ok (.iaload, 1) := by decide +kernel
theorem dX0_throwBack_30 : decode cX0_throwBack 30 = .ok (.if_icmp .ge 18, 3) := by decide +kernel
theorem dX0_throwBack_33 : decode cX0_throwBack 33 = .ok (.aload_n 0, 1) := by decide +kernel
theorem dX0_throwBack_34 : decode cX0_throwBack 34 = .ok (.iload_n 1, 1) := by decide +kernel
theorem dX0_throwBack_35 : decode cX0_throwBack 35 = .ok (.iload 4, 2) := by decide +kernel
theorem dX0_throwBack_37 : decode cX0_throwBack 37 = .ok (.aload_n 3, 1) := by decide +kernel
theorem dX0_throwBack_38 : decode cX0_throwBack 38 = .ok (.aload_n 3, 1) := by decide +kernel
theorem dX0_throwBack_39 : decode cX0_throwBack 39 = .ok (.invokevirtual 77, 3) := by decide +kernel
theorem dX0_throwBack_42 : decode cX0_throwBack 42 = .ok (.iinc 5 1, 3) := by decide +kernel
theorem dX0_throwBack_45 : decode cX0_throwBack 45 = .ok (.goto (-21), 3) := by decide +kernel
theorem dX0_throwBack_48 : decode cX0_throwBack 48 = .ok (.iinc 4 1, 3) := by decide +kernel
theorem dX0_throwBack_51 : decode cX0_throwBack 51 = .ok (.goto (-42), 3) := by decide +kernel
theorem dX0_throwBack_54 : decode cX0_throwBack 54 = .ok (.aload_n 0, 1) := by decide +kernel
theorem dX0_throwBack_55 : decode cX0_throwBack 55 = .ok (.aload_n 3, 1) := by decide +kernel
theorem dX0_throwBack_56 : decode cX0_throwBack 56 = .ok (.aload_n 3, 1) := by decide +kernel
theorem dX0_throwBack_57 : decode cX0_throwBack 57 = .ok (.invokevirtual 81, 3) := by decide +kernel
theorem dX0_throwBack_60 : decode cX0_throwBack 60 = .ok (.return_, 1) := by decide +kernel
theorem dX0_seenOf_0 : decode cX0_seenOf 0 = .ok (.aload_n 0, 1) := by decide +kernel
theorem dX0_seenOf_1 : decode cX0_seenOf 1 = .ok (.getfield 44, 3) := by decide +kernel
theorem dX0_seenOf_4 : decode cX0_seenOf 4 = .ok (.iload_n 2, 1) := by decide +kernel
theorem dX0_seenOf_5 : decode cX0_seenOf 5 = .ok (.iconst 4, 1) := by decide +kernel
theorem dX0_seenOf_6 : decode cX0_seenOf 6 = .ok (.imul, 1) := by decide +kernel
theorem dX0_seenOf_7 : decode cX0_seenOf 7 = .ok (.iload_n 3, 1) := by decide +kernel
theorem dX0_seenOf_8 : decode cX0_seenOf 8 = .ok (.iadd, 1) := by decide +kernel
theorem dX0_seenOf_9 : decode cX0_seenOf 9 = .ok (.aaload, 1) := by decide +kernel
theorem dX0_seenOf_10 : decode cX0_seenOf 10 = .ok (.astore 4, 2) := by decide +kernel
theorem dX0_seenOf_12 : decode cX0_seenOf 12 = .ok (.lconst 0, 1) := by decide +kernel
theorem dX0_seenOf_13 : decode cX0_seenOf 13 = .ok (.lstore 5, 2) := by decide +kernel
theorem dX0_seenOf_15 : decode cX0_seenOf 15 = .ok (.iconst 0, 1) := by decide +kernel
theorem dX0_seenOf_16 : decode cX0_seenOf 16 = .ok (.istore 7, 2) := by decide +kernel
theorem dX0_seenOf_18 : decode cX0_seenOf 18 = .ok (.iload 7, 2) := by decide +kernel
theorem dX0_seenOf_20 : decode cX0_seenOf 20 = .ok (.aload_n 0, 1) := by decide +kernel
theorem dX0_seenOf_21 : decode cX0_seenOf 21 = .ok (.getfield 54, 3) := by decide +kernel
theorem dX0_seenOf_24 : decode cX0_seenOf 24 = .ok (.if_icmp .ge 26, 3) := by decide +kernel
theorem dX0_seenOf_27 : decode cX0_seenOf 27 = .ok (.lload 5, 2) := by decide +kernel
theorem dX0_seenOf_29 : decode cX0_seenOf 29 = .ok (.aload_n 1, 1) := by decide +kernel
theorem dX0_seenOf_30 : decode cX0_seenOf 30 = .ok (.iload 7, 2) := by decide +kernel
theorem dX0_seenOf_32 : decode cX0_seenOf 32 = .ok (.iaload, 1) := by decide +kernel
theorem dX0_seenOf_33 : decode cX0_seenOf 33 = .ok (.i2l, 1) := by decide +kernel
theorem dX0_seenOf_34 : decode cX0_seenOf 34 = .ok (.aload 4, 2) := by decide +kernel
theorem dX0_seenOf_36 : decode cX0_seenOf 36 = .ok (.iload 7, 2) := by decide +kernel
theorem dX0_seenOf_38 : decode cX0_seenOf 38 = .ok (.iaload, 1) := by decide +kernel
theorem dX0_seenOf_39 : decode cX0_seenOf 39 = .ok (.i2l, 1) := by decide +kernel
theorem dX0_seenOf_40 : decode cX0_seenOf 40 = .ok (.lmul, 1) := by decide +kernel
theorem dX0_seenOf_41 : decode cX0_seenOf 41 = .ok (.ladd, 1) := by decide +kernel
theorem dX0_seenOf_42 : decode cX0_seenOf 42 = .ok (.lstore 5, 2) := by decide +kernel
theorem dX0_seenOf_44 : decode cX0_seenOf 44 = .ok (.iinc 7 1, 3) := by decide +kernel
theorem dX0_seenOf_47 : decode cX0_seenOf 47 = .ok (.goto (-29), 3) := by decide +kernel
theorem dX0_seenOf_50 : decode cX0_seenOf 50 = .ok (.lload 5, 2) := by decide +kernel
theorem dX0_seenOf_52 : decode cX0_seenOf 52 = .ok (.lreturn, 1) := by decide +kernel
theorem dX0_apartOf_0 : decode cX0_apartOf 0 = .ok (.iload 4, 2) := by decide +kernel
theorem dX0_apartOf_2 : decode cX0_apartOf 2 = .ok (.ifCond .eq 7, 3) := by decide +kernel
theorem dX0_apartOf_5 : decode cX0_apartOf 5 = .ok (.iconst 2, 1) := by decide +kernel
theorem dX0_apartOf_6 : decode cX0_apartOf 6 = .ok (.goto 4, 3) := by decide +kernel
theorem dX0_apartOf_9 : decode cX0_apartOf 9 = .ok (.iconst 3, 1) := by decide +kernel
theorem dX0_apartOf_10 : decode cX0_apartOf 10 = .ok (.istore 5, 2) := by decide +kernel
theorem dX0_apartOf_12 : decode cX0_apartOf 12 = .ok (.lconst 0, 1) := by decide +kernel
theorem dX0_apartOf_13 : decode cX0_apartOf 13 = .ok (.lstore 6, 2) := by decide +kernel
theorem dX0_apartOf_15 : decode cX0_apartOf 15 = .ok (.iconst 0, 1) := by decide +kernel
theorem dX0_apartOf_16 : decode cX0_apartOf 16 = .ok (.istore 8, 2) := by decide +kernel
theorem dX0_apartOf_18 : decode cX0_apartOf 18 = .ok (.iload 8, 2) := by decide +kernel
theorem dX0_apartOf_20 : decode cX0_apartOf 20 = .ok (.aload_n 0, 1) := by decide +kernel
theorem dX0_apartOf_21 : decode cX0_apartOf 21 = .ok (.getfield 26, 3) := by decide +kernel
theorem dX0_apartOf_24 : decode cX0_apartOf 24 = .ok (.getfield 50, 3) := by decide +kernel
theorem dX0_apartOf_27 : decode cX0_apartOf 27 = .ok (.if_icmp .ge 84, 3) := by decide +kernel
theorem dX0_apartOf_30 : decode cX0_apartOf 30 = .ok (.iload 8, 2) := by decide +kernel
theorem dX0_apartOf_32 : decode cX0_apartOf 32 = .ok (.iload 5, 2) := by decide +kernel
theorem dX0_apartOf_34 : decode cX0_apartOf 34 = .ok (.if_icmp .eq 71, 3) := by decide +kernel
theorem dX0_apartOf_37 : decode cX0_apartOf 37 = .ok (.aload_n 0, 1) := by decide +kernel
theorem dX0_apartOf_38 : decode cX0_apartOf 38 = .ok (.getfield 44, 3) := by decide +kernel
theorem dX0_apartOf_41 : decode cX0_apartOf 41 = .ok (.iload_n 3, 1) := by decide +kernel
theorem dX0_apartOf_42 : decode cX0_apartOf 42 = .ok (.iconst 4, 1) := by decide +kernel
theorem dX0_apartOf_43 : decode cX0_apartOf 43 = .ok (.imul, 1) := by decide +kernel
theorem dX0_apartOf_44 : decode cX0_apartOf 44 = .ok (.iload 8, 2) := by decide +kernel
theorem dX0_apartOf_46 : decode cX0_apartOf 46 = .ok (.iadd, 1) := by decide +kernel
theorem dX0_apartOf_47 : decode cX0_apartOf 47 = .ok (.aaload, 1) := by decide +kernel
theorem dX0_apartOf_48 : decode cX0_apartOf 48 = .ok (.astore 9, 2) := by decide +kernel
theorem dX0_apartOf_50 : decode cX0_apartOf 50 = .ok (.lconst 0, 1) := by decide +kernel
theorem dX0_apartOf_51 : decode cX0_apartOf 51 = .ok (.lstore 10, 2) := by decide +kernel
theorem dX0_apartOf_53 : decode cX0_apartOf 53 = .ok (.iconst 0, 1) := by decide +kernel
theorem dX0_apartOf_54 : decode cX0_apartOf 54 = .ok (.istore 12, 2) := by decide +kernel
theorem dX0_apartOf_56 : decode cX0_apartOf 56 = .ok (.iload 12, 2) := by decide +kernel
theorem dX0_apartOf_58 : decode cX0_apartOf 58 = .ok (.aload_n 0, 1) := by decide +kernel
theorem dX0_apartOf_59 : decode cX0_apartOf 59 = .ok (.getfield 54, 3) := by decide +kernel
theorem dX0_apartOf_62 : decode cX0_apartOf 62 = .ok (.if_icmp .ge 31, 3) := by decide +kernel
theorem dX0_apartOf_65 : decode cX0_apartOf 65 = .ok (.lload 10, 2) := by decide +kernel
theorem dX0_apartOf_67 : decode cX0_apartOf 67 = .ok (.aload_n 1, 1) := by decide +kernel
theorem dX0_apartOf_68 : decode cX0_apartOf 68 = .ok (.iload 12, 2) := by decide +kernel
theorem dX0_apartOf_70 : decode cX0_apartOf 70 = .ok (.iaload, 1) := by decide +kernel
theorem dX0_apartOf_71 : decode cX0_apartOf 71 = .ok (.aload_n 2, 1) := by decide +kernel
theorem dX0_apartOf_72 : decode cX0_apartOf 72 = .ok (.iload 12, 2) := by decide +kernel
theorem dX0_apartOf_74 : decode cX0_apartOf 74 = .ok (.iaload, 1) := by decide +kernel
theorem dX0_apartOf_75 : decode cX0_apartOf 75 = .ok (.isub, 1) := by decide +kernel
theorem dX0_apartOf_76 : decode cX0_apartOf 76 = .ok (.i2l, 1) := by decide +kernel
theorem dX0_apartOf_77 : decode cX0_apartOf 77 = .ok (.aload 9, 2) := by decide +kernel
theorem dX0_apartOf_79 : decode cX0_apartOf 79 = .ok (.iload 12, 2) := by decide +kernel
theorem dX0_apartOf_81 : decode cX0_apartOf 81 = .ok (.iaload, 1) := by decide +kernel
theorem dX0_apartOf_82 : decode cX0_apartOf 82 = .ok (.i2l, 1) := by decide +kernel
theorem dX0_apartOf_83 : decode cX0_apartOf 83 = .ok (.lmul, 1) := by decide +kernel
theorem dX0_apartOf_84 : decode cX0_apartOf 84 = .ok (.ladd, 1) := by decide +kernel
theorem dX0_apartOf_85 : decode cX0_apartOf 85 = .ok (.lstore 10, 2) := by decide +kernel
theorem dX0_apartOf_87 : decode cX0_apartOf 87 = .ok (.iinc 12 1, 3) := by decide +kernel
theorem dX0_apartOf_90 : decode cX0_apartOf 90 = .ok (.goto (-34), 3) := by decide +kernel
theorem dX0_apartOf_93 : decode cX0_apartOf 93 = .ok (.lload 6, 2) := by decide +kernel
theorem dX0_apartOf_95 : decode cX0_apartOf 95 = .ok (.lload 10, 2) := by decide +kernel
theorem dX0_apartOf_97 : decode cX0_apartOf 97 = .ok (.invokestatic 85, 3) := by decide +kernel
theorem dX0_apartOf_100 : decode cX0_apartOf 100 = .ok (.invokestatic 91, 3) := by decide +kernel
theorem dX0_apartOf_103 : decode cX0_apartOf 103 = .ok (.lstore 6, 2) := by decide +kernel
theorem dX0_apartOf_105 : decode cX0_apartOf 105 = .ok (.iinc 8 1, 3) := by decide +kernel
theorem dX0_apartOf_108 : decode cX0_apartOf 108 = .ok (.goto (-90), 3) := by decide +kernel
theorem dX0_apartOf_111 : decode cX0_apartOf 111 = .ok (.lload 6, 2) := by decide +kernel
theorem dX0_apartOf_113 : decode cX0_apartOf 113 = .ok (.lreturn, 1) := by decide +kernel
theorem dX0_farthestOf_0 : decode cX0_farthestOf 0 = .ok (.lconst 0, 1) := by decide +kernel
theorem dX0_farthestOf_1 : decode cX0_farthestOf 1 = .ok (.lstore 4, 2) := by decide +kernel
theorem dX0_farthestOf_3 : decode cX0_farthestOf 3 = .ok (.iconst 0, 1) := by decide +kernel
theorem dX0_farthestOf_4 : decode cX0_farthestOf 4 = .ok (.istore 6, 2) := by decide +kernel
theorem dX0_farthestOf_6 : decode cX0_farthestOf 6 = .ok (.iload 6, 2) := by decide +kernel
theorem dX0_farthestOf_8 : decode cX0_farthestOf 8 = .ok (.aload_n 0, 1) := by decide +kernel
theorem dX0_farthestOf_9 : decode cX0_farthestOf 9 = .ok (.getfield 23, 3) := by decide +kernel
theorem dX0_farthestOf_12 : decode cX0_farthestOf 12 = .ok (.getfield 50, 3) := by decide +kernel
theorem dX0_farthestOf_15 : decode cX0_farthestOf 15 = .ok (.if_icmp .ge 25, 3) := by decide +kernel
theorem dX0_farthestOf_18 : decode cX0_farthestOf 18 = .ok (.lload 4, 2) := by decide +kernel
theorem dX0_farthestOf_20 : decode cX0_farthestOf 20 = .ok (.aload_n 0, 1) := by decide +kernel
theorem dX0_farthestOf_21 : decode cX0_farthestOf 21 = .ok (.aload_n 1, 1) := by decide +kernel
theorem dX0_farthestOf_22 : decode cX0_farthestOf 22 = .ok (.aload_n 2, 1) := by decide +kernel
theorem dX0_farthestOf_23 : decode cX0_farthestOf 23 = .ok (.iload 6, 2) := by decide +kernel
theorem dX0_farthestOf_25 : decode cX0_farthestOf 25 = .ok (.iload_n 3, 1) := by decide +kernel
theorem dX0_farthestOf_26 : decode cX0_farthestOf 26 = .ok (.invokevirtual 95, 3) := by decide +kernel
theorem dX0_farthestOf_29 : decode cX0_farthestOf 29 = .ok (.invokestatic 91, 3) := by decide +kernel
theorem dX0_farthestOf_32 : decode cX0_farthestOf 32 = .ok (.lstore 4, 2) := by decide +kernel
theorem dX0_farthestOf_34 : decode cX0_farthestOf 34 = .ok (.iinc 6 1, 3) := by decide +kernel
theorem dX0_farthestOf_37 : decode cX0_farthestOf 37 = .ok (.goto (-31), 3) := by decide +kernel
theorem dX0_farthestOf_40 : decode cX0_farthestOf 40 = .ok (.lload 4, 2) := by decide +kernel
theorem dX0_farthestOf_42 : decode cX0_farthestOf 42 = .ok (.lreturn, 1) := by decide +kernel
theorem dX0_areAlike_0 : decode cX0_areAlike 0 = .ok (.aload_n 0, 1) := by decide +kernel
theorem dX0_areAlike_1 : decode cX0_areAlike 1 = .ok (.aload_n 1, 1) := by decide +kernel
theorem dX0_areAlike_2 : decode cX0_areAlike 2 = .ok (.aload_n 2, 1) := by decide +kernel
theorem dX0_areAlike_3 : decode cX0_areAlike 3 = .ok (.iload_n 3, 1) := by decide +kernel
theorem dX0_areAlike_4 : decode cX0_areAlike 4 = .ok (.iload 4, 2) := by decide +kernel
theorem dX0_areAlike_6 : decode cX0_areAlike 6 = .ok (.invokevirtual 95, 3) := by decide +kernel
theorem dX0_areAlike_9 : decode cX0_areAlike 9 = .ok (.aload_n 0, 1) := by decide +kernel
theorem dX0_areAlike_10 : decode cX0_areAlike 10 = .ok (.getfield 60, 3) := by decide +kernel
theorem dX0_areAlike_13 : decode cX0_areAlike 13 = .ok (.i2l, 1) := by decide +kernel
theorem dX0_areAlike_14 : decode cX0_areAlike 14 = .ok (.ldc2_w 99, 3) := by decide +kernel
theorem dX0_areAlike_17 : decode cX0_areAlike 17 = .ok (.lmul, 1) := by decide +kernel
theorem dX0_areAlike_18 : decode cX0_areAlike 18 = .ok (.lcmp, 1) := by decide +kernel
theorem dX0_areAlike_19 : decode cX0_areAlike 19 = .ok (.ifCond .gt 7, 3) := by decide +kernel
theorem dX0_areAlike_22 : decode cX0_areAlike 22 = .ok (.iconst 1, 1) := by decide +kernel
theorem dX0_areAlike_23 : decode cX0_areAlike 23 = .ok (.goto 4, 3) := by decide +kernel
theorem dX0_areAlike_26 : decode cX0_areAlike 26 = .ok (.iconst 0, 1) := by decide +kernel
theorem dX0_areAlike_27 : decode cX0_areAlike 27 = .ok (.ireturn, 1) := by decide +kernel
theorem dX0_priceOf_0 : decode cX0_priceOf 0 = .ok (.iconst 0, 1) := by decide +kernel
theorem dX0_priceOf_1 : decode cX0_priceOf 1 = .ok (.istore_n 2, 1) := by decide +kernel
theorem dX0_priceOf_2 : decode cX0_priceOf 2 = .ok (.iconst 0, 1) := by decide +kernel
theorem dX0_priceOf_3 : decode cX0_priceOf 3 = .ok (.istore_n 3, 1) := by decide +kernel
theorem dX0_priceOf_4 : decode cX0_priceOf 4 = .ok (.iload_n 3, 1) := by decide +kernel
theorem dX0_priceOf_5 : decode cX0_priceOf 5 = .ok (.aload_n 0, 1) := by decide +kernel
theorem dX0_priceOf_6 : decode cX0_priceOf 6 = .ok (.getfield 14, 3) := by decide +kernel
theorem dX0_priceOf_9 : decode cX0_priceOf 9 = .ok (.getfield 50, 3) := by decide +kernel
theorem dX0_priceOf_12 : decode cX0_priceOf 12 = .ok (.if_icmp .ge 22, 3) := by decide +kernel
theorem dX0_priceOf_15 : decode cX0_priceOf 15 = .ok (.iload_n 2, 1) := by decide +kernel
theorem dX0_priceOf_16 : decode cX0_priceOf 16 = .ok (.aload_n 1, 1) := by decide +kernel
theorem dX0_priceOf_17 : decode cX0_priceOf 17 = .ok (.iload_n 3, 1) := by decide +kernel
theorem dX0_priceOf_18 : decode cX0_priceOf 18 = .ok (.iaload, 1) := by decide +kernel
theorem dX0_priceOf_19 : decode cX0_priceOf 19 = .ok (.aload_n 0, 1) := by decide +kernel
theorem dX0_priceOf_20 : decode cX0_priceOf 20 = .ok (.getfield 32, 3) := by decide +kernel
theorem dX0_priceOf_23 : decode cX0_priceOf 23 = .ok (.iload_n 3, 1) := by decide +kernel
theorem dX0_priceOf_24 : decode cX0_priceOf 24 = .ok (.iaload, 1) := by decide +kernel
theorem dX0_priceOf_25 : decode cX0_priceOf 25 = .ok (.imul, 1) := by decide +kernel
theorem dX0_priceOf_26 : decode cX0_priceOf 26 = .ok (.iadd, 1) := by decide +kernel
theorem dX0_priceOf_27 : decode cX0_priceOf 27 = .ok (.istore_n 2, 1) := by decide +kernel
theorem dX0_priceOf_28 : decode cX0_priceOf 28 = .ok (.iinc 3 1, 3) := by decide +kernel
theorem dX0_priceOf_31 : decode cX0_priceOf 31 = .ok (.goto (-27), 3) := by decide +kernel
theorem dX0_priceOf_34 : decode cX0_priceOf 34 = .ok (.iload_n 2, 1) := by decide +kernel
theorem dX0_priceOf_35 : decode cX0_priceOf 35 = .ok (.ireturn, 1) := by decide +kernel
theorem dX1_init_0 : decode cX1_init 0 = .ok (.aload_n 0, 1) := by decide +kernel
theorem dX1_init_1 : decode cX1_init 1 = .ok (.invokespecial 3, 3) := by decide +kernel
theorem dX1_init_4 : decode cX1_init 4 = .ok (.aload_n 0, 1) := by decide +kernel
theorem dX1_init_5 : decode cX1_init 5 = .ok (.bipush 40, 2) := by decide +kernel
theorem dX1_init_7 : decode cX1_init 7 = .ok (.newarray .int, 2) := by decide +kernel
theorem dX1_init_9 : decode cX1_init 9 = .ok (.putfield 9, 3) := by decide +kernel
theorem dX1_init_12 : decode cX1_init 12 = .ok (.aload_n 0, 1) := by decide +kernel
theorem dX1_init_13 : decode cX1_init 13 = .ok (.bipush 40, 2) := by decide +kernel
theorem dX1_init_15 : decode cX1_init 15 = .ok (.newarray .int, 2) := by decide +kernel
theorem dX1_init_17 : decode cX1_init 17 = .ok (.putfield 15, 3) := by decide +kernel
theorem dX1_init_20 : decode cX1_init 20 = .ok (.aload_n 0, 1) := by decide +kernel
theorem dX1_init_21 : decode cX1_init 21 = .ok (.bipush 40, 2) := by decide +kernel
theorem dX1_init_23 : decode cX1_init 23 = .ok (.newarray .int, 2) := by decide +kernel
theorem dX1_init_25 : decode cX1_init 25 = .ok (.putfield 18, 3) := by decide +kernel
theorem dX1_init_28 : decode cX1_init 28 = .ok (.aload_n 0, 1) := by decide +kernel
theorem dX1_init_29 : decode cX1_init 29 = .ok (.bipush 40, 2) := by decide +kernel
theorem dX1_init_31 : decode cX1_init 31 = .ok (.newarray .int, 2) := by decide +kernel
theorem dX1_init_33 : decode cX1_init 33 = .ok (.putfield 21, 3) := by decide +kernel
theorem dX1_init_36 : decode cX1_init 36 = .ok (.aload_n 0, 1) := by decide +kernel
theorem dX1_init_37 : decode cX1_init 37 = .ok (.bipush 40, 2) := by decide +kernel
theorem dX1_init_39 : decode cX1_init 39 = .ok (.newarray .int, 2) := by decide +kernel
theorem dX1_init_41 : decode cX1_init 41 = .ok (.putfield 24, 3) := by decide +kernel
theorem dX1_init_44 : decode cX1_init 44 = .ok (.aload_n 0, 1) := by decide +kernel
theorem dX1_init_45 : decode cX1_init 45 = .ok (.bipush 40, 2) := by decide +kernel
theorem dX1_init_47 : decode cX1_init 47 = .ok (.newarray .int, 2) := by decide +kernel
theorem dX1_init_49 : decode cX1_init 49 = .ok (.putfield 27, 3) := by decide +kernel
theorem dX1_init_52 : decode cX1_init 52 = .ok (.aload_n 0, 1) := by decide +kernel
theorem dX1_init_53 : decode cX1_init 53 = .ok (.bipush 72, 2) := by decide +kernel
theorem dX1_init_55 : decode cX1_init 55 = .ok (.newarray .long, 2) := by decide +kernel
theorem dX1_init_57 : decode cX1_init 57 = .ok (.putfield 30, 3) := by decide +kernel
theorem dX1_init_60 : decode cX1_init 60 = .ok (.aload_n 0, 1) := by decide +kernel
theorem dX1_init_61 : decode cX1_init 61 = .ok (.bipush 72, 2) := by decide +kernel
theorem dX1_init_63 : decode cX1_init 63 = .ok (.newarray .int, 2) := by decide +kernel
theorem dX1_init_65 : decode cX1_init 65 = .ok (.putfield 34, 3) := by decide +kernel
theorem dX1_init_68 : decode cX1_init 68 = .ok (.aload_n 0, 1) := by decide +kernel
theorem dX1_init_69 : decode cX1_init 69 = .ok (.iconst 0, 1) := by decide +kernel
theorem dX1_init_70 : decode cX1_init 70 = .ok (.putfield 37, 3) := by decide +kernel
theorem dX1_init_73 : decode cX1_init 73 = .ok (.aload_n 0, 1) := by decide +kernel
theorem dX1_init_74 : decode cX1_init 74 = .ok (.iconst 0, 1) := by decide +kernel
theorem dX1_init_75 : decode cX1_init 75 = .ok (.putfield 41, 3) := by decide +kernel
theorem dX1_init_78 : decode cX1_init 78 = .ok (.return_, 1) := by decide +kernel
theorem dX1_isFull_0 : decode cX1_isFull 0 = .ok (.aload_n 0, 1) := by decide +kernel
theorem dX1_isFull_1 : decode cX1_isFull 1 = .ok (.getfield 41, 3) := by decide +kernel
theorem dX1_isFull_4 : decode cX1_isFull 4 = .ok (.bipush 40, 2) := by decide +kernel
theorem dX1_isFull_6 : decode cX1_isFull 6 = .ok (.if_icmp .lt 7, 3) := by decide +kernel
theorem dX1_isFull_9 : decode cX1_isFull 9 = .ok (.iconst 1, 1) := by decide +kernel
theorem dX1_isFull_10 : decode cX1_isFull 10 = .ok (.goto 4, 3) := by decide +kernel
theorem dX1_isFull_13 : decode cX1_isFull 13 = .ok (.iconst 0, 1) := by decide +kernel
theorem dX1_isFull_14 : decode cX1_isFull 14 = .ok (.ireturn, 1) := by decide +kernel
theorem dX1_tell_0 : decode cX1_tell 0 = .ok (.aload_n 0, 1) := by decide +kernel
theorem dX1_tell_1 : decode cX1_tell 1 = .ok (.invokevirtual 44, 3) := by decide +kernel
theorem dX1_tell_4 : decode cX1_tell 4 = .ok (.ifCond .eq 5, 3) := by decide +kernel
theorem dX1_tell_7 : decode cX1_tell 7 = .ok (.iconst (-1), 1) := by decide +kernel
theorem dX1_tell_8 : decode cX1_tell 8 = .ok (.ireturn, 1) := by decide +kernel
theorem dX1_tell_9 : decode cX1_tell 9 = .ok (.aload_n 0, 1) := by decide +kernel
theorem dX1_tell_10 : decode cX1_tell 10 = .ok (.getfield 9, 3) := by decide +kernel
theorem dX1_tell_13 : decode cX1_tell 13 = .ok (.aload_n 0, 1) := by decide +kernel
theorem dX1_tell_14 : decode cX1_tell 14 = .ok (.getfield 41, 3) := by decide +kernel
theorem dX1_tell_17 : decode cX1_tell 17 = .ok (.iload_n 1, 1) := by decide +kernel
theorem dX1_tell_18 : decode cX1_tell 18 = .ok (.iastore, 1) := by decide +kernel
theorem dX1_tell_19 : decode cX1_tell 19 = .ok (.aload_n 0, 1) := by decide +kernel
theorem dX1_tell_20 : decode cX1_tell 20 = .ok (.getfield 15, 3) := by decide +kernel
theorem dX1_tell_23 : decode cX1_tell 23 = .ok (.aload_n 0, 1) := by decide +kernel
theorem dX1_tell_24 : decode cX1_tell 24 = .ok (.getfield 41, 3) := by decide +kernel
theorem dX1_tell_27 : decode cX1_tell 27 = .ok (.iload_n 2, 1) := by decide +kernel
theorem dX1_tell_28 : decode cX1_tell 28 = .ok (.iastore, 1) := by decide +kernel
theorem dX1_tell_29 : decode cX1_tell 29 = .ok (.aload_n 0, 1) := by decide +kernel
theorem dX1_tell_30 : decode cX1_tell 30 = .ok (.getfield 18, 3) := by decide +kernel
theorem dX1_tell_33 : decode cX1_tell 33 = .ok (.aload_n 0, 1) := by decide +kernel
theorem dX1_tell_34 : decode cX1_tell 34 = .ok (.getfield 41, 3) := by decide +kernel
theorem dX1_tell_37 : decode cX1_tell 37 = .ok (.iload_n 3, 1) := by decide +kernel
theorem dX1_tell_38 : decode cX1_tell 38 = .ok (.iastore, 1) := by decide +kernel
theorem dX1_tell_39 : decode cX1_tell 39 = .ok (.aload_n 0, 1) := by decide +kernel
theorem dX1_tell_40 : decode cX1_tell 40 = .ok (.getfield 21, 3) := by decide +kernel
theorem dX1_tell_43 : decode cX1_tell 43 = .ok (.aload_n 0, 1) := by decide +kernel
theorem dX1_tell_44 : decode cX1_tell 44 = .ok (.getfield 41, 3) := by decide +kernel
theorem dX1_tell_47 : decode cX1_tell 47 = .ok (.iload 4, 2) := by decide +kernel
theorem dX1_tell_49 : decode cX1_tell 49 = .ok (.iastore, 1) := by decide +kernel
theorem dX1_tell_50 : decode cX1_tell 50 = .ok (.aload_n 0, 1) := by decide +kernel
theorem dX1_tell_51 : decode cX1_tell 51 = .ok (.getfield 24, 3) := by decide +kernel
theorem dX1_tell_54 : decode cX1_tell 54 = .ok (.aload_n 0, 1) := by decide +kernel
theorem dX1_tell_55 : decode cX1_tell 55 = .ok (.getfield 41, 3) := by decide +kernel
theorem dX1_tell_58 : decode cX1_tell 58 = .ok (.iload 5, 2) := by decide +kernel
theorem dX1_tell_60 : decode cX1_tell 60 = .ok (.iastore, 1) := by decide +kernel
theorem dX1_tell_61 : decode cX1_tell 61 = .ok (.aload_n 0, 1) := by decide +kernel
theorem dX1_tell_62 : decode cX1_tell 62 = .ok (.getfield 27, 3) := by decide +kernel
theorem dX1_tell_65 : decode cX1_tell 65 = .ok (.aload_n 0, 1) := by decide +kernel
theorem dX1_tell_66 : decode cX1_tell 66 = .ok (.getfield 41, 3) := by decide +kernel
theorem dX1_tell_69 : decode cX1_tell 69 = .ok (.iconst (-1), 1) := by decide +kernel
theorem dX1_tell_70 : decode cX1_tell 70 = .ok (.iastore, 1) := by decide +kernel
theorem dX1_tell_71 : decode cX1_tell 71 = .ok (.aload_n 0, 1) := by decide +kernel
theorem dX1_tell_72 : decode cX1_tell 72 = .ok (.dup, 1) := by decide +kernel
theorem dX1_tell_73 : decode cX1_tell 73 = .ok (.getfield 41, 3) := by decide +kernel
theorem dX1_tell_76 : decode cX1_tell 76 = .ok (.iconst 1, 1) := by decide +kernel
theorem dX1_tell_77 : decode cX1_tell 77 = .ok (.iadd, 1) := by decide +kernel
theorem dX1_tell_78 : decode cX1_tell 78 = .ok (.putfield 41, 3) := by decide +kernel
theorem dX1_tell_81 : decode cX1_tell 81 = .ok (.aload_n 0, 1) := by decide +kernel
theorem dX1_tell_82 : decode cX1_tell 82 = .ok (.getfield 41, 3) := by decide +kernel
theorem dX1_tell_85 : decode cX1_tell 85 = .ok (.iconst 1, 1) := by decide +kernel
theorem dX1_tell_86 : decode cX1_tell 86 = .ok (.isub, 1) := by decide +kernel
theorem dX1_tell_87 : decode cX1_tell 87 = .ok (.ireturn, 1) := by decide +kernel
theorem dX1_takeBack_0 : decode cX1_takeBack 0 = .ok (.iload_n 1, 1) := by decide +kernel
theorem dX1_takeBack_1 : decode cX1_takeBack 1 = .ok (.ifCond .lt 21, 3) := by decide +kernel
theorem dX1_takeBack_4 : decode cX1_takeBack 4 = .ok (.iload_n 1, 1) := by decide +kernel
theorem dX1_takeBack_5 : decode cX1_takeBack 5 = .ok (.aload_n 0, 1) := by decide +kernel
theorem dX1_takeBack_6 : decode cX1_takeBack 6 = .ok (.getfield 41, 3) := by decide +kernel
theorem dX1_takeBack_9 : decode cX1_takeBack 9 = .ok (.if_icmp .ge 13, 3) := by decide +kernel
theorem dX1_takeBack_12 : decode cX1_takeBack 12 = .ok (.aload_n 0, 1) := by decide +kernel
theorem dX1_takeBack_13 : decode cX1_takeBack 13 = .ok (.getfield 27, 3) := by decide +kernel
theorem dX1_takeBack_16 : decode cX1_takeBack 16 = .ok (.iload_n 1, 1) := by decide +kernel
theorem dX1_takeBack_17 : decode cX1_takeBack 17 = .ok (.iaload, 1) := by decide +kernel
theorem dX1_takeBack_18 : decode cX1_takeBack 18 = .ok (.iconst (-1), 1) := by decide +kernel
theorem dX1_takeBack_19 : decode cX1_takeBack 19 = .ok (.if_icmp .eq 5, 3) := by decide +kernel
theorem dX1_takeBack_22 : decode cX1_takeBack 22 = .ok (.iconst 0, 1) := by decide +kernel
theorem dX1_takeBack_23 : decode cX1_takeBack 23 = .ok (.ireturn, 1) := by decide +kernel
theorem dX1_takeBack_24 : decode cX1_takeBack 24 = .ok (.aload_n 0, 1) := by decide +kernel
theorem dX1_takeBack_25 : decode cX1_takeBack 25 = .ok (.getfield 27, 3) := by decide +kernel
theorem dX1_takeBack_28 : decode cX1_takeBack 28 = .ok (.iload_n 1, 1) := by decide +kernel
theorem dX1_takeBack_29 : decode cX1_takeBack 29 = .ok (.iload_n 2, 1) := by decide +kernel
theorem dX1_takeBack_30 : decode cX1_takeBack 30 = .ok (.iastore, 1) := by decide +kernel
theorem dX1_takeBack_31 : decode cX1_takeBack 31 = .ok (.iconst 1, 1) := by decide +kernel
theorem dX1_takeBack_32 : decode cX1_takeBack 32 = .ok (.ireturn, 1) := by decide +kernel
theorem dX1_choose_0 : decode cX1_choose 0 = .ok (.aload_n 0, 1) := by decide +kernel
theorem dX1_choose_1 : decode cX1_choose 1 = .ok (.iconst 0, 1) := by decide +kernel
theorem dX1_choose_2 : decode cX1_choose 2 = .ok (.putfield 37, 3) := by decide +kernel
theorem dX1_choose_5 : decode cX1_choose 5 = .ok (.iconst 0, 1) := by decide +kernel
theorem dX1_choose_6 : decode cX1_choose 6 = .ok (.istore 4, 2) := by decide +kernel
theorem dX1_choose_8 : decode cX1_choose 8 = .ok (.iload 4, 2) := by decide +kernel
theorem dX1_choose_10 : decode cX1_choose 10 = .ok (.aload_n 2, 1) := by decide +kernel
theorem dX1_choose_11 : decode cX1_choose 11 = .ok (.getfield 48, 3) := by decide +kernel
theorem dX1_choose_14 : decode cX1_choose 14 = .ok (.if_icmp .ge 46, 3) := by decide +kernel
theorem dX1_choose_17 : decode cX1_choose 17 = .ok (.aload_n 0, 1) := by decide +kernel
theorem dX1_choose_18 : decode cX1_choose 18 = .ok (.aload_n 1, 1) := by decide +kernel
theorem dX1_choose_19 : decode cX1_choose 19 = .ok (.aload_n 2, 1) := by decide +kernel
theorem dX1_choose_20 : decode cX1_choose 20 = .ok (.getfield 51, 3) := by decide +kernel
theorem dX1_choose_23 : decode cX1_choose 23 = .ok (.iload 4, 2) := by decide +kernel
theorem dX1_choose_25 : decode cX1_choose 25 = .ok (.aaload, 1) := by decide +kernel
theorem dX1_choose_26 : decode cX1_choose 26 = .ok (.iload_n 3, 1) := by decide +kernel
theorem dX1_choose_27 : decode cX1_choose 27 = .ok (.invokevirtual 55, 3) := by decide +kernel
theorem dX1_choose_30 : decode cX1_choose 30 = .ok (.ifCond .eq 24, 3) := by decide +kernel
theorem dX1_choose_33 : decode cX1_choose 33 = .ok (.aload_n 0, 1) := by decide +kernel
theorem dX1_choose_34 : decode cX1_choose 34 = .ok (.getfield 34, 3) := by decide +kernel
theorem dX1_choose_37 : decode cX1_choose 37 = .ok (.aload_n 0, 1) := by decide +kernel
theorem dX1_choose_38 : decode cX1_choose 38 = .ok (.getfield 37, 3) := by decide +kernel
theorem dX1_choose_41 : decode cX1_choose 41 = .ok (.iload 4, 2) := by decide +kernel
theorem dX1_choose_43 : decode cX1_choose 43 = .ok (.iastore, 1) := by decide +kernel
theorem dX1_choose_44 : decode cX1_choose 44 = .ok (.aload_n 0, 1) := by decide +kernel
theorem dX1_choose_45 : decode cX1_choose 45 = .ok (.dup, 1) := by decide +kernel
theorem dX1_choose_46 : decode cX1_choose 46 = .ok (.getfield 37, 3) := by decide +kernel
theorem dX1_choose_49 : decode cX1_choose 49 = .ok (.iconst 1, 1) := by decide +kernel
theorem dX1_choose_50 : decode cX1_choose 50 = .ok (.iadd, 1) := by decide +kernel
theorem dX1_choose_51 : decode cX1_choose 51 = .ok (.putfield 37, 3) := by decide +kernel
theorem dX1_choose_54 : decode cX1_choose 54 = .ok (.iinc 4 1, 3) := by decide +kernel
theorem dX1_choose_57 : decode cX1_choose 57 = .ok (.goto (-49), 3) := by decide +kernel
theorem dX1_choose_60 : decode cX1_choose 60 = .ok (.aload_n 0, 1) := by decide +kernel
theorem dX1_choose_61 : decode cX1_choose 61 = .ok (.getfield 37, 3) := by decide +kernel
theorem dX1_choose_64 : decode cX1_choose 64 = .ok (.ireturn, 1) := by decide +kernel
theorem dX1_fits_0 : decode cX1_fits 0 = .ok (.iconst 0, 1) := by decide +kernel
theorem dX1_fits_1 : decode cX1_fits 1 = .ok (.istore 4, 2) := by decide +kernel
theorem dX1_fits_3 : decode cX1_fits 3 = .ok (.iload 4, 2) := by decide +kernel
theorem dX1_fits_5 : decode cX1_fits 5 = .ok (.aload_n 0, 1) := by decide +kernel
theorem dX1_fits_6 : decode cX1_fits 6 = .ok (.getfield 41, 3) := by decide +kernel
theorem dX1_fits_9 : decode cX1_fits 9 = .ok (.if_icmp .ge 76, 3) := by decide +kernel
theorem dX1_fits_12 : decode cX1_fits 12 = .ok (.aload_n 0, 1) := by decide +kernel
theorem dX1_fits_13 : decode cX1_fits 13 = .ok (.iload 4, 2) := by decide +kernel
theorem dX1_fits_15 : decode cX1_fits 15 = .ok (.iload_n 3, 1) := by decide +kernel
theorem dX1_fits_16 : decode cX1_fits 16 = .ok (.invokevirtual 59, 3) := by decide +kernel
theorem dX1_fits_19 : decode cX1_fits 19 = .ok (.ifCond .eq 60, 3) := by decide +kernel
theorem dX1_fits_22 : decode cX1_fits 22 = .ok (.aload_n 1, 1) := by decide +kernel
theorem dX1_fits_23 : decode cX1_fits 23 = .ok (.aload_n 2, 1) := by decide +kernel
theorem dX1_fits_24 : decode cX1_fits 24 = .ok (.aload_n 0, 1) := by decide +kernel
theorem dX1_fits_25 : decode cX1_fits 25 = .ok (.getfield 9, 3) := by decide +kernel
theorem dX1_fits_28 : decode cX1_fits 28 = .ok (.iload 4, 2) := by decide +kernel
theorem dX1_fits_30 : decode cX1_fits 30 = .ok (.iaload, 1) := by decide +kernel
theorem dX1_fits_31 : decode cX1_fits 31 = .ok (.aload_n 0, 1) := by decide +kernel
theorem dX1_fits_32 : decode cX1_fits 32 = .ok (.getfield 15, 3) := by decide +kernel
theorem dX1_fits_35 : decode cX1_fits 35 = .ok (.iload 4, 2) := by decide +kernel
theorem dX1_fits_37 : decode cX1_fits 37 = .ok (.iaload, 1) := by decide +kernel
theorem dX1_fits_38 : decode cX1_fits 38 = .ok (.invokevirtual 63, 3) := by decide +kernel
theorem dX1_fits_41 : decode cX1_fits 41 = .ok (.aload_n 0, 1) := by decide +kernel
theorem dX1_fits_42 : decode cX1_fits 42 = .ok (.getfield 18, 3) := by decide +kernel
theorem dX1_fits_45 : decode cX1_fits 45 = .ok (.iload 4, 2) := by decide +kernel
theorem dX1_fits_47 : decode cX1_fits 47 = .ok (.iaload, 1) := by decide +kernel
theorem dX1_fits_48 : decode cX1_fits 48 = .ok (.i2l, 1) := by decide +kernel
theorem dX1_fits_49 : decode cX1_fits 49 = .ok (.ldc2_w 69, 3) := by decide +kernel
theorem dX1_fits_52 : decode cX1_fits 52 = .ok (.lmul, 1) := by decide +kernel
theorem dX1_fits_53 : decode cX1_fits 53 = .ok (.lsub, 1) := by decide +kernel
theorem dX1_fits_54 : decode cX1_fits 54 = .ok (.lstore 5, 2) := by decide +kernel
theorem dX1_fits_56 : decode cX1_fits 56 = .ok (.lload 5, 2) := by decide +kernel
theorem dX1_fits_58 : decode cX1_fits 58 = .ok (.invokestatic 71, 3) := by decide +kernel
theorem dX1_fits_61 : decode cX1_fits 61 = .ok (.aload_n 0, 1) := by decide +kernel
theorem dX1_fits_62 : decode cX1_fits 62 = .ok (.getfield 21, 3) := by decide +kernel
theorem dX1_fits_65 : decode cX1_fits 65 = .ok (.iload 4, 2) := by decide +kernel
theorem dX1_fits_67 : decode cX1_fits 67 = .ok (.iaload, 1) := by decide +kernel
theorem dX1_fits_68 : decode cX1_fits 68 = .ok (.i2l, 1) := by decide +kernel
theorem dX1_fits_69 : decode cX1_fits 69 = .ok (.ldc2_w 69, 3) := by decide +kernel
theorem dX1_fits_72 : decode cX1_fits 72 = .ok (.lmul, 1) := by decide +kernel
theorem dX1_fits_73 : decode cX1_fits 73 = .ok (.lcmp, 1) := by decide +kernel
theorem dX1_fits_74 : decode cX1_fits 74 = .ok (.ifCond .le 5, 3) := by decide +kernel
theorem dX1_fits_77 : decode cX1_fits 77 = .ok (.iconst 0, 1) := by decide +kernel
theorem dX1_fits_78 : decode cX1_fits 78 = .ok (.ireturn, 1) := by decide +kernel
theorem dX1_fits_79 : decode cX1_fits 79 = .ok (.iinc 4 1, 3) := by decide +kernel
theorem dX1_fits_82 : decode cX1_fits 82 = .ok (.goto (-79), 3) := by decide +kernel
theorem dX1_fits_85 : decode cX1_fits 85 = .ok (.iconst 1, 1) := by decide +kernel
theorem dX1_fits_86 : decode cX1_fits 86 = .ok (.ireturn, 1) := by decide +kernel
theorem dX1_counts_0 : decode cX1_counts 0 = .ok (.aload_n 0, 1) := by decide +kernel
theorem dX1_counts_1 : decode cX1_counts 1 = .ok (.getfield 24, 3) := by decide +kernel
theorem dX1_counts_4 : decode cX1_counts 4 = .ok (.iload_n 1, 1) := by decide +kernel
theorem dX1_counts_5 : decode cX1_counts 5 = .ok (.iaload, 1) := by decide +kernel
theorem dX1_counts_6 : decode cX1_counts 6 = .ok (.iload_n 2, 1) := by decide +kernel
theorem dX1_counts_7 : decode cX1_counts 7 = .ok (.if_icmp .gt 27, 3) := by decide +kernel
theorem dX1_counts_10 : decode cX1_counts 10 = .ok (.aload_n 0, 1) := by decide +kernel
theorem dX1_counts_11 : decode cX1_counts 11 = .ok (.getfield 27, 3) := by decide +kernel
theorem dX1_counts_14 : decode cX1_counts 14 = .ok (.iload_n 1, 1) := by decide +kernel
theorem dX1_counts_15 : decode cX1_counts 15 = .ok (.iaload, 1) := by decide +kernel
theorem dX1_counts_16 : decode cX1_counts 16 = .ok (.iconst (-1), 1) := by decide +kernel
theorem dX1_counts_17 : decode cX1_counts 17 = .ok (.if_icmp .eq 13, 3) := by decide +kernel
theorem dX1_counts_20 : decode cX1_counts 20 = .ok (.aload_n 0, 1) := by decide +kernel
theorem dX1_counts_21 : decode cX1_counts 21 = .ok (.getfield 27, 3) := by decide +kernel
theorem dX1_counts_24 : decode cX1_counts 24 = .ok (.iload_n 1, 1) := by decide +kernel
theorem dX1_counts_25 : decode cX1_counts 25 = .ok (.iaload, 1) := by decide +kernel
theorem dX1_counts_26 : decode cX1_counts 26 = .ok (.iload_n 2, 1) := by decide +kernel
theorem dX1_counts_27 : decode cX1_counts 27 = .ok (.if_icmp .le 7, 3) := by decide +kernel
theorem dX1_counts_30 : decode cX1_counts 30 = .ok (.iconst 1, 1) := by decide +kernel
theorem dX1_counts_31 : decode cX1_counts 31 = .ok (.goto 4, 3) := by decide +kernel
theorem dX1_counts_34 : decode cX1_counts 34 = .ok (.iconst 0, 1) := by decide +kernel
theorem dX1_counts_35 : decode cX1_counts 35 = .ok (.ireturn, 1) := by decide +kernel
theorem dX1_findNext_0 : decode cX1_findNext 0 = .ok (.aload_n 0, 1) := by decide +kernel
theorem dX1_findNext_1 : decode cX1_findNext 1 = .ok (.bipush 73, 2) := by decide +kernel
theorem dX1_findNext_3 : decode cX1_findNext 3 = .ok (.putfield 77, 3) := by decide +kernel
theorem dX1_findNext_6 : decode cX1_findNext 6 = .ok (.iconst 0, 1) := by decide +kernel
theorem dX1_findNext_7 : decode cX1_findNext 7 = .ok (.istore_n 3, 1) := by decide +kernel
theorem dX1_findNext_8 : decode cX1_findNext 8 = .ok (.iload_n 3, 1) := by decide +kernel
theorem dX1_findNext_9 : decode cX1_findNext 9 = .ok (.aload_n 1, 1) := by decide +kernel
theorem dX1_findNext_10 : decode cX1_findNext 10 = .ok (.getfield 80, 3) := by decide +kernel
theorem dX1_findNext_13 : decode cX1_findNext 13 = .ok (.getfield 83, 3) := by decide +kernel
theorem dX1_findNext_16 : decode cX1_findNext 16 = .ok (.if_icmp .ge 110, 3) := by decide +kernel
theorem dX1_findNext_19 : decode cX1_findNext 19 = .ok (.iconst 0, 1) := by decide +kernel
theorem dX1_findNext_20 : decode cX1_findNext 20 = .ok (.istore 4, 2) := by decide +kernel
theorem dX1_findNext_22 : decode cX1_findNext 22 = .ok (.iload 4, 2) := by decide +kernel
theorem dX1_findNext_24 : decode cX1_findNext 24 = .ok (.aload_n 1, 1) := by decide +kernel
theorem dX1_findNext_25 : decode cX1_findNext 25 = .ok (.getfield 86, 3) := by decide +kernel
theorem dX1_findNext_28 : decode cX1_findNext 28 = .ok (.getfield 83, 3) := by decide +kernel
theorem dX1_findNext_31 : decode cX1_findNext 31 = .ok (.if_icmp .ge 89, 3) := by decide +kernel
theorem dX1_findNext_34 : decode cX1_findNext 34 = .ok (.iconst 0, 1) := by decide +kernel
theorem dX1_findNext_35 : decode cX1_findNext 35 = .ok (.istore 5, 2) := by decide +kernel
theorem dX1_findNext_37 : decode cX1_findNext 37 = .ok (.iload 5, 2) := by decide +kernel
theorem dX1_findNext_39 : decode cX1_findNext 39 = .ok (.aload_n 0, 1) := by decide +kernel
theorem dX1_findNext_40 : decode cX1_findNext 40 = .ok (.getfield 37, 3) := by decide +kernel
theorem dX1_findNext_43 : decode cX1_findNext 43 = .ok (.if_icmp .ge 39, 3) := by decide +kernel
theorem dX1_findNext_46 : decode cX1_findNext 46 = .ok (.aload_n 0, 1) := by decide +kernel
theorem dX1_findNext_47 : decode cX1_findNext 47 = .ok (.getfield 30, 3) := by decide +kernel
theorem dX1_findNext_50 : decode cX1_findNext 50 = .ok (.iload 5, 2) := by decide +kernel
theorem dX1_findNext_52 : decode cX1_findNext 52 = .ok (.aload_n 1, 1) := by decide +kernel
theorem dX1_findNext_53 : decode cX1_findNext 53 = .ok (.aload_n 2, 1) := by decide +kernel
theorem dX1_findNext_54 : decode cX1_findNext 54 = .ok (.getfield 51, 3) := by decide +kernel
theorem dX1_findNext_57 : decode cX1_findNext 57 = .ok (.aload_n 0, 1) := by decide +kernel
theorem dX1_findNext_58 : decode cX1_findNext 58 = .ok (.getfield 34, 3) := by decide +kernel
theorem dX1_findNext_61 : decode cX1_findNext 61 = .ok (.iload 5, 2) := by decide +kernel
theorem dX1_findNext_63 : decode cX1_findNext 63 = .ok (.iaload, 1) := by decide +kernel
theorem dX1_findNext_64 : decode cX1_findNext 64 = .ok (.aaload, 1) := by decide +kernel
theorem dX1_findNext_65 : decode cX1_findNext 65 = .ok (.iload_n 3, 1) := by decide +kernel
theorem dX1_findNext_66 : decode cX1_findNext 66 = .ok (.iload 4, 2) := by decide +kernel
theorem dX1_findNext_68 : decode cX1_findNext 68 = .ok (.invokevirtual 63, 3) := by decide +kernel
theorem dX1_findNext_71 : decode cX1_findNext 71 = .ok (.ldc2_w 69, 3) := by decide +kernel
theorem dX1_findNext_74 : decode cX1_findNext 74 = .ok (.ldiv, 1) := by decide +kernel
theorem dX1_findNext_75 : decode cX1_findNext 75 = .ok (.lastore, 1) := by decide +kernel
theorem dX1_findNext_76 : decode cX1_findNext 76 = .ok (.iinc 5 1, 3) := by decide +kernel
theorem dX1_findNext_79 : decode cX1_findNext 79 = .ok (.goto (-42), 3) := by decide +kernel
theorem dX1_findNext_82 : decode cX1_findNext 82 = .ok (.aload_n 0, 1) := by decide +kernel
theorem dX1_findNext_83 : decode cX1_findNext 83 = .ok (.invokevirtual 88, 3) := by decide +kernel
theorem dX1_findNext_86 : decode cX1_findNext 86 = .ok (.istore 5, 2) := by decide +kernel
theorem dX1_findNext_88 : decode cX1_findNext 88 = .ok (.iload 5, 2) := by decide +kernel
theorem dX1_findNext_90 : decode cX1_findNext 90 = .ok (.aload_n 0, 1) := by decide +kernel
theorem dX1_findNext_91 : decode cX1_findNext 91 = .ok (.getfield 77, 3) := by decide +kernel
theorem dX1_findNext_94 : decode cX1_findNext 94 = .ok (.if_icmp .ge 20, 3) := by decide +kernel
theorem dX1_findNext_97 : decode cX1_findNext 97 = .ok (.aload_n 0, 1) := by decide +kernel
theorem dX1_findNext_98 : decode cX1_findNext 98 = .ok (.iload 5, 2) := by decide +kernel
theorem dX1_findNext_100 : decode cX1_findNext 100 = .ok (.putfield 77, 3) := by decide +kernel
theorem dX1_findNext_103 : decode cX1_findNext 103 = .ok (.aload_n 0, 1) := by decide +kernel
theorem dX1_findNext_104 : decode cX1_findNext 104 = .ok (.iload_n 3, 1) := by decide +kernel
theorem dX1_findNext_105 : decode cX1_findNext 105 = .ok (.putfield 92, 3) := by decide +kernel
theorem dX1_findNext_108 : decode cX1_findNext 108 = .ok (.aload_n 0, 1) := by decide +kernel
theorem dX1_findNext_109 : decode cX1_findNext 109 = .ok (.iload 4, 2) := by decide +kernel
theorem dX1_findNext_111 : decode cX1_findNext 111 = .ok (.putfield 95, 3) := by decide +kernel
theorem dX1_findNext_114 : decode cX1_findNext 114 = .ok (.iinc 4 1, 3) := by decide +kernel
theorem dX1_findNext_117 : decode cX1_findNext 117 = .ok (.goto (-95), 3) := by decide +kernel
theorem dX1_findNext_120 : decode cX1_findNext 120 = .ok (.iinc 3 1, 3) := by decide +kernel
theorem dX1_findNext_123 : decode cX1_findNext 123 = .ok (.goto (-115), 3) := by decide +kernel
theorem dX1_findNext_126 : decode cX1_findNext 126 = .ok (.return_, 1) := by decide +kernel
theorem dX1_greatestCrowd_0 : decode cX1_greatestCrowd 0 = .ok (.iconst 0, 1) := by decide +kernel
theorem dX1_greatestCrowd_1 : decode cX1_greatestCrowd 1 = .ok (.istore_n 1, 1) := by decide +kernel
theorem dX1_greatestCrowd_2 : decode cX1_greatestCrowd 2 = .ok (.iconst 0, 1) := by decide +kernel
theorem dX1_greatestCrowd_3 : decode cX1_greatestCrowd 3 = .ok (.istore_n 2, 1) := by decide +kernel
theorem dX1_greatestCrowd_4 : decode cX1_greatestCrowd 4 = .ok (.iload_n 2, 1) := by decide +kernel
theorem dX1_greatestCrowd_5 : decode cX1_greatestCrowd 5 = .ok (.aload_n 0, 1) := by decide +kernel
theorem dX1_greatestCrowd_6 : decode cX1_greatestCrowd 6 = .ok (.getfield 37, 3) := by decide +kernel
theorem dX1_greatestCrowd_9 : decode cX1_greatestCrowd 9 = .ok (.if_icmp .ge 55, 3) := by decide +kernel
theorem dX1_greatestCrowd_12 : decode cX1_greatestCrowd 12 = .ok (.iconst 0, 1) := by decide +kernel
theorem dX1_greatestCrowd_13 : decode cX1_greatestCrowd 13 = .ok (.istore_n 3, 1) := by decide +kernel
theorem dX1_greatestCrowd_14 : decode cX1_greatestCrowd 14 = .ok (.iload_n 2, 1) := by decide +kernel
theorem dX1_greatestCrowd_15 : decode cX1_greatestCrowd 15 = .ok (.istore 4, 2) := by decide +kernel
theorem dX1_greatestCrowd_17 : decode cX1_greatestCrowd 17 = .ok (.iload 4, 2) := by decide +kernel
theorem dX1_greatestCrowd_19 : decode cX1_greatestCrowd 19 = .ok (.aload_n 0, 1) := by decide +kernel
theorem dX1_greatestCrowd_20 : decode cX1_greatestCrowd 20 = .ok (.getfield 37, 3) := by decide +kernel
theorem dX1_greatestCrowd_23 : decode cX1_greatestCrowd 23 = .ok (.if_icmp .ge 29, 3) := by decide +kernel
theorem dX1_greatestCrowd_26 : decode cX1_greatestCrowd 26 = .ok (.aload_n 0, 1) := by decide +kernel
theorem dX1_greatestCrowd_27 : decode cX1_greatestCrowd 27 = .ok (.getfield 30, 3) := by decide +kernel
theorem dX1_greatestCrowd_30 : decode cX1_greatestCrowd 30 = .ok (.iload 4, 2) := by decide +kernel
theorem dX1_greatestCrowd_32 : decode cX1_greatestCrowd 32 = .ok (.laload, 1) := by decide +kernel
theorem dX1_greatestCrowd_33 : decode cX1_greatestCrowd 33 = .ok (.aload_n 0, 1) := by decide +kernel
theorem dX1_greatestCrowd_34 : decode cX1_greatestCrowd 34 = .ok (.getfield 30, 3) := by decide +kernel
theorem dX1_greatestCrowd_37 : decode cX1_greatestCrowd 37 = .ok (.iload_n 2, 1) := by decide +kernel
theorem dX1_greatestCrowd_38 : decode cX1_greatestCrowd 38 = .ok (.laload, 1) := by decide +kernel
theorem dX1_greatestCrowd_39 : decode cX1_greatestCrowd 39 = .ok (.lcmp, 1) := by decide +kernel
theorem dX1_greatestCrowd_40 : decode cX1_greatestCrowd 40 = .ok (.ifCond .ne 6, 3) := by decide +kernel
theorem dX1_greatestCrowd_43 : decode cX1_greatestCrowd 43 = .ok (.iinc 3 1, 3) := by decide +kernel
theorem dX1_greatestCrowd_46 : decode cX1_greatestCrowd 46 = .ok (.iinc 4 1, 3) := by decide +kernel
theorem dX1_greatestCrowd_49 : decode cX1_greatestCrowd 49 = .ok (.goto (-32), 3) := by decide +kernel
theorem dX1_greatestCrowd_52 : decode cX1_greatestCrowd 52 = .ok (.iload_n 1, 1) := by decide +kernel
theorem dX1_greatestCrowd_53 : decode cX1_greatestCrowd 53 = .ok (.iload_n 3, 1) := by decide +kernel
theorem dX1_greatestCrowd_54 : decode cX1_greatestCrowd 54 = .ok (.invokestatic 98, 3) := by decide +kernel
theorem dX1_greatestCrowd_57 : decode cX1_greatestCrowd 57 = .ok (.istore_n 1, 1) := by decide +kernel
theorem dX1_greatestCrowd_58 : decode cX1_greatestCrowd 58 = .ok (.iinc 2 1, 3) := by decide +kernel
theorem dX1_greatestCrowd_61 : decode cX1_greatestCrowd 61 = .ok (.goto (-57), 3) := by decide +kernel
theorem dX1_greatestCrowd_64 : decode cX1_greatestCrowd 64 = .ok (.iload_n 1, 1) := by decide +kernel
theorem dX1_greatestCrowd_65 : decode cX1_greatestCrowd 65 = .ok (.ireturn, 1) := by decide +kernel
theorem dX2_init_0 : decode cX2_init 0 = .ok (.aload_n 0, 1) := by decide +kernel
theorem dX2_init_1 : decode cX2_init 1 = .ok (.invokespecial 3, 3) := by decide +kernel
theorem dX2_init_4 : decode cX2_init 4 = .ok (.aload_n 0, 1) := by decide +kernel
theorem dX2_init_5 : decode cX2_init 5 = .ok (.bipush 72, 2) := by decide +kernel
theorem dX2_init_7 : decode cX2_init 7 = .ok (.newarray .int, 2) := by decide +kernel
theorem dX2_init_9 : decode cX2_init 9 = .ok (.putfield 9, 3) := by decide +kernel
theorem dX2_init_12 : decode cX2_init 12 = .ok (.aload_n 0, 1) := by decide +kernel
theorem dX2_init_13 : decode cX2_init 13 = .ok (.bipush 72, 2) := by decide +kernel
theorem dX2_init_15 : decode cX2_init 15 = .ok (.newarray .int, 2) := by decide +kernel
theorem dX2_init_17 : decode cX2_init 17 = .ok (.putfield 15, 3) := by decide +kernel
theorem dX2_init_20 : decode cX2_init 20 = .ok (.aload_n 0, 1) := by decide +kernel
theorem dX2_init_21 : decode cX2_init 21 = .ok (.bipush 72, 2) := by decide +kernel
theorem dX2_init_23 : decode cX2_init 23 = .ok (.bipush 16, 2) := by decide +kernel
theorem dX2_init_25 : decode cX2_init 25 = .ok (.multianewarray 18 2, 4) := by decide +kernel
theorem dX2_init_29 : decode cX2_init 29 = .ok (.putfield 20, 3) := by decide +kernel
theorem dX2_init_32 : decode cX2_init 32 = .ok (.aload_n 0, 1) := by decide +kernel
theorem dX2_init_33 : decode cX2_init 33 = .ok (.bipush 8, 2) := by decide +kernel
theorem dX2_init_35 : decode cX2_init 35 = .ok (.newarray .int, 2) := by decide +kernel
theorem dX2_init_37 : decode cX2_init 37 = .ok (.putfield 23, 3) := by decide +kernel
theorem dX2_init_40 : decode cX2_init 40 = .ok (.aload_n 0, 1) := by decide +kernel
theorem dX2_init_41 : decode cX2_init 41 = .ok (.iconst 0, 1) := by decide +kernel
theorem dX2_init_42 : decode cX2_init 42 = .ok (.putfield 26, 3) := by decide +kernel
theorem dX2_init_45 : decode cX2_init 45 = .ok (.return_, 1) := by decide +kernel
theorem dX2_fill_0 : decode cX2_fill 0 = .ok (.aload_n 0, 1) := by decide +kernel
theorem dX2_fill_1 : decode cX2_fill 1 = .ok (.iconst 0, 1) := by decide +kernel
theorem dX2_fill_2 : decode cX2_fill 2 = .ok (.putfield 26, 3) := by decide +kernel
theorem dX2_fill_5 : decode cX2_fill 5 = .ok (.iconst 0, 1) := by decide +kernel
theorem dX2_fill_6 : decode cX2_fill 6 = .ok (.istore_n 2, 1) := by decide +kernel
theorem dX2_fill_7 : decode cX2_fill 7 = .ok (.iload_n 2, 1) := by decide +kernel
theorem dX2_fill_8 : decode cX2_fill 8 = .ok (.aload_n 1, 1) := by decide +kernel
theorem dX2_fill_9 : decode cX2_fill 9 = .ok (.getfield 30, 3) := by decide +kernel
theorem dX2_fill_12 : decode cX2_fill 12 = .ok (.getfield 35, 3) := by decide +kernel
theorem dX2_fill_15 : decode cX2_fill 15 = .ok (.if_icmp .ge 16, 3) := by decide +kernel
theorem dX2_fill_18 : decode cX2_fill 18 = .ok (.aload_n 0, 1) := by decide +kernel
theorem dX2_fill_19 : decode cX2_fill 19 = .ok (.aload_n 1, 1) := by decide +kernel
theorem dX2_fill_20 : decode cX2_fill 20 = .ok (.iload_n 2, 1) := by decide +kernel
theorem dX2_fill_21 : decode cX2_fill 21 = .ok (.iconst (-1), 1) := by decide +kernel
theorem dX2_fill_22 : decode cX2_fill 22 = .ok (.invokevirtual 38, 3) := by decide +kernel
theorem dX2_fill_25 : decode cX2_fill 25 = .ok (.iinc 2 1, 3) := by decide +kernel
theorem dX2_fill_28 : decode cX2_fill 28 = .ok (.goto (-21), 3) := by decide +kernel
theorem dX2_fill_31 : decode cX2_fill 31 = .ok (.iconst 0, 1) := by decide +kernel
theorem dX2_fill_32 : decode cX2_fill 32 = .ok (.istore_n 2, 1) := by decide +kernel
theorem dX2_fill_33 : decode cX2_fill 33 = .ok (.iload_n 2, 1) := by decide +kernel
theorem dX2_fill_34 : decode cX2_fill 34 = .ok (.aload_n 1, 1) := by decide +kernel
theorem dX2_fill_35 : decode cX2_fill 35 = .ok (.getfield 30, 3) := by decide +kernel
theorem dX2_fill_38 : decode cX2_fill 38 = .ok (.getfield 35, 3) := by decide +kernel
theorem dX2_fill_41 : decode cX2_fill 41 = .ok (.if_icmp .ge 49, 3) := by decide +kernel
theorem dX2_fill_44 : decode cX2_fill 44 = .ok (.iconst 0, 1) := by decide +kernel
theorem dX2_fill_45 : decode cX2_fill 45 = .ok (.istore_n 3, 1) := by decide +kernel
theorem dX2_fill_46 : decode cX2_fill 46 = .ok (.iload_n 3, 1) := by decide +kernel
theorem dX2_fill_47 : decode cX2_fill 47 = .ok (.aload_n 1, 1) := by decide +kernel
theorem dX2_fill_48 : decode cX2_fill 48 = .ok (.getfield 42, 3) := by decide +kernel
theorem dX2_fill_51 : decode cX2_fill 51 = .ok (.getfield 35, 3) := by decide +kernel
theorem dX2_fill_54 : decode cX2_fill 54 = .ok (.if_icmp .ge 30, 3) := by decide +kernel
theorem dX2_fill_57 : decode cX2_fill 57 = .ok (.aload_n 1, 1) := by decide +kernel
theorem dX2_fill_58 : decode cX2_fill 58 = .ok (.getfield 30, 3) := by decide +kernel
theorem dX2_fill_61 : decode cX2_fill 61 = .ok (.getfield 45, 3) := by decide +kernel
theorem dX2_fill_64 : decode cX2_fill 64 = .ok (.iload_n 2, 1) := by decide +kernel
theorem dX2_fill_65 : decode cX2_fill 65 = .ok (.aaload, 1) := by decide +kernel
theorem dX2_fill_66 : decode cX2_fill 66 = .ok (.iload_n 3, 1) := by decide +kernel
theorem dX2_fill_67 : decode cX2_fill 67 = .ok (.iaload, 1) := by decide +kernel
theorem dX2_fill_68 : decode cX2_fill 68 = .ok (.ifCond .le 10, 3) := by decide +kernel
theorem dX2_fill_71 : decode cX2_fill 71 = .ok (.aload_n 0, 1) := by decide +kernel
theorem dX2_fill_72 : decode cX2_fill 72 = .ok (.aload_n 1, 1) := by decide +kernel
theorem dX2_fill_73 : decode cX2_fill 73 = .ok (.iload_n 2, 1) := by decide +kernel
theorem dX2_fill_74 : decode cX2_fill 74 = .ok (.iload_n 3, 1) := by decide +kernel
theorem dX2_fill_75 : decode cX2_fill 75 = .ok (.invokevirtual 38, 3) := by decide +kernel
theorem dX2_fill_78 : decode cX2_fill 78 = .ok (.iinc 3 1, 3) := by decide +kernel
theorem dX2_fill_81 : decode cX2_fill 81 = .ok (.goto (-35), 3) := by decide +kernel
theorem dX2_fill_84 : decode cX2_fill 84 = .ok (.iinc 2 1, 3) := by decide +kernel
theorem dX2_fill_87 : decode cX2_fill 87 = .ok (.goto (-54), 3) := by decide +kernel
theorem dX2_fill_90 : decode cX2_fill 90 = .ok (.return_, 1) := by decide +kernel
theorem dX2_add_0 : decode cX2_add 0 = .ok (.aload_n 0, 1) := by decide +kernel
theorem dX2_add_1 : decode cX2_add 1 = .ok (.getfield 26, 3) := by decide +kernel
theorem dX2_add_4 : decode cX2_add 4 = .ok (.bipush 72, 2) := by decide +kernel
theorem dX2_add_6 : decode cX2_add 6 = .ok (.if_icmp .lt 4, 3) := by decide +kernel
theorem dX2_add_9 : decode cX2_add 9 = .ok (.return_, 1) := by decide +kernel
theorem dX2_add_10 : decode cX2_add 10 = .ok (.iconst 0, 1) := by decide +kernel
theorem dX2_add_11 : decode cX2_add 11 = .ok (.istore 4, 2) := by decide +kernel
theorem dX2_add_13 : decode cX2_add 13 = .ok (.iload 4, 2) := by decide +kernel
theorem dX2_add_15 : decode cX2_add 15 = .ok (.aload_n 1, 1) := by decide +kernel
theorem dX2_add_16 : decode cX2_add 16 = .ok (.getfield 42, 3) := by decide +kernel
theorem dX2_add_19 : decode cX2_add 19 = .ok (.getfield 35, 3) := by decide +kernel
theorem dX2_add_22 : decode cX2_add 22 = .ok (.if_icmp .ge 38, 3) := by decide +kernel
theorem dX2_add_25 : decode cX2_add 25 = .ok (.aload_n 0, 1) := by decide +kernel
theorem dX2_add_26 : decode cX2_add 26 = .ok (.getfield 23, 3) := by decide +kernel
theorem dX2_add_29 : decode cX2_add 29 = .ok (.iload 4, 2) := by decide +kernel
theorem dX2_add_31 : decode cX2_add 31 = .ok (.iload 4, 2) := by decide +kernel
theorem dX2_add_33 : decode cX2_add 33 = .ok (.iload_n 3, 1) := by decide +kernel
theorem dX2_add_34 : decode cX2_add 34 = .ok (.if_icmp .ne 7, 3) := by decide +kernel
theorem dX2_add_37 : decode cX2_add 37 = .ok (.iconst 0, 1) := by decide +kernel
theorem dX2_add_38 : decode cX2_add 38 = .ok (.goto 15, 3) := by decide +kernel
theorem dX2_add_41 : decode cX2_add 41 = .ok (.aload_n 1, 1) := by decide +kernel
theorem dX2_add_42 : decode cX2_add 42 = .ok (.getfield 30, 3) := by decide +kernel
theorem dX2_add_45 : decode cX2_add 45 = .ok (.getfield 45, 3) := by decide +kernel
theorem dX2_add_48 : decode cX2_add 48 = .ok (.iload_n 2, 1) := by decide +kernel
theorem dX2_add_49 : decode cX2_add 49 = .ok (.aaload, 1) := by decide +kernel
theorem dX2_add_50 : decode cX2_add 50 = .ok (.iload 4, 2) := by decide +kernel
theorem dX2_add_52 : decode cX2_add 52 = .ok (.iaload, 1) := by decide +kernel
theorem dX2_add_53 : decode cX2_add 53 = .ok (.iastore, 1) := by decide +kernel
theorem dX2_add_54 : decode cX2_add 54 = .ok (.iinc 4 1, 3) := by decide +kernel
theorem dX2_add_57 : decode cX2_add 57 = .ok (.goto (-44), 3) := by decide +kernel
theorem dX2_add_60 : decode cX2_add 60 = .ok (.aload_n 0, 1) := by decide +kernel
theorem dX2_add_61 : decode cX2_add 61 = .ok (.getfield 9, 3) := by decide +kernel
theorem dX2_add_64 : decode cX2_add 64 = .ok (.aload_n 0, 1) := by decide +kernel
theorem dX2_add_65 : decode cX2_add 65 = .ok (.getfield 26, 3) := by decide +kernel
theorem dX2_add_68 : decode cX2_add 68 = .ok (.iload_n 2, 1) := by decide +kernel
theorem dX2_add_69 : decode cX2_add 69 = .ok (.iastore, 1) := by decide +kernel
theorem dX2_add_70 : decode cX2_add 70 = .ok (.aload_n 0, 1) := by decide +kernel
theorem dX2_add_71 : decode cX2_add 71 = .ok (.getfield 15, 3) := by decide +kernel
theorem dX2_add_74 : decode cX2_add 74 = .ok (.aload_n 0, 1) := by decide +kernel
theorem dX2_add_75 : decode cX2_add 75 = .ok (.getfield 26, 3) := by decide +kernel
theorem dX2_add_78 : decode cX2_add 78 = .ok (.iload_n 3, 1) := by decide +kernel
theorem dX2_add_79 : decode cX2_add 79 = .ok (.iastore, 1) := by decide +kernel
theorem dX2_add_80 : decode cX2_add 80 = .ok (.aload_n 1, 1) := by decide +kernel
theorem dX2_add_81 : decode cX2_add 81 = .ok (.aload_n 1, 1) := by decide +kernel
theorem dX2_add_82 : decode cX2_add 82 = .ok (.getfield 46, 3) := by decide +kernel
theorem dX2_add_85 : decode cX2_add 85 = .ok (.iload_n 2, 1) := by decide +kernel
theorem dX2_add_86 : decode cX2_add 86 = .ok (.iaload, 1) := by decide +kernel
theorem dX2_add_87 : decode cX2_add 87 = .ok (.aload_n 0, 1) := by decide +kernel
theorem dX2_add_88 : decode cX2_add 88 = .ok (.getfield 23, 3) := by decide +kernel
theorem dX2_add_91 : decode cX2_add 91 = .ok (.aload_n 0, 1) := by decide +kernel
theorem dX2_add_92 : decode cX2_add 92 = .ok (.getfield 20, 3) := by decide +kernel
theorem dX2_add_95 : decode cX2_add 95 = .ok (.aload_n 0, 1) := by decide +kernel
theorem dX2_add_96 : decode cX2_add 96 = .ok (.getfield 26, 3) := by decide +kernel
theorem dX2_add_99 : decode cX2_add 99 = .ok (.aaload, 1) := by decide +kernel
theorem dX2_add_100 : decode cX2_add 100 = .ok (.invokevirtual 49, 3) := by decide +kernel
theorem dX2_add_103 : decode cX2_add 103 = .ok (.aload_n 0, 1) := by decide +kernel
theorem dX2_add_104 : decode cX2_add 104 = .ok (.dup, 1) := by decide +kernel
theorem dX2_add_105 : decode cX2_add 105 = .ok (.getfield 26, 3) := by decide +kernel
theorem dX2_add_108 : decode cX2_add 108 = .ok (.iconst 1, 1) := by decide +kernel
theorem dX2_add_109 : decode cX2_add 109 = .ok (.iadd, 1) := by decide +kernel
theorem dX2_add_110 : decode cX2_add 110 = .ok (.putfield 26, 3) := by decide +kernel
theorem dX2_add_113 : decode cX2_add 113 = .ok (.return_, 1) := by decide +kernel
theorem dX3_init_0 : decode cX3_init 0 = .ok (.aload_n 0, 1) := by decide +kernel
theorem dX3_init_1 : decode cX3_init 1 = .ok (.invokespecial 3, 3) := by decide +kernel
theorem dX3_init_4 : decode cX3_init 4 = .ok (.aload_n 0, 1) := by decide +kernel
theorem dX3_init_5 : decode cX3_init 5 = .ok (.aload_n 1, 1) := by decide +kernel
theorem dX3_init_6 : decode cX3_init 6 = .ok (.putfield 9, 3) := by decide +kernel
theorem dX3_init_9 : decode cX3_init 9 = .ok (.aload_n 0, 1) := by decide +kernel
theorem dX3_init_10 : decode cX3_init 10 = .ok (.new 15, 3) := by decide +kernel
theorem dX3_init_13 : decode cX3_init 13 = .ok (.dup, 1) := by decide +kernel
theorem dX3_init_14 : decode cX3_init 14 = .ok (.invokespecial 17, 3) := by decide +kernel
theorem dX3_init_17 : decode cX3_init 17 = .ok (.putfield 18, 3) := by decide +kernel
theorem dX3_init_20 : decode cX3_init 20 = .ok (.aload_n 0, 1) := by decide +kernel
theorem dX3_init_21 : decode cX3_init 21 = .ok (.iconst 0, 1) := by decide +kernel
theorem dX3_init_22 : decode cX3_init 22 = .ok (.putfield 22, 3) := by decide +kernel
theorem dX3_init_25 : decode cX3_init 25 = .ok (.aload_n 0, 1) := by decide +kernel
theorem dX3_init_26 : decode cX3_init 26 = .ok (.iconst (-1), 1) := by decide +kernel
theorem dX3_init_27 : decode cX3_init 27 = .ok (.putfield 26, 3) := by decide +kernel
theorem dX3_init_30 : decode cX3_init 30 = .ok (.return_, 1) := by decide +kernel
theorem dX3_read_0 : decode cX3_read 0 = .ok (.aload_n 0, 1) := by decide +kernel
theorem dX3_read_1 : decode cX3_read 1 = .ok (.aload_n 2, 1) := by decide +kernel
theorem dX3_read_2 : decode cX3_read 2 = .ok (.putfield 9, 3) := by decide +kernel
theorem dX3_read_5 : decode cX3_read 5 = .ok (.aload_n 0, 1) := by decide +kernel
theorem dX3_read_6 : decode cX3_read 6 = .ok (.getfield 9, 3) := by decide +kernel
theorem dX3_read_9 : decode cX3_read 9 = .ok (.invokevirtual 29, 3) := by decide +kernel
theorem dX3_read_12 : decode cX3_read 12 = .ok (.aload_n 0, 1) := by decide +kernel
theorem dX3_read_13 : decode cX3_read 13 = .ok (.getfield 18, 3) := by decide +kernel
theorem dX3_read_16 : decode cX3_read 16 = .ok (.aload_n 1, 1) := by decide +kernel
theorem dX3_read_17 : decode cX3_read 17 = .ok (.invokevirtual 34, 3) := by decide +kernel
theorem dX3_read_20 : decode cX3_read 20 = .ok (.aload_n 0, 1) := by decide +kernel
theorem dX3_read_21 : decode cX3_read 21 = .ok (.iconst 0, 1) := by decide +kernel
theorem dX3_read_22 : decode cX3_read 22 = .ok (.invokevirtual 38, 3) := by decide +kernel
theorem dX3_read_25 : decode cX3_read 25 = .ok (.aload_n 0, 1) := by decide +kernel
theorem dX3_read_26 : decode cX3_read 26 = .ok (.iconst 0, 1) := by decide +kernel
theorem dX3_read_27 : decode cX3_read 27 = .ok (.putfield 42, 3) := by decide +kernel
theorem dX3_read_30 : decode cX3_read 30 = .ok (.aload_n 0, 1) := by decide +kernel
theorem dX3_read_31 : decode cX3_read 31 = .ok (.iconst 0, 1) := by decide +kernel
theorem dX3_read_32 : decode cX3_read 32 = .ok (.putfield 22, 3) := by decide +kernel
theorem dX3_read_35 : decode cX3_read 35 = .ok (.aload_n 0, 1) := by decide +kernel
theorem dX3_read_36 : decode cX3_read 36 = .ok (.iconst (-1), 1) := by decide +kernel
theorem dX3_read_37 : decode cX3_read 37 = .ok (.putfield 26, 3) := by decide +kernel
theorem dX3_read_40 : decode cX3_read 40 = .ok (.iconst 0, 1) := by decide +kernel
theorem dX3_read_41 : decode cX3_read 41 = .ok (.istore_n 3, 1) := by decide +kernel
theorem dX3_read_42 : decode cX3_read 42 = .ok (.iload_n 3, 1) := by decide +kernel
theorem dX3_read_43 : decode cX3_read 43 = .ok (.sipush 1700, 3) := by decide +kernel
theorem dX3_read_46 : decode cX3_read 46 = .ok (.if_icmp .gt 28, 3) := by decide +kernel
theorem dX3_read_49 : decode cX3_read 49 = .ok (.aload_n 0, 1) := by decide +kernel
theorem dX3_read_50 : decode cX3_read 50 = .ok (.getfield 22, 3) := by decide +kernel
theorem dX3_read_53 : decode cX3_read 53 = .ok (.ifCond .ne 21, 3) := by decide +kernel
theorem dX3_read_56 : decode cX3_read 56 = .ok (.aload_n 0, 1) := by decide +kernel
theorem dX3_read_57 : decode cX3_read 57 = .ok (.getfield 45, 3) := by decide +kernel
theorem dX3_read_60 : decode cX3_read 60 = .ok (.ifCond .eq 14, 3) := by decide +kernel
theorem dX3_read_63 : decode cX3_read 63 = .ok (.aload_n 0, 1) := by decide +kernel
theorem dX3_read_64 : decode cX3_read 64 = .ok (.invokevirtual 48, 3) := by decide +kernel
theorem dX3_read_67 : decode cX3_read 67 = .ok (.pop, 1) := by decide +kernel
theorem dX3_read_68 : decode cX3_read 68 = .ok (.iinc 3 1, 3) := by decide +kernel
theorem dX3_read_71 : decode cX3_read 71 = .ok (.goto (-29), 3) := by decide +kernel
theorem dX3_read_74 : decode cX3_read 74 = .ok (.aload_n 0, 1) := by decide +kernel
theorem dX3_read_75 : decode cX3_read 75 = .ok (.getfield 22, 3) := by decide +kernel
theorem dX3_read_78 : decode cX3_read 78 = .ok (.ifCond .ne 10, 3) := by decide +kernel
theorem dX3_read_81 : decode cX3_read 81 = .ok (.aload_n 0, 1) := by decide +kernel
theorem dX3_read_82 : decode cX3_read 82 = .ok (.getfield 9, 3) := by decide +kernel
theorem dX3_read_85 : decode cX3_read 85 = .ok (.invokevirtual 52, 3) := by decide +kernel
theorem dX3_read_88 : decode cX3_read 88 = .ok (.aload_n 0, 1) := by decide +kernel
theorem dX3_read_89 : decode cX3_read 89 = .ok (.getfield 22, 3) := by decide +kernel
theorem dX3_read_92 : decode cX3_read 92 = .ok (.ifCond .ne 7, 3) := by decide +kernel
theorem dX3_read_95 : decode cX3_read 95 = .ok (.iconst 1, 1) := by decide +kernel
theorem dX3_read_96 : decode cX3_read 96 = .ok (.goto 4, 3) := by decide +kernel
theorem dX3_read_99 : decode cX3_read 99 = .ok (.iconst 0, 1) := by decide +kernel
theorem dX3_read_100 : decode cX3_read 100 = .ok (.ireturn, 1) := by decide +kernel
theorem dX3_readLine_0 : decode cX3_readLine 0 = .ok (.aload_n 0, 1) := by decide +kernel
theorem dX3_readLine_1 : decode cX3_readLine 1 = .ok (.getfield 45, 3) := by decide +kernel
theorem dX3_readLine_4 : decode cX3_readLine 4 = .ok (.tableswitch 133 5 14 #[56, 81, 86, 100, 114, 128, 61, 66, 76, 71], 56) := by decide +kernel
theorem dX3_readLine_60 : decode cX3_readLine 60 = .ok (.aload_n 0, 1) := by decide +kernel
theorem dX3_readLine_61 : decode cX3_readLine 61 = .ok (.invokevirtual 55, 3) := by decide +kernel
theorem dX3_readLine_64 : decode cX3_readLine 64 = .ok (.ireturn, 1) := by decide +kernel
theorem dX3_readLine_65 : decode cX3_readLine 65 = .ok (.aload_n 0, 1) := by decide +kernel
theorem dX3_readLine_66 : decode cX3_readLine 66 = .ok (.invokevirtual 58, 3) := by decide +kernel
theorem dX3_readLine_69 : decode cX3_readLine 69 = .ok (.ireturn, 1) := by decide +kernel
theorem dX3_readLine_70 : decode cX3_readLine 70 = .ok (.aload_n 0, 1) := by decide +kernel
theorem dX3_readLine_71 : decode cX3_readLine 71 = .ok (.invokevirtual 61, 3) := by decide +kernel
theorem dX3_readLine_74 : decode cX3_readLine 74 = .ok (.ireturn, 1) := by decide +kernel
theorem dX3_readLine_75 : decode cX3_readLine 75 = .ok (.aload_n 0, 1) := by decide +kernel
theorem dX3_readLine_76 : decode cX3_readLine 76 = .ok (.invokevirtual 64, 3) := by decide +kernel
theorem dX3_readLine_79 : decode cX3_readLine 79 = .ok (.ireturn, 1) := by decide +kernel
theorem dX3_readLine_80 : decode cX3_readLine 80 = .ok (.aload_n 0, 1) := by decide +kernel
theorem dX3_readLine_81 : decode cX3_readLine 81 = .ok (.invokevirtual 67, 3) := by decide +kernel
theorem dX3_readLine_84 : decode cX3_readLine 84 = .ok (.ireturn, 1) := by decide +kernel
theorem dX3_readLine_85 : decode cX3_readLine 85 = .ok (.aload_n 0, 1) := by decide +kernel
theorem dX3_readLine_86 : decode cX3_readLine 86 = .ok (.invokevirtual 70, 3) := by decide +kernel
theorem dX3_readLine_89 : decode cX3_readLine 89 = .ok (.ireturn, 1) := by decide +kernel
theorem dX3_readLine_90 : decode cX3_readLine 90 = .ok (.aload_n 0, 1) := by decide +kernel
theorem dX3_readLine_91 : decode cX3_readLine 91 = .ok (.aload_n 0, 1) := by decide +kernel
theorem dX3_readLine_92 : decode cX3_readLine 92 = .ok (.getfield 9, 3) := by decide +kernel
theorem dX3_readLine_95 : decode cX3_readLine 95 = .ok (.getfield 73, 3) := by decide +kernel
theorem dX3_readLine_98 : decode cX3_readLine 98 = .ok (.bipush 99, 2) := by decide +kernel
theorem dX3_readLine_100 : decode cX3_readLine 100 = .ok (.invokevirtual 77, 3) := by decide +kernel
theorem dX3_readLine_103 : decode cX3_readLine 103 = .ok (.ireturn, 1) := by decide +kernel
theorem dX3_readLine_104 : decode cX3_readLine 104 = .ok (.aload_n 0, 1) := by decide +kernel
theorem dX3_readLine_105 : decode cX3_readLine 105 = .ok (.aload_n 0, 1) := by decide +kernel
theorem dX3_readLine_106 : decode cX3_readLine 106 = .ok (.getfield 9, 3) := by decide +kernel
theorem dX3_readLine_109 : decode cX3_readLine 109 = .ok (.getfield 81, 3) := by decide +kernel
theorem dX3_readLine_112 : decode cX3_readLine 112 = .ok (.bipush 99, 2) := by decide +kernel
theorem dX3_readLine_114 : decode cX3_readLine 114 = .ok (.invokevirtual 77, 3) := by decide +kernel
theorem dX3_readLine_117 : decode cX3_readLine 117 = .ok (.ireturn, 1) := by decide +kernel
theorem dX3_readLine_118 : decode cX3_readLine 118 = .ok (.aload_n 0, 1) := by decide +kernel
theorem dX3_readLine_119 : decode cX3_readLine 119 = .ok (.aload_n 0, 1) := by decide +kernel
theorem dX3_readLine_120 : decode cX3_readLine 120 = .ok (.getfield 9, 3) := by decide +kernel
theorem dX3_readLine_123 : decode cX3_readLine 123 = .ok (.getfield 84, 3) := by decide +kernel
theorem dX3_readLine_126 : decode cX3_readLine 126 = .ok (.bipush 9, 2) := by decide +kernel
theorem dX3_readLine_128 : decode cX3_readLine 128 = .ok (.invokevirtual 77, 3) := by decide +kernel
theorem dX3_readLine_131 : decode cX3_readLine 131 = .ok (.ireturn, 1) := by decide +kernel
theorem dX3_readLine_132 : decode cX3_readLine 132 = .ok (.aload_n 0, 1) := by decide +kernel
theorem dX3_readLine_133 : decode cX3_readLine 133 = .ok (.invokevirtual 87, 3) := by decide +kernel
theorem dX3_readLine_136 : decode cX3_readLine 136 = .ok (.ireturn, 1) := by decide +kernel
theorem dX3_readLine_137 : decode cX3_readLine 137 = .ok (.aload_n 0, 1) := by decide +kernel
theorem dX3_readLine_138 : decode cX3_readLine 138 = .ok (.iconst 2, 1) := by decide +kernel
theorem dX3_readLine_139 : decode cX3_readLine 139 = .ok (.invokevirtual 90, 3) := by decide +kernel
theorem dX3_readLine_142 : decode cX3_readLine 142 = .ok (.ireturn, 1) := by decide +kernel
theorem dX3_readBands_0 : decode cX3_readBands 0 = .ok (.aload_n 0, 1) := by decide +kernel
theorem dX3_readBands_1 : decode cX3_readBands 1 = .ok (.getfield 9, 3) := by decide +kernel
theorem dX3_readBands_4 : decode cX3_readBands 4 = .ok (.getfield 94, 3) := by decide +kernel
theorem dX3_readBands_7 : decode cX3_readBands 7 = .ok (.getfield 97, 3) := by decide +kernel
theorem dX3_readBands_10 : decode cX3_readBands 10 = .ok (.aload_n 0, 1) := by decide +kernel
theorem dX3_readBands_11 : decode cX3_readBands 11 = .ok (.getfield 9, 3) := by decide +kernel
theorem dX3_readBands_14 : decode cX3_readBands 14 = .ok (.getfield 73, 3) := by decide +kernel
theorem dX3_readBands_17 : decode cX3_readBands 17 = .ok (.getfield 97, 3) := by decide +kernel
theorem dX3_readBands_20 : decode cX3_readBands 20 = .ok (.iadd, 1) := by decide +kernel
theorem dX3_readBands_21 : decode cX3_readBands 21 = .ok (.aload_n 0, 1) := by decide +kernel
theorem dX3_readBands_22 : decode cX3_readBands 22 = .ok (.getfield 9, 3) := by decide +kernel
theorem dX3_readBands_25 : decode cX3_readBands 25 = .ok (.getfield 81, 3) := by decide +kernel
theorem dX3_readBands_28 : decode cX3_readBands 28 = .ok (.getfield 97, 3) := by decide +kernel
theorem dX3_readBands_31 : decode cX3_readBands 31 = .ok (.iadd, 1) := by decide +kernel
theorem dX3_readBands_32 : decode cX3_readBands 32 = .ok (.aload_n 0, 1) := by decide +kernel
theorem dX3_readBands_33 : decode cX3_readBands 33 = .ok (.getfield 9, 3) := by decide +kernel
theorem dX3_readBands_36 : decode cX3_readBands 36 = .ok (.getfield 84, 3) := by decide +kernel
theorem dX3_readBands_39 : decode cX3_readBands 39 = .ok (.getfield 97, 3) := by decide +kernel
theorem dX3_readBands_42 : decode cX3_readBands 42 = .ok (.iadd, 1) := by decide +kernel
theorem dX3_readBands_43 : decode cX3_readBands 43 = .ok (.ifCond .le 7, 3) := by decide +kernel
theorem dX3_readBands_46 : decode cX3_readBands 46 = .ok (.iconst 1, 1) := by decide +kernel
theorem dX3_readBands_47 : decode cX3_readBands 47 = .ok (.goto 4, 3) := by decide +kernel
theorem dX3_readBands_50 : decode cX3_readBands 50 = .ok (.iconst 0, 1) := by decide +kernel
theorem dX3_readBands_51 : decode cX3_readBands 51 = .ok (.istore_n 1, 1) := by decide +kernel
theorem dX3_readBands_52 : decode cX3_readBands 52 = .ok (.iload_n 1, 1) := by decide +kernel
theorem dX3_readBands_53 : decode cX3_readBands 53 = .ok (.ifCond .ne 20, 3) := by decide +kernel
theorem dX3_readBands_56 : decode cX3_readBands 56 = .ok (.aload_n 0, 1) := by decide +kernel
theorem dX3_readBands_57 : decode cX3_readBands 57 = .ok (.invokevirtual 102, 3) := by decide +kernel
theorem dX3_readBands_60 : decode cX3_readBands 60 = .ok (.ifCond .eq 13, 3) := by decide +kernel
theorem dX3_readBands_63 : decode cX3_readBands 63 = .ok (.aload_n 0, 1) := by decide +kernel
theorem dX3_readBands_64 : decode cX3_readBands 64 = .ok (.iconst 1, 1) := by decide +kernel
theorem dX3_readBands_65 : decode cX3_readBands 65 = .ok (.bipush 16, 2) := by decide +kernel
theorem dX3_readBands_67 : decode cX3_readBands 67 = .ok (.invokevirtual 105, 3) := by decide +kernel
theorem dX3_readBands_70 : decode cX3_readBands 70 = .ok (.ifCond .ne 9, 3) := by decide +kernel
theorem dX3_readBands_73 : decode cX3_readBands 73 = .ok (.aload_n 0, 1) := by decide +kernel
theorem dX3_readBands_74 : decode cX3_readBands 74 = .ok (.iconst 2, 1) := by decide +kernel
theorem dX3_readBands_75 : decode cX3_readBands 75 = .ok (.invokevirtual 90, 3) := by decide +kernel
theorem dX3_readBands_78 : decode cX3_readBands 78 = .ok (.ireturn, 1) := by decide +kernel
theorem dX3_readBands_79 : decode cX3_readBands 79 = .ok (.aload_n 0, 1) := by decide +kernel
theorem dX3_readBands_80 : decode cX3_readBands 80 = .ok (.getfield 9, 3) := by decide +kernel
theorem dX3_readBands_83 : decode cX3_readBands 83 = .ok (.aload_n 0, 1) := by decide +kernel
theorem dX3_readBands_84 : decode cX3_readBands 84 = .ok (.getfield 109, 3) := by decide +kernel
theorem dX3_readBands_87 : decode cX3_readBands 87 = .ok (.putfield 112, 3) := by decide +kernel
theorem dX3_readBands_90 : decode cX3_readBands 90 = .ok (.aload_n 0, 1) := by decide +kernel
theorem dX3_readBands_91 : decode cX3_readBands 91 = .ok (.iconst 3, 1) := by decide +kernel
theorem dX3_readBands_92 : decode cX3_readBands 92 = .ok (.invokevirtual 115, 3) := by decide +kernel
theorem dX3_readBands_95 : decode cX3_readBands 95 = .ok (.ireturn, 1) := by decide +kernel
theorem dX3_readMost_0 : decode cX3_readMost 0 = .ok (.aload_n 0, 1) := by decide +kernel
theorem dX3_readMost_1 : decode cX3_readMost 1 = .ok (.getfield 9, 3) := by decide +kernel
theorem dX3_readMost_4 : decode cX3_readMost 4 = .ok (.getfield 118, 3) := by decide +kernel
theorem dX3_readMost_7 : decode cX3_readMost 7 = .ok (.getfield 97, 3) := by decide +kernel
theorem dX3_readMost_10 : decode cX3_readMost 10 = .ok (.ifCond .gt 20, 3) := by decide +kernel
theorem dX3_readMost_13 : decode cX3_readMost 13 = .ok (.aload_n 0, 1) := by decide +kernel
theorem dX3_readMost_14 : decode cX3_readMost 14 = .ok (.invokevirtual 102, 3) := by decide +kernel
theorem dX3_readMost_17 : decode cX3_readMost 17 = .ok (.ifCond .eq 13, 3) := by decide +kernel
theorem dX3_readMost_20 : decode cX3_readMost 20 = .ok (.aload_n 0, 1) := by decide +kernel
theorem dX3_readMost_21 : decode cX3_readMost 21 = .ok (.iconst 1, 1) := by decide +kernel
theorem dX3_readMost_22 : decode cX3_readMost 22 = .ok (.bipush 24, 2) := by decide +kernel
theorem dX3_readMost_24 : decode cX3_readMost 24 = .ok (.invokevirtual 105, 3) := by decide +kernel
theorem dX3_readMost_27 : decode cX3_readMost 27 = .ok (.ifCond .ne 9, 3) := by decide +kernel
theorem dX3_readMost_30 : decode cX3_readMost 30 = .ok (.aload_n 0, 1) := by decide +kernel
theorem dX3_readMost_31 : decode cX3_readMost 31 = .ok (.iconst 2, 1) := by decide +kernel
theorem dX3_readMost_32 : decode cX3_readMost 32 = .ok (.invokevirtual 90, 3) := by decide +kernel
theorem dX3_readMost_35 : decode cX3_readMost 35 = .ok (.ireturn, 1) := by decide +kernel
theorem dX3_readMost_36 : decode cX3_readMost 36 = .ok (.aload_n 0, 1) := by decide +kernel
theorem dX3_readMost_37 : decode cX3_readMost 37 = .ok (.getfield 9, 3) := by decide +kernel
theorem dX3_readMost_40 : decode cX3_readMost 40 = .ok (.aload_n 0, 1) := by decide +kernel
theorem dX3_readMost_41 : decode cX3_readMost 41 = .ok (.getfield 109, 3) := by decide +kernel
theorem dX3_readMost_44 : decode cX3_readMost 44 = .ok (.putfield 121, 3) := by decide +kernel
theorem dX3_readMost_47 : decode cX3_readMost 47 = .ok (.aload_n 0, 1) := by decide +kernel
theorem dX3_readMost_48 : decode cX3_readMost 48 = .ok (.iconst 3, 1) := by decide +kernel
theorem dX3_readMost_49 : decode cX3_readMost 49 = .ok (.invokevirtual 115, 3) := by decide +kernel
theorem dX3_readMost_52 : decode cX3_readMost 52 = .ok (.ireturn, 1) := by decide +kernel
theorem dX3_readAlike_0 : decode cX3_readAlike 0 = .ok (.aload_n 0, 1) := by decide +kernel
theorem dX3_readAlike_1 : decode cX3_readAlike 1 = .ok (.invokevirtual 102, 3) := by decide +kernel
theorem dX3_readAlike_4 : decode cX3_readAlike 4 = .ok (.ifCond .eq 14, 3) := by decide +kernel
theorem dX3_readAlike_7 : decode cX3_readAlike 7 = .ok (.aload_n 0, 1) := by decide +kernel
theorem dX3_readAlike_8 : decode cX3_readAlike 8 = .ok (.iconst 0, 1) := by decide +kernel
theorem dX3_readAlike_9 : decode cX3_readAlike 9 = .ok (.sipush 9999, 3) := by decide +kernel
theorem dX3_readAlike_12 : decode cX3_readAlike 12 = .ok (.invokevirtual 105, 3) := by decide +kernel
theorem dX3_readAlike_15 : decode cX3_readAlike 15 = .ok (.ifCond .ne 5, 3) := by decide +kernel
theorem dX3_readAlike_18 : decode cX3_readAlike 18 = .ok (.iconst 0, 1) := by decide +kernel
theorem dX3_readAlike_19 : decode cX3_readAlike 19 = .ok (.ireturn, 1) := by decide +kernel
theorem dX3_readAlike_20 : decode cX3_readAlike 20 = .ok (.aload_n 0, 1) := by decide +kernel
theorem dX3_readAlike_21 : decode cX3_readAlike 21 = .ok (.getfield 9, 3) := by decide +kernel
theorem dX3_readAlike_24 : decode cX3_readAlike 24 = .ok (.aload_n 0, 1) := by decide +kernel
theorem dX3_readAlike_25 : decode cX3_readAlike 25 = .ok (.getfield 109, 3) := by decide +kernel
theorem dX3_readAlike_28 : decode cX3_readAlike 28 = .ok (.putfield 124, 3) := by decide +kernel
theorem dX3_readAlike_31 : decode cX3_readAlike 31 = .ok (.aload_n 0, 1) := by decide +kernel
theorem dX3_readAlike_32 : decode cX3_readAlike 32 = .ok (.iconst 3, 1) := by decide +kernel
theorem dX3_readAlike_33 : decode cX3_readAlike 33 = .ok (.invokevirtual 115, 3) := by decide +kernel
theorem dX3_readAlike_36 : decode cX3_readAlike 36 = .ok (.ireturn, 1) := by decide +kernel
theorem dX3_readSlip_0 : decode cX3_readSlip 0 = .ok (.aload_n 0, 1) := by decide +kernel
theorem dX3_readSlip_1 : decode cX3_readSlip 1 = .ok (.invokevirtual 102, 3) := by decide +kernel
theorem dX3_readSlip_4 : decode cX3_readSlip 4 = .ok (.ifCond .eq 13, 3) := by decide +kernel
theorem dX3_readSlip_7 : decode cX3_readSlip 7 = .ok (.aload_n 0, 1) := by decide +kernel
theorem dX3_readSlip_8 : decode cX3_readSlip 8 = .ok (.iconst 0, 1) := by decide +kernel
theorem dX3_readSlip_9 : decode cX3_readSlip 9 = .ok (.bipush 9, 2) := by decide +kernel
theorem dX3_readSlip_11 : decode cX3_readSlip 11 = .ok (.invokevirtual 105, 3) := by decide +kernel
theorem dX3_readSlip_14 : decode cX3_readSlip 14 = .ok (.ifCond .ne 5, 3) := by decide +kernel
theorem dX3_readSlip_17 : decode cX3_readSlip 17 = .ok (.iconst 0, 1) := by decide +kernel
theorem dX3_readSlip_18 : decode cX3_readSlip 18 = .ok (.ireturn, 1) := by decide +kernel
theorem dX3_readSlip_19 : decode cX3_readSlip 19 = .ok (.aload_n 0, 1) := by decide +kernel
theorem dX3_readSlip_20 : decode cX3_readSlip 20 = .ok (.getfield 9, 3) := by decide +kernel
theorem dX3_readSlip_23 : decode cX3_readSlip 23 = .ok (.aload_n 0, 1) := by decide +kernel
theorem dX3_readSlip_24 : decode cX3_readSlip 24 = .ok (.getfield 109, 3) := by decide +kernel
theorem dX3_readSlip_27 : decode cX3_readSlip 27 = .ok (.putfield 127, 3) := by decide +kernel
theorem dX3_readSlip_30 : decode cX3_readSlip 30 = .ok (.aload_n 0, 1) := by decide +kernel
theorem dX3_readSlip_31 : decode cX3_readSlip 31 = .ok (.iconst 3, 1) := by decide +kernel
theorem dX3_readSlip_32 : decode cX3_readSlip 32 = .ok (.invokevirtual 115, 3) := by decide +kernel
theorem dX3_readSlip_35 : decode cX3_readSlip 35 = .ok (.ireturn, 1) := by decide +kernel
theorem dX3_readOver_0 : decode cX3_readOver 0 = .ok (.aload_n 0, 1) := by decide +kernel
theorem dX3_readOver_1 : decode cX3_readOver 1 = .ok (.invokevirtual 102, 3) := by decide +kernel
theorem dX3_readOver_4 : decode cX3_readOver 4 = .ok (.ifCond .ne 5, 3) := by decide +kernel
theorem dX3_readOver_7 : decode cX3_readOver 7 = .ok (.iconst 0, 1) := by decide +kernel
theorem dX3_readOver_8 : decode cX3_readOver 8 = .ok (.ireturn, 1) := by decide +kernel
theorem dX3_readOver_9 : decode cX3_readOver 9 = .ok (.aload_n 0, 1) := by decide +kernel
theorem dX3_readOver_10 : decode cX3_readOver 10 = .ok (.getfield 9, 3) := by decide +kernel
theorem dX3_readOver_13 : decode cX3_readOver 13 = .ok (.iconst 1, 1) := by decide +kernel
theorem dX3_readOver_14 : decode cX3_readOver 14 = .ok (.putfield 130, 3) := by decide +kernel
theorem dX3_readOver_17 : decode cX3_readOver 17 = .ok (.aload_n 0, 1) := by decide +kernel
theorem dX3_readOver_18 : decode cX3_readOver 18 = .ok (.iconst 3, 1) := by decide +kernel
theorem dX3_readOver_19 : decode cX3_readOver 19 = .ok (.invokevirtual 115, 3) := by decide +kernel
theorem dX3_readOver_22 : decode cX3_readOver 22 = .ok (.ireturn, 1) := by decide +kernel
theorem dX3_readDye_0 : decode cX3_readDye 0 = .ok (.aload_n 0, 1) := by decide +kernel
theorem dX3_readDye_1 : decode cX3_readDye 1 = .ok (.getfield 9, 3) := by decide +kernel
theorem dX3_readDye_4 : decode cX3_readDye 4 = .ok (.getfield 94, 3) := by decide +kernel
theorem dX3_readDye_7 : decode cX3_readDye 7 = .ok (.getfield 97, 3) := by decide +kernel
theorem dX3_readDye_10 : decode cX3_readDye 10 = .ok (.istore_n 1, 1) := by decide +kernel
theorem dX3_readDye_11 : decode cX3_readDye 11 = .ok (.aload_n 0, 1) := by decide +kernel
theorem dX3_readDye_12 : decode cX3_readDye 12 = .ok (.getfield 9, 3) := by decide +kernel
theorem dX3_readDye_15 : decode cX3_readDye 15 = .ok (.getfield 118, 3) := by decide +kernel
theorem dX3_readDye_18 : decode cX3_readDye 18 = .ok (.getfield 97, 3) := by decide +kernel
theorem dX3_readDye_21 : decode cX3_readDye 21 = .ok (.ifCond .gt 17, 3) := by decide +kernel
theorem dX3_readDye_24 : decode cX3_readDye 24 = .ok (.aload_n 0, 1) := by decide +kernel
theorem dX3_readDye_25 : decode cX3_readDye 25 = .ok (.aload_n 0, 1) := by decide +kernel
theorem dX3_readDye_26 : decode cX3_readDye 26 = .ok (.getfield 9, 3) := by decide +kernel
theorem dX3_readDye_29 : decode cX3_readDye 29 = .ok (.getfield 94, 3) := by decide +kernel
theorem dX3_readDye_32 : decode cX3_readDye 32 = .ok (.invokevirtual 134, 3) := by decide +kernel
theorem dX3_readDye_35 : decode cX3_readDye 35 = .ok (.ifCond .ne 9, 3) := by decide +kernel
theorem dX3_readDye_38 : decode cX3_readDye 38 = .ok (.aload_n 0, 1) := by decide +kernel
theorem dX3_readDye_39 : decode cX3_readDye 39 = .ok (.iconst 2, 1) := by decide +kernel
theorem dX3_readDye_40 : decode cX3_readDye 40 = .ok (.invokevirtual 90, 3) := by decide +kernel
theorem dX3_readDye_43 : decode cX3_readDye 43 = .ok (.ireturn, 1) := by decide +kernel
theorem dX3_readDye_44 : decode cX3_readDye 44 = .ok (.aload_n 0, 1) := by decide +kernel
theorem dX3_readDye_45 : decode cX3_readDye 45 = .ok (.bipush 15, 2) := by decide +kernel
theorem dX3_readDye_47 : decode cX3_readDye 47 = .ok (.invokevirtual 115, 3) := by decide +kernel
theorem dX3_readDye_50 : decode cX3_readDye 50 = .ok (.ifCond .eq 13, 3) := by decide +kernel
theorem dX3_readDye_53 : decode cX3_readDye 53 = .ok (.aload_n 0, 1) := by decide +kernel
theorem dX3_readDye_54 : decode cX3_readDye 54 = .ok (.iconst 0, 1) := by decide +kernel
theorem dX3_readDye_55 : decode cX3_readDye 55 = .ok (.bipush 99, 2) := by decide +kernel
theorem dX3_readDye_57 : decode cX3_readDye 57 = .ok (.invokevirtual 105, 3) := by decide +kernel
theorem dX3_readDye_60 : decode cX3_readDye 60 = .ok (.ifCond .ne 5, 3) := by decide +kernel
theorem dX3_readDye_63 : decode cX3_readDye 63 = .ok (.iconst 0, 1) := by decide +kernel
theorem dX3_readDye_64 : decode cX3_readDye 64 = .ok (.ireturn, 1) := by decide +kernel
theorem dX3_readDye_65 : decode cX3_readDye 65 = .ok (.aload_n 0, 1) := by decide +kernel
theorem dX3_readDye_66 : decode cX3_readDye 66 = .ok (.getfield 9, 3) := by decide +kernel
theorem dX3_readDye_69 : decode cX3_readDye 69 = .ok (.getfield 138, 3) := by decide +kernel
theorem dX3_readDye_72 : decode cX3_readDye 72 = .ok (.iload_n 1, 1) := by decide +kernel
theorem dX3_readDye_73 : decode cX3_readDye 73 = .ok (.aload_n 0, 1) := by decide +kernel
theorem dX3_readDye_74 : decode cX3_readDye 74 = .ok (.getfield 109, 3) := by decide +kernel
theorem dX3_readDye_77 : decode cX3_readDye 77 = .ok (.iastore, 1) := by decide +kernel
theorem dX3_readDye_78 : decode cX3_readDye 78 = .ok (.aload_n 0, 1) := by decide +kernel
theorem dX3_readDye_79 : decode cX3_readDye 79 = .ok (.bipush 16, 2) := by decide +kernel
theorem dX3_readDye_81 : decode cX3_readDye 81 = .ok (.invokevirtual 115, 3) := by decide +kernel
theorem dX3_readDye_84 : decode cX3_readDye 84 = .ok (.ifCond .eq 13, 3) := by decide +kernel
theorem dX3_readDye_87 : decode cX3_readDye 87 = .ok (.aload_n 0, 1) := by decide +kernel
theorem dX3_readDye_88 : decode cX3_readDye 88 = .ok (.iconst 0, 1) := by decide +kernel
theorem dX3_readDye_89 : decode cX3_readDye 89 = .ok (.bipush 99, 2) := by decide +kernel
theorem dX3_readDye_91 : decode cX3_readDye 91 = .ok (.invokevirtual 105, 3) := by decide +kernel
theorem dX3_readDye_94 : decode cX3_readDye 94 = .ok (.ifCond .ne 5, 3) := by decide +kernel
theorem dX3_readDye_97 : decode cX3_readDye 97 = .ok (.iconst 0, 1) := by decide +kernel
theorem dX3_readDye_98 : decode cX3_readDye 98 = .ok (.ireturn, 1) := by decide +kernel
theorem dX3_readDye_99 : decode cX3_readDye 99 = .ok (.aload_n 0, 1) := by decide +kernel
theorem dX3_readDye_100 : decode cX3_readDye 100 = .ok (.getfield 9, 3) := by decide +kernel
theorem dX3_readDye_103 : decode cX3_readDye 103 = .ok (.getfield 142, 3) := by decide +kernel
theorem dX3_readDye_106 : decode cX3_readDye 106 = .ok (.iload_n 1, 1) := by decide +kernel
theorem dX3_readDye_107 : decode cX3_readDye 107 = .ok (.aload_n 0, 1) := by decide +kernel
theorem dX3_readDye_108 : decode cX3_readDye 108 = .ok (.getfield 109, 3) := by decide +kernel
theorem dX3_readDye_111 : decode cX3_readDye 111 = .ok (.iastore, 1) := by decide +kernel
theorem dX3_readDye_112 : decode cX3_readDye 112 = .ok (.aload_n 0, 1) := by decide +kernel
theorem dX3_readDye_113 : decode cX3_readDye 113 = .ok (.aload_n 0, 1) := by decide +kernel
theorem dX3_readDye_114 : decode cX3_readDye 114 = .ok (.getfield 9, 3) := by decide +kernel
theorem dX3_readDye_117 : decode cX3_readDye 117 = .ok (.getfield 94, 3) := by decide +kernel
theorem dX3_readDye_120 : decode cX3_readDye 120 = .ok (.bipush 99, 2) := by decide +kernel
theorem dX3_readDye_122 : decode cX3_readDye 122 = .ok (.invokevirtual 145, 3) := by decide +kernel
theorem dX3_readDye_125 : decode cX3_readDye 125 = .ok (.ireturn, 1) := by decide +kernel
theorem dX3_readThing_0 : decode cX3_readThing 0 = .ok (.aload_n 0, 1) := by decide +kernel
theorem dX3_readThing_1 : decode cX3_readThing 1 = .ok (.aload_n 1, 1) := by decide +kernel
theorem dX3_readThing_2 : decode cX3_readThing 2 = .ok (.invokevirtual 134, 3) := by decide +kernel
theorem dX3_readThing_5 : decode cX3_readThing 5 = .ok (.ifCond .eq 16, 3) := by decide +kernel
theorem dX3_readThing_8 : decode cX3_readThing 8 = .ok (.aload_n 0, 1) := by decide +kernel
theorem dX3_readThing_9 : decode cX3_readThing 9 = .ok (.aload_n 1, 1) := by decide +kernel
theorem dX3_readThing_10 : decode cX3_readThing 10 = .ok (.iload_n 2, 1) := by decide +kernel
theorem dX3_readThing_11 : decode cX3_readThing 11 = .ok (.invokevirtual 145, 3) := by decide +kernel
theorem dX3_readThing_14 : decode cX3_readThing 14 = .ok (.ifCond .eq 7, 3) := by decide +kernel
theorem dX3_readThing_17 : decode cX3_readThing 17 = .ok (.iconst 1, 1) := by decide +kernel
theorem dX3_readThing_18 : decode cX3_readThing 18 = .ok (.goto 4, 3) := by decide +kernel
theorem dX3_readThing_21 : decode cX3_readThing 21 = .ok (.iconst 0, 1) := by decide +kernel
theorem dX3_readThing_22 : decode cX3_readThing 22 = .ok (.ireturn, 1) := by decide +kernel
theorem dX3_readGood_0 : decode cX3_readGood 0 = .ok (.aload_n 0, 1) := by decide +kernel
theorem dX3_readGood_1 : decode cX3_readGood 1 = .ok (.getfield 9, 3) := by decide +kernel
theorem dX3_readGood_4 : decode cX3_readGood 4 = .ok (.getfield 118, 3) := by decide +kernel
theorem dX3_readGood_7 : decode cX3_readGood 7 = .ok (.getfield 97, 3) := by decide +kernel
theorem dX3_readGood_10 : decode cX3_readGood 10 = .ok (.istore_n 1, 1) := by decide +kernel
theorem dX3_readGood_11 : decode cX3_readGood 11 = .ok (.aload_n 0, 1) := by decide +kernel
theorem dX3_readGood_12 : decode cX3_readGood 12 = .ok (.getfield 9, 3) := by decide +kernel
theorem dX3_readGood_15 : decode cX3_readGood 15 = .ok (.getfield 94, 3) := by decide +kernel
theorem dX3_readGood_18 : decode cX3_readGood 18 = .ok (.getfield 97, 3) := by decide +kernel
theorem dX3_readGood_21 : decode cX3_readGood 21 = .ok (.ifCond .eq 17, 3) := by decide +kernel
theorem dX3_readGood_24 : decode cX3_readGood 24 = .ok (.aload_n 0, 1) := by decide +kernel
theorem dX3_readGood_25 : decode cX3_readGood 25 = .ok (.aload_n 0, 1) := by decide +kernel
theorem dX3_readGood_26 : decode cX3_readGood 26 = .ok (.getfield 9, 3) := by decide +kernel
theorem dX3_readGood_29 : decode cX3_readGood 29 = .ok (.getfield 118, 3) := by decide +kernel
theorem dX3_readGood_32 : decode cX3_readGood 32 = .ok (.invokevirtual 134, 3) := by decide +kernel
theorem dX3_readGood_35 : decode cX3_readGood 35 = .ok (.ifCond .ne 9, 3) := by decide +kernel
theorem dX3_readGood_38 : decode cX3_readGood 38 = .ok (.aload_n 0, 1) := by decide +kernel
theorem dX3_readGood_39 : decode cX3_readGood 39 = .ok (.iconst 2, 1) := by decide +kernel
theorem dX3_readGood_40 : decode cX3_readGood 40 = .ok (.invokevirtual 90, 3) := by decide +kernel
theorem dX3_readGood_43 : decode cX3_readGood 43 = .ok (.ireturn, 1) := by decide +kernel
theorem dX3_readGood_44 : decode cX3_readGood 44 = .ok (.aload_n 0, 1) := by decide +kernel
theorem dX3_readGood_45 : decode cX3_readGood 45 = .ok (.bipush 18, 2) := by decide +kernel
theorem dX3_readGood_47 : decode cX3_readGood 47 = .ok (.invokevirtual 115, 3) := by decide +kernel
theorem dX3_readGood_50 : decode cX3_readGood 50 = .ok (.ifCond .eq 20, 3) := by decide +kernel
theorem dX3_readGood_53 : decode cX3_readGood 53 = .ok (.aload_n 0, 1) := by decide +kernel
theorem dX3_readGood_54 : decode cX3_readGood 54 = .ok (.iload_n 1, 1) := by decide +kernel
theorem dX3_readGood_55 : decode cX3_readGood 55 = .ok (.invokevirtual 148, 3) := by decide +kernel
theorem dX3_readGood_58 : decode cX3_readGood 58 = .ok (.ifCond .eq 12, 3) := by decide +kernel
theorem dX3_readGood_61 : decode cX3_readGood 61 = .ok (.aload_n 0, 1) := by decide +kernel
theorem dX3_readGood_62 : decode cX3_readGood 62 = .ok (.bipush 17, 2) := by decide +kernel
theorem dX3_readGood_64 : decode cX3_readGood 64 = .ok (.invokevirtual 115, 3) := by decide +kernel
theorem dX3_readGood_67 : decode cX3_readGood 67 = .ok (.ifCond .ne 5, 3) := by decide +kernel
theorem dX3_readGood_70 : decode cX3_readGood 70 = .ok (.iconst 0, 1) := by decide +kernel
theorem dX3_readGood_71 : decode cX3_readGood 71 = .ok (.ireturn, 1) := by decide +kernel
theorem dX3_readGood_72 : decode cX3_readGood 72 = .ok (.aload_n 0, 1) := by decide +kernel
theorem dX3_readGood_73 : decode cX3_readGood 73 = .ok (.getfield 9, 3) := by decide +kernel
theorem dX3_readGood_76 : decode cX3_readGood 76 = .ok (.getfield 121, 3) := by decide +kernel
theorem dX3_readGood_79 : decode cX3_readGood 79 = .ok (.istore_n 2, 1) := by decide +kernel
theorem dX3_readGood_80 : decode cX3_readGood 80 = .ok (.iconst 0, 1) := by decide +kernel
theorem dX3_readGood_81 : decode cX3_readGood 81 = .ok (.istore_n 3, 1) := by decide +kernel
theorem dX3_readGood_82 : decode cX3_readGood 82 = .ok (.iload_n 3, 1) := by decide +kernel
theorem dX3_readGood_83 : decode cX3_readGood 83 = .ok (.aload_n 0, 1) := by decide +kernel
theorem dX3_readGood_84 : decode cX3_readGood 84 = .ok (.getfield 9, 3) := by decide +kernel
theorem dX3_readGood_87 : decode cX3_readGood 87 = .ok (.getfield 94, 3) := by decide +kernel
theorem dX3_readGood_90 : decode cX3_readGood 90 = .ok (.getfield 97, 3) := by decide +kernel
theorem dX3_readGood_93 : decode cX3_readGood 93 = .ok (.if_icmp .ge 45, 3) := by decide +kernel
theorem dX3_readGood_96 : decode cX3_readGood 96 = .ok (.aload_n 0, 1) := by decide +kernel
theorem dX3_readGood_97 : decode cX3_readGood 97 = .ok (.iconst 0, 1) := by decide +kernel
theorem dX3_readGood_98 : decode cX3_readGood 98 = .ok (.iload_n 2, 1) := by decide +kernel
theorem dX3_readGood_99 : decode cX3_readGood 99 = .ok (.invokevirtual 105, 3) := by decide +kernel
theorem dX3_readGood_102 : decode cX3_readGood 102 = .ok (.ifCond .ne 5, 3) := by decide +kernel
theorem dX3_readGood_105 : decode cX3_readGood 105 = .ok (.iconst 0, 1) := by decide +kernel
theorem dX3_readGood_106 : decode cX3_readGood 106 = .ok (.ireturn, 1) := by decide +kernel
theorem dX3_readGood_107 : decode cX3_readGood 107 = .ok (.aload_n 0, 1) := by decide +kernel
theorem dX3_readGood_108 : decode cX3_readGood 108 = .ok (.getfield 9, 3) := by decide +kernel
theorem dX3_readGood_111 : decode cX3_readGood 111 = .ok (.getfield 118, 3) := by decide +kernel
theorem dX3_readGood_114 : decode cX3_readGood 114 = .ok (.getfield 151, 3) := by decide +kernel
theorem dX3_readGood_117 : decode cX3_readGood 117 = .ok (.iload_n 1, 1) := by decide +kernel
theorem dX3_readGood_118 : decode cX3_readGood 118 = .ok (.aaload, 1) := by decide +kernel
theorem dX3_readGood_119 : decode cX3_readGood 119 = .ok (.iload_n 3, 1) := by decide +kernel
theorem dX3_readGood_120 : decode cX3_readGood 120 = .ok (.aload_n 0, 1) := by decide +kernel
theorem dX3_readGood_121 : decode cX3_readGood 121 = .ok (.getfield 109, 3) := by decide +kernel
theorem dX3_readGood_124 : decode cX3_readGood 124 = .ok (.iastore, 1) := by decide +kernel
theorem dX3_readGood_125 : decode cX3_readGood 125 = .ok (.iload_n 2, 1) := by decide +kernel
theorem dX3_readGood_126 : decode cX3_readGood 126 = .ok (.aload_n 0, 1) := by decide +kernel
theorem dX3_readGood_127 : decode cX3_readGood 127 = .ok (.getfield 109, 3) := by decide +kernel
theorem dX3_readGood_130 : decode cX3_readGood 130 = .ok (.isub, 1) := by decide +kernel
theorem dX3_readGood_131 : decode cX3_readGood 131 = .ok (.istore_n 2, 1) := by decide +kernel
theorem dX3_readGood_132 : decode cX3_readGood 132 = .ok (.iinc 3 1, 3) := by decide +kernel
theorem dX3_readGood_135 : decode cX3_readGood 135 = .ok (.goto (-53), 3) := by decide +kernel
theorem dX3_readGood_138 : decode cX3_readGood 138 = .ok (.aload_n 0, 1) := by decide +kernel
theorem dX3_readGood_139 : decode cX3_readGood 139 = .ok (.getfield 9, 3) := by decide +kernel
theorem dX3_readGood_142 : decode cX3_readGood 142 = .ok (.getfield 118, 3) := by decide +kernel
theorem dX3_readGood_145 : decode cX3_readGood 145 = .ok (.dup, 1) := by decide +kernel
theorem dX3_readGood_146 : decode cX3_readGood 146 = .ok (.getfield 97, 3) := by decide +kernel
theorem dX3_readGood_149 : decode cX3_readGood 149 = .ok (.iconst 1, 1) := by decide +kernel
theorem dX3_readGood_150 : decode cX3_readGood 150 = .ok (.iadd, 1) := by decide +kernel
theorem dX3_readGood_151 : decode cX3_readGood 151 = .ok (.putfield 97, 3) := by decide +kernel
theorem dX3_readGood_154 : decode cX3_readGood 154 = .ok (.aload_n 0, 1) := by decide +kernel
theorem dX3_readGood_155 : decode cX3_readGood 155 = .ok (.iconst 3, 1) := by decide +kernel
theorem dX3_readGood_156 : decode cX3_readGood 156 = .ok (.invokevirtual 115, 3) := by decide +kernel
theorem dX3_readGood_159 : decode cX3_readGood 159 = .ok (.ireturn, 1) := by decide +kernel
theorem dX3_takeGround_0 : decode cX3_takeGround 0 = .ok (.aload_n 0, 1) := by decide +kernel
theorem dX3_takeGround_1 : decode cX3_takeGround 1 = .ok (.getfield 9, 3) := by decide +kernel
theorem dX3_takeGround_4 : decode cX3_takeGround 4 = .ok (.getfield 73, 3) := by decide +kernel
theorem dX3_takeGround_7 : decode cX3_takeGround 7 = .ok (.aload_n 0, 1) := by decide +kernel
theorem dX3_takeGround_8 : decode cX3_takeGround 8 = .ok (.getfield 155, 3) := by decide +kernel
theorem dX3_takeGround_11 : decode cX3_takeGround 11 = .ok (.invokevirtual 159, 3) := by decide +kernel
theorem dX3_takeGround_14 : decode cX3_takeGround 14 = .ok (.istore_n 2, 1) := by decide +kernel
theorem dX3_takeGround_15 : decode cX3_takeGround 15 = .ok (.aload_n 0, 1) := by decide +kernel
theorem dX3_takeGround_16 : decode cX3_takeGround 16 = .ok (.getfield 45, 3) := by decide +kernel
theorem dX3_takeGround_19 : decode cX3_takeGround 19 = .ok (.iconst 4, 1) := by decide +kernel
theorem dX3_takeGround_20 : decode cX3_takeGround 20 = .ok (.if_icmp .ne 14, 3) := by decide +kernel
theorem dX3_takeGround_23 : decode cX3_takeGround 23 = .ok (.iload_n 2, 1) := by decide +kernel
theorem dX3_takeGround_24 : decode cX3_takeGround 24 = .ok (.iconst (-1), 1) := by decide +kernel
theorem dX3_takeGround_25 : decode cX3_takeGround 25 = .ok (.if_icmp .ne 9, 3) := by decide +kernel
theorem dX3_takeGround_28 : decode cX3_takeGround 28 = .ok (.aload_n 0, 1) := by decide +kernel
theorem dX3_takeGround_29 : decode cX3_takeGround 29 = .ok (.iconst 5, 1) := by decide +kernel
theorem dX3_takeGround_30 : decode cX3_takeGround 30 = .ok (.invokevirtual 90, 3) := by decide +kernel
theorem dX3_takeGround_33 : decode cX3_takeGround 33 = .ok (.ireturn, 1) := by decide +kernel
theorem dX3_takeGround_34 : decode cX3_takeGround 34 = .ok (.aload_n 0, 1) := by decide +kernel
theorem dX3_takeGround_35 : decode cX3_takeGround 35 = .ok (.getfield 9, 3) := by decide +kernel
theorem dX3_takeGround_38 : decode cX3_takeGround 38 = .ok (.getfield 163, 3) := by decide +kernel
theorem dX3_takeGround_41 : decode cX3_takeGround 41 = .ok (.iload_n 1, 1) := by decide +kernel
theorem dX3_takeGround_42 : decode cX3_takeGround 42 = .ok (.iload_n 2, 1) := by decide +kernel
theorem dX3_takeGround_43 : decode cX3_takeGround 43 = .ok (.iastore, 1) := by decide +kernel
theorem dX3_takeGround_44 : decode cX3_takeGround 44 = .ok (.aload_n 0, 1) := by decide +kernel
theorem dX3_takeGround_45 : decode cX3_takeGround 45 = .ok (.iconst 4, 1) := by decide +kernel
theorem dX3_takeGround_46 : decode cX3_takeGround 46 = .ok (.invokevirtual 115, 3) := by decide +kernel
theorem dX3_takeGround_49 : decode cX3_takeGround 49 = .ok (.ireturn, 1) := by decide +kernel
theorem dX3_openOnce_0 : decode cX3_openOnce 0 = .ok (.iconst 1, 1) := by decide +kernel
theorem dX3_openOnce_1 : decode cX3_openOnce 1 = .ok (.aload_n 0, 1) := by decide +kernel
theorem dX3_openOnce_2 : decode cX3_openOnce 2 = .ok (.getfield 45, 3) := by decide +kernel
theorem dX3_openOnce_5 : decode cX3_openOnce 5 = .ok (.ishl, 1) := by decide +kernel
theorem dX3_openOnce_6 : decode cX3_openOnce 6 = .ok (.istore_n 1, 1) := by decide +kernel
theorem dX3_openOnce_7 : decode cX3_openOnce 7 = .ok (.aload_n 0, 1) := by decide +kernel
theorem dX3_openOnce_8 : decode cX3_openOnce 8 = .ok (.getfield 42, 3) := by decide +kernel
theorem dX3_openOnce_11 : decode cX3_openOnce 11 = .ok (.iload_n 1, 1) := by decide +kernel
theorem dX3_openOnce_12 : decode cX3_openOnce 12 = .ok (.iand, 1) := by decide +kernel
theorem dX3_openOnce_13 : decode cX3_openOnce 13 = .ok (.ifCond .eq 9, 3) := by decide +kernel
theorem dX3_openOnce_16 : decode cX3_openOnce 16 = .ok (.aload_n 0, 1) := by decide +kernel
theorem dX3_openOnce_17 : decode cX3_openOnce 17 = .ok (.iconst 2, 1) := by decide +kernel
theorem dX3_openOnce_18 : decode cX3_openOnce 18 = .ok (.invokevirtual 90, 3) := by decide +kernel
theorem dX3_openOnce_21 : decode cX3_openOnce 21 = .ok (.ireturn, 1) := by decide +kernel
theorem dX3_openOnce_22 : decode cX3_openOnce 22 = .ok (.aload_n 0, 1) := by decide +kernel
theorem dX3_openOnce_23 : decode cX3_openOnce 23 = .ok (.dup, 1) := by decide +kernel
theorem dX3_openOnce_24 : decode cX3_openOnce 24 = .ok (.getfield 42, 3) := by decide +kernel
theorem dX3_openOnce_27 : decode cX3_openOnce 27 = .ok (.iload_n 1, 1) := by decide +kernel
theorem dX3_openOnce_28 : decode cX3_openOnce 28 = .ok (.ior, 1) := by decide +kernel
theorem dX3_openOnce_29 : decode cX3_openOnce 29 = .ok (.putfield 42, 3) := by decide +kernel
theorem dX3_openOnce_32 : decode cX3_openOnce 32 = .ok (.aload_n 0, 1) := by decide +kernel
theorem dX3_openOnce_33 : decode cX3_openOnce 33 = .ok (.aload_n 0, 1) := by decide +kernel
theorem dX3_openOnce_34 : decode cX3_openOnce 34 = .ok (.getfield 166, 3) := by decide +kernel
theorem dX3_openOnce_37 : decode cX3_openOnce 37 = .ok (.iconst 1, 1) := by decide +kernel
theorem dX3_openOnce_38 : decode cX3_openOnce 38 = .ok (.iadd, 1) := by decide +kernel
theorem dX3_openOnce_39 : decode cX3_openOnce 39 = .ok (.invokevirtual 38, 3) := by decide +kernel
theorem dX3_openOnce_42 : decode cX3_openOnce 42 = .ok (.iconst 1, 1) := by decide +kernel
theorem dX3_openOnce_43 : decode cX3_openOnce 43 = .ok (.ireturn, 1) := by decide +kernel
theorem dX3_openThing_0 : decode cX3_openThing 0 = .ok (.aload_n 1, 1) := by decide +kernel
theorem dX3_openThing_1 : decode cX3_openThing 1 = .ok (.invokevirtual 169, 3) := by decide +kernel
theorem dX3_openThing_4 : decode cX3_openThing 4 = .ok (.ifCond .eq 9, 3) := by decide +kernel
theorem dX3_openThing_7 : decode cX3_openThing 7 = .ok (.aload_n 0, 1) := by decide +kernel
theorem dX3_openThing_8 : decode cX3_openThing 8 = .ok (.iconst 2, 1) := by decide +kernel
theorem dX3_openThing_9 : decode cX3_openThing 9 = .ok (.invokevirtual 90, 3) := by decide +kernel
theorem dX3_openThing_12 : decode cX3_openThing 12 = .ok (.ireturn, 1) := by decide +kernel
theorem dX3_openThing_13 : decode cX3_openThing 13 = .ok (.aload_n 0, 1) := by decide +kernel
theorem dX3_openThing_14 : decode cX3_openThing 14 = .ok (.aload_n 0, 1) := by decide +kernel
theorem dX3_openThing_15 : decode cX3_openThing 15 = .ok (.getfield 166, 3) := by decide +kernel
theorem dX3_openThing_18 : decode cX3_openThing 18 = .ok (.iconst 1, 1) := by decide +kernel
theorem dX3_openThing_19 : decode cX3_openThing 19 = .ok (.iadd, 1) := by decide +kernel
theorem dX3_openThing_20 : decode cX3_openThing 20 = .ok (.invokevirtual 38, 3) := by decide +kernel
theorem dX3_openThing_23 : decode cX3_openThing 23 = .ok (.aload_n 0, 1) := by decide +kernel
theorem dX3_openThing_24 : decode cX3_openThing 24 = .ok (.getfield 45, 3) := by decide +kernel
theorem dX3_openThing_27 : decode cX3_openThing 27 = .ok (.iconst 4, 1) := by decide +kernel
theorem dX3_openThing_28 : decode cX3_openThing 28 = .ok (.if_icmp .ne 21, 3) := by decide +kernel
theorem dX3_openThing_31 : decode cX3_openThing 31 = .ok (.aload_n 1, 1) := by decide +kernel
theorem dX3_openThing_32 : decode cX3_openThing 32 = .ok (.aload_n 0, 1) := by decide +kernel
theorem dX3_openThing_33 : decode cX3_openThing 33 = .ok (.getfield 155, 3) := by decide +kernel
theorem dX3_openThing_36 : decode cX3_openThing 36 = .ok (.invokevirtual 159, 3) := by decide +kernel
theorem dX3_openThing_39 : decode cX3_openThing 39 = .ok (.iconst (-1), 1) := by decide +kernel
theorem dX3_openThing_40 : decode cX3_openThing 40 = .ok (.if_icmp .eq 9, 3) := by decide +kernel
theorem dX3_openThing_43 : decode cX3_openThing 43 = .ok (.aload_n 0, 1) := by decide +kernel
theorem dX3_openThing_44 : decode cX3_openThing 44 = .ok (.iconst 3, 1) := by decide +kernel
theorem dX3_openThing_45 : decode cX3_openThing 45 = .ok (.invokevirtual 90, 3) := by decide +kernel
theorem dX3_openThing_48 : decode cX3_openThing 48 = .ok (.ireturn, 1) := by decide +kernel
theorem dX3_openThing_49 : decode cX3_openThing 49 = .ok (.aload_n 1, 1) := by decide +kernel
theorem dX3_openThing_50 : decode cX3_openThing 50 = .ok (.getfield 172, 3) := by decide +kernel
theorem dX3_openThing_53 : decode cX3_openThing 53 = .ok (.aload_n 1, 1) := by decide +kernel
theorem dX3_openThing_54 : decode cX3_openThing 54 = .ok (.getfield 97, 3) := by decide +kernel
theorem dX3_openThing_57 : decode cX3_openThing 57 = .ok (.aload_n 0, 1) := by decide +kernel
theorem dX3_openThing_58 : decode cX3_openThing 58 = .ok (.getfield 155, 3) := by decide +kernel
theorem dX3_openThing_61 : decode cX3_openThing 61 = .ok (.lastore, 1) := by decide +kernel
theorem dX3_openThing_62 : decode cX3_openThing 62 = .ok (.aload_n 0, 1) := by decide +kernel
theorem dX3_openThing_63 : decode cX3_openThing 63 = .ok (.iconst 4, 1) := by decide +kernel
theorem dX3_openThing_64 : decode cX3_openThing 64 = .ok (.invokevirtual 115, 3) := by decide +kernel
theorem dX3_openThing_67 : decode cX3_openThing 67 = .ok (.ireturn, 1) := by decide +kernel
theorem dX3_takeRow_0 : decode cX3_takeRow 0 = .ok (.aload_n 0, 1) := by decide +kernel
theorem dX3_takeRow_1 : decode cX3_takeRow 1 = .ok (.bipush 17, 2) := by decide +kernel
theorem dX3_takeRow_3 : decode cX3_takeRow 3 = .ok (.invokevirtual 115, 3) := by decide +kernel
theorem dX3_takeRow_6 : decode cX3_takeRow 6 = .ok (.ifCond .ne 5, 3) := by decide +kernel
theorem dX3_takeRow_9 : decode cX3_takeRow 9 = .ok (.iconst 0, 1) := by decide +kernel
theorem dX3_takeRow_10 : decode cX3_takeRow 10 = .ok (.ireturn, 1) := by decide +kernel
theorem dX3_takeRow_11 : decode cX3_takeRow 11 = .ok (.iconst 0, 1) := by decide +kernel
theorem dX3_takeRow_12 : decode cX3_takeRow 12 = .ok (.istore_n 3, 1) := by decide +kernel
theorem dX3_takeRow_13 : decode cX3_takeRow 13 = .ok (.iload_n 3, 1) := by decide +kernel
theorem dX3_takeRow_14 : decode cX3_takeRow 14 = .ok (.aload_n 0, 1) := by decide +kernel
theorem dX3_takeRow_15 : decode cX3_takeRow 15 = .ok (.getfield 9, 3) := by decide +kernel
theorem dX3_takeRow_18 : decode cX3_takeRow 18 = .ok (.getfield 112, 3) := by decide +kernel
theorem dX3_takeRow_21 : decode cX3_takeRow 21 = .ok (.if_icmp .ge 35, 3) := by decide +kernel
theorem dX3_takeRow_24 : decode cX3_takeRow 24 = .ok (.aload_n 0, 1) := by decide +kernel
theorem dX3_takeRow_25 : decode cX3_takeRow 25 = .ok (.iconst 0, 1) := by decide +kernel
theorem dX3_takeRow_26 : decode cX3_takeRow 26 = .ok (.iload_n 2, 1) := by decide +kernel
theorem dX3_takeRow_27 : decode cX3_takeRow 27 = .ok (.invokevirtual 105, 3) := by decide +kernel
theorem dX3_takeRow_30 : decode cX3_takeRow 30 = .ok (.ifCond .ne 5, 3) := by decide +kernel
theorem dX3_takeRow_33 : decode cX3_takeRow 33 = .ok (.iconst 0, 1) := by decide +kernel
theorem dX3_takeRow_34 : decode cX3_takeRow 34 = .ok (.ireturn, 1) := by decide +kernel
theorem dX3_takeRow_35 : decode cX3_takeRow 35 = .ok (.aload_n 1, 1) := by decide +kernel
theorem dX3_takeRow_36 : decode cX3_takeRow 36 = .ok (.getfield 151, 3) := by decide +kernel
theorem dX3_takeRow_39 : decode cX3_takeRow 39 = .ok (.aload_n 1, 1) := by decide +kernel
theorem dX3_takeRow_40 : decode cX3_takeRow 40 = .ok (.getfield 97, 3) := by decide +kernel
theorem dX3_takeRow_43 : decode cX3_takeRow 43 = .ok (.aaload, 1) := by decide +kernel
theorem dX3_takeRow_44 : decode cX3_takeRow 44 = .ok (.iload_n 3, 1) := by decide +kernel
theorem dX3_takeRow_45 : decode cX3_takeRow 45 = .ok (.aload_n 0, 1) := by decide +kernel
theorem dX3_takeRow_46 : decode cX3_takeRow 46 = .ok (.getfield 109, 3) := by decide +kernel
theorem dX3_takeRow_49 : decode cX3_takeRow 49 = .ok (.iastore, 1) := by decide +kernel
theorem dX3_takeRow_50 : decode cX3_takeRow 50 = .ok (.iinc 3 1, 3) := by decide +kernel
theorem dX3_takeRow_53 : decode cX3_takeRow 53 = .ok (.goto (-40), 3) := by decide +kernel
theorem dX3_takeRow_56 : decode cX3_takeRow 56 = .ok (.aload_n 1, 1) := by decide +kernel
theorem dX3_takeRow_57 : decode cX3_takeRow 57 = .ok (.dup, 1) := by decide +kernel
theorem dX3_takeRow_58 : decode cX3_takeRow 58 = .ok (.getfield 97, 3) := by decide +kernel
theorem dX3_takeRow_61 : decode cX3_takeRow 61 = .ok (.iconst 1, 1) := by decide +kernel
theorem dX3_takeRow_62 : decode cX3_takeRow 62 = .ok (.iadd, 1) := by decide +kernel
theorem dX3_takeRow_63 : decode cX3_takeRow 63 = .ok (.putfield 97, 3) := by decide +kernel
theorem dX3_takeRow_66 : decode cX3_takeRow 66 = .ok (.aload_n 0, 1) := by decide +kernel
theorem dX3_takeRow_67 : decode cX3_takeRow 67 = .ok (.iconst 3, 1) := by decide +kernel
theorem dX3_takeRow_68 : decode cX3_takeRow 68 = .ok (.invokevirtual 115, 3) := by decide +kernel
theorem dX3_takeRow_71 : decode cX3_takeRow 71 = .ok (.ireturn, 1) := by decide +kernel
theorem dX3_takeNumber_0 : decode cX3_takeNumber 0 = .ok (.aload_n 0, 1) := by decide +kernel
theorem dX3_takeNumber_1 : decode cX3_takeNumber 1 = .ok (.getfield 45, 3) := by decide +kernel
theorem dX3_takeNumber_4 : decode cX3_takeNumber 4 = .ok (.iconst 2, 1) := by decide +kernel
theorem dX3_takeNumber_5 : decode cX3_takeNumber 5 = .ok (.if_icmp .eq 9, 3) := by decide +kernel
theorem dX3_takeNumber_8 : decode cX3_takeNumber 8 = .ok (.aload_n 0, 1) := by decide +kernel
theorem dX3_takeNumber_9 : decode cX3_takeNumber 9 = .ok (.iconst 2, 1) := by decide +kernel
theorem dX3_takeNumber_10 : decode cX3_takeNumber 10 = .ok (.invokevirtual 90, 3) := by decide +kernel
theorem dX3_takeNumber_13 : decode cX3_takeNumber 13 = .ok (.ireturn, 1) := by decide +kernel
theorem dX3_takeNumber_14 : decode cX3_takeNumber 14 = .ok (.aload_n 0, 1) := by decide +kernel
theorem dX3_takeNumber_15 : decode cX3_takeNumber 15 = .ok (.getfield 155, 3) := by decide +kernel
theorem dX3_takeNumber_18 : decode cX3_takeNumber 18 = .ok (.iload_n 1, 1) := by decide +kernel
theorem dX3_takeNumber_19 : decode cX3_takeNumber 19 = .ok (.i2l, 1) := by decide +kernel
theorem dX3_takeNumber_20 : decode cX3_takeNumber 20 = .ok (.lcmp, 1) := by decide +kernel
theorem dX3_takeNumber_21 : decode cX3_takeNumber 21 = .ok (.ifCond .lt 13, 3) := by decide +kernel
theorem dX3_takeNumber_24 : decode cX3_takeNumber 24 = .ok (.aload_n 0, 1) := by decide +kernel
theorem dX3_takeNumber_25 : decode cX3_takeNumber 25 = .ok (.getfield 155, 3) := by decide +kernel
theorem dX3_takeNumber_28 : decode cX3_takeNumber 28 = .ok (.iload_n 2, 1) := by decide +kernel
theorem dX3_takeNumber_29 : decode cX3_takeNumber 29 = .ok (.i2l, 1) := by decide +kernel
theorem dX3_takeNumber_30 : decode cX3_takeNumber 30 = .ok (.lcmp, 1) := by decide +kernel
theorem dX3_takeNumber_31 : decode cX3_takeNumber 31 = .ok (.ifCond .le 9, 3) := by decide +kernel
theorem dX3_takeNumber_34 : decode cX3_takeNumber 34 = .ok (.aload_n 0, 1) := by decide +kernel
theorem dX3_takeNumber_35 : decode cX3_takeNumber 35 = .ok (.iconst 4, 1) := by decide +kernel
theorem dX3_takeNumber_36 : decode cX3_takeNumber 36 = .ok (.invokevirtual 90, 3) := by decide +kernel
theorem dX3_takeNumber_39 : decode cX3_takeNumber 39 = .ok (.ireturn, 1) := by decide +kernel
theorem dX3_takeNumber_40 : decode cX3_takeNumber 40 = .ok (.aload_n 0, 1) := by decide +kernel
theorem dX3_takeNumber_41 : decode cX3_takeNumber 41 = .ok (.aload_n 0, 1) := by decide +kernel
theorem dX3_takeNumber_42 : decode cX3_takeNumber 42 = .ok (.getfield 155, 3) := by decide +kernel
theorem dX3_takeNumber_45 : decode cX3_takeNumber 45 = .ok (.l2i, 1) := by decide +kernel
theorem dX3_takeNumber_46 : decode cX3_takeNumber 46 = .ok (.putfield 109, 3) := by decide +kernel
theorem dX3_takeNumber_49 : decode cX3_takeNumber 49 = .ok (.aload_n 0, 1) := by decide +kernel
theorem dX3_takeNumber_50 : decode cX3_takeNumber 50 = .ok (.aload_n 0, 1) := by decide +kernel
theorem dX3_takeNumber_51 : decode cX3_takeNumber 51 = .ok (.getfield 166, 3) := by decide +kernel
theorem dX3_takeNumber_54 : decode cX3_takeNumber 54 = .ok (.iconst 1, 1) := by decide +kernel
theorem dX3_takeNumber_55 : decode cX3_takeNumber 55 = .ok (.iadd, 1) := by decide +kernel
theorem dX3_takeNumber_56 : decode cX3_takeNumber 56 = .ok (.invokevirtual 38, 3) := by decide +kernel
theorem dX3_takeNumber_59 : decode cX3_takeNumber 59 = .ok (.iconst 1, 1) := by decide +kernel
theorem dX3_takeNumber_60 : decode cX3_takeNumber 60 = .ok (.ireturn, 1) := by decide +kernel
theorem dX3_take_0 : decode cX3_take 0 = .ok (.aload_n 0, 1) := by decide +kernel
theorem dX3_take_1 : decode cX3_take 1 = .ok (.getfield 45, 3) := by decide +kernel
theorem dX3_take_4 : decode cX3_take 4 = .ok (.iload_n 1, 1) := by decide +kernel
theorem dX3_take_5 : decode cX3_take 5 = .ok (.if_icmp .eq 9, 3) := by decide +kernel
theorem dX3_take_8 : decode cX3_take 8 = .ok (.aload_n 0, 1) := by decide +kernel
theorem dX3_take_9 : decode cX3_take 9 = .ok (.iconst 2, 1) := by decide +kernel
theorem dX3_take_10 : decode cX3_take 10 = .ok (.invokevirtual 90, 3) := by decide +kernel
theorem dX3_take_13 : decode cX3_take 13 = .ok (.ireturn, 1) := by decide +kernel
theorem dX3_take_14 : decode cX3_take 14 = .ok (.aload_n 0, 1) := by decide +kernel
theorem dX3_take_15 : decode cX3_take 15 = .ok (.aload_n 0, 1) := by decide +kernel
theorem dX3_take_16 : decode cX3_take 16 = .ok (.getfield 166, 3) := by decide +kernel
theorem dX3_take_19 : decode cX3_take 19 = .ok (.iconst 1, 1) := by decide +kernel
theorem dX3_take_20 : decode cX3_take 20 = .ok (.iadd, 1) := by decide +kernel
theorem dX3_take_21 : decode cX3_take 21 = .ok (.invokevirtual 38, 3) := by decide +kernel
theorem dX3_take_24 : decode cX3_take 24 = .ok (.iconst 1, 1) := by decide +kernel
theorem dX3_take_25 : decode cX3_take 25 = .ok (.ireturn, 1) := by decide +kernel
theorem dX3_moveTo_0 : decode cX3_moveTo 0 = .ok (.iload_n 1, 1) := by decide +kernel
theorem dX3_moveTo_1 : decode cX3_moveTo 1 = .ok (.ifCond .lt 51, 3) := by decide +kernel
theorem dX3_moveTo_4 : decode cX3_moveTo 4 = .ok (.iload_n 1, 1) := by decide +kernel
theorem dX3_moveTo_5 : decode cX3_moveTo 5 = .ok (.aload_n 0, 1) := by decide +kernel
theorem dX3_moveTo_6 : decode cX3_moveTo 6 = .ok (.getfield 18, 3) := by decide +kernel
theorem dX3_moveTo_9 : decode cX3_moveTo 9 = .ok (.getfield 176, 3) := by decide +kernel
theorem dX3_moveTo_12 : decode cX3_moveTo 12 = .ok (.if_icmp .ge 40, 3) := by decide +kernel
theorem dX3_moveTo_15 : decode cX3_moveTo 15 = .ok (.aload_n 0, 1) := by decide +kernel
theorem dX3_moveTo_16 : decode cX3_moveTo 16 = .ok (.iload_n 1, 1) := by decide +kernel
theorem dX3_moveTo_17 : decode cX3_moveTo 17 = .ok (.putfield 166, 3) := by decide +kernel
theorem dX3_moveTo_20 : decode cX3_moveTo 20 = .ok (.aload_n 0, 1) := by decide +kernel
theorem dX3_moveTo_21 : decode cX3_moveTo 21 = .ok (.aload_n 0, 1) := by decide +kernel
theorem dX3_moveTo_22 : decode cX3_moveTo 22 = .ok (.getfield 18, 3) := by decide +kernel
theorem dX3_moveTo_25 : decode cX3_moveTo 25 = .ok (.getfield 177, 3) := by decide +kernel
theorem dX3_moveTo_28 : decode cX3_moveTo 28 = .ok (.aload_n 0, 1) := by decide +kernel
theorem dX3_moveTo_29 : decode cX3_moveTo 29 = .ok (.getfield 166, 3) := by decide +kernel
theorem dX3_moveTo_32 : decode cX3_moveTo 32 = .ok (.iaload, 1) := by decide +kernel
theorem dX3_moveTo_33 : decode cX3_moveTo 33 = .ok (.putfield 45, 3) := by decide +kernel
theorem dX3_moveTo_36 : decode cX3_moveTo 36 = .ok (.aload_n 0, 1) := by decide +kernel
theorem dX3_moveTo_37 : decode cX3_moveTo 37 = .ok (.aload_n 0, 1) := by decide +kernel
theorem dX3_moveTo_38 : decode cX3_moveTo 38 = .ok (.getfield 18, 3) := by decide +kernel
theorem dX3_moveTo_41 : decode cX3_moveTo 41 = .ok (.getfield 180, 3) := by decide +kernel
theorem dX3_moveTo_44 : decode cX3_moveTo 44 = .ok (.aload_n 0, 1) := by decide +kernel
theorem dX3_moveTo_45 : decode cX3_moveTo 45 = .ok (.getfield 166, 3) := by decide +kernel
theorem dX3_moveTo_48 : decode cX3_moveTo 48 = .ok (.laload, 1) := by decide +kernel
theorem dX3_moveTo_49 : decode cX3_moveTo 49 = .ok (.putfield 155, 3) := by decide +kernel
theorem dX3_moveTo_52 : decode cX3_moveTo 52 = .ok (.return_, 1) := by decide +kernel
theorem dX3_refuse_0 : decode cX3_refuse 0 = .ok (.aload_n 0, 1) := by decide +kernel
theorem dX3_refuse_1 : decode cX3_refuse 1 = .ok (.getfield 22, 3) := by decide +kernel
theorem dX3_refuse_4 : decode cX3_refuse 4 = .ok (.ifCond .ne 36, 3) := by decide +kernel
theorem dX3_refuse_7 : decode cX3_refuse 7 = .ok (.aload_n 0, 1) := by decide +kernel
theorem dX3_refuse_8 : decode cX3_refuse 8 = .ok (.aload_n 0, 1) := by decide +kernel
theorem dX3_refuse_9 : decode cX3_refuse 9 = .ok (.getfield 45, 3) := by decide +kernel
theorem dX3_refuse_12 : decode cX3_refuse 12 = .ok (.iconst 1, 1) := by decide +kernel
theorem dX3_refuse_13 : decode cX3_refuse 13 = .ok (.if_icmp .ne 7, 3) := by decide +kernel
theorem dX3_refuse_16 : decode cX3_refuse 16 = .ok (.iconst 1, 1) := by decide +kernel
theorem dX3_refuse_17 : decode cX3_refuse 17 = .ok (.goto 4, 3) := by decide +kernel
theorem dX3_refuse_20 : decode cX3_refuse 20 = .ok (.iload_n 1, 1) := by decide +kernel
theorem dX3_refuse_21 : decode cX3_refuse 21 = .ok (.putfield 22, 3) := by decide +kernel
theorem dX3_refuse_24 : decode cX3_refuse 24 = .ok (.aload_n 0, 1) := by decide +kernel
theorem dX3_refuse_25 : decode cX3_refuse 25 = .ok (.aload_n 0, 1) := by decide +kernel
theorem dX3_refuse_26 : decode cX3_refuse 26 = .ok (.getfield 18, 3) := by decide +kernel
theorem dX3_refuse_29 : decode cX3_refuse 29 = .ok (.getfield 183, 3) := by decide +kernel
theorem dX3_refuse_32 : decode cX3_refuse 32 = .ok (.aload_n 0, 1) := by decide +kernel
theorem dX3_refuse_33 : decode cX3_refuse 33 = .ok (.getfield 166, 3) := by decide +kernel
theorem dX3_refuse_36 : decode cX3_refuse 36 = .ok (.iaload, 1) := by decide +kernel
theorem dX3_refuse_37 : decode cX3_refuse 37 = .ok (.putfield 26, 3) := by decide +kernel
theorem dX3_refuse_40 : decode cX3_refuse 40 = .ok (.iconst 0, 1) := by decide +kernel
theorem dX3_refuse_41 : decode cX3_refuse 41 = .ok (.ireturn, 1) := by decide +kernel
theorem dX4_init_0 : decode cX4_init 0 = .ok (.aload_n 0, 1) := by decide +kernel
theorem dX4_init_1 : decode cX4_init 1 = .ok (.invokespecial 3, 3) := by decide +kernel
theorem dX4_init_4 : decode cX4_init 4 = .ok (.aload_n 0, 1) := by decide +kernel
theorem dX4_init_5 : decode cX4_init 5 = .ok (.aload_n 1, 1) := by decide +kernel
theorem dX4_init_6 : decode cX4_init 6 = .ok (.putfield 9, 3) := by decide +kernel
theorem dX4_init_9 : decode cX4_init 9 = .ok (.aload_n 0, 1) := by decide +kernel
theorem dX4_init_10 : decode cX4_init 10 = .ok (.aload_n 2, 1) := by decide +kernel
theorem dX4_init_11 : decode cX4_init 11 = .ok (.putfield 15, 3) := by decide +kernel
theorem dX4_init_14 : decode cX4_init 14 = .ok (.aload_n 0, 1) := by decide +kernel
theorem dX4_init_15 : decode cX4_init 15 = .ok (.new 19, 3) := by decide +kernel
theorem dX4_init_18 : decode cX4_init 18 = .ok (.dup, 1) := by decide +kernel
theorem dX4_init_19 : decode cX4_init 19 = .ok (.aload_n 1, 1) := by decide +kernel
theorem dX4_init_20 : decode cX4_init 20 = .ok (.invokespecial 21, 3) := by decide +kernel
theorem dX4_init_23 : decode cX4_init 23 = .ok (.putfield 24, 3) := by decide +kernel
theorem dX4_init_26 : decode cX4_init 26 = .ok (.aload_n 0, 1) := by decide +kernel
theorem dX4_init_27 : decode cX4_init 27 = .ok (.sipush 5000, 3) := by decide +kernel
theorem dX4_init_30 : decode cX4_init 30 = .ok (.newarray .long, 2) := by decide +kernel
theorem dX4_init_32 : decode cX4_init 32 = .ok (.putfield 28, 3) := by decide +kernel
theorem dX4_init_35 : decode cX4_init 35 = .ok (.aload_n 0, 1) := by decide +kernel
theorem dX4_init_36 : decode cX4_init 36 = .ok (.sipush 30000, 3) := by decide +kernel
theorem dX4_init_39 : decode cX4_init 39 = .ok (.newarray .long, 2) := by decide +kernel
theorem dX4_init_41 : decode cX4_init 41 = .ok (.putfield 32, 3) := by decide +kernel
theorem dX4_init_44 : decode cX4_init 44 = .ok (.aload_n 0, 1) := by decide +kernel
theorem dX4_init_45 : decode cX4_init 45 = .ok (.bipush 6, 2) := by decide +kernel
theorem dX4_init_47 : decode cX4_init 47 = .ok (.newarray .long, 2) := by decide +kernel
theorem dX4_init_49 : decode cX4_init 49 = .ok (.putfield 35, 3) := by decide +kernel
theorem dX4_init_52 : decode cX4_init 52 = .ok (.aload_n 0, 1) := by decide +kernel
theorem dX4_init_53 : decode cX4_init 53 = .ok (.bipush 8, 2) := by decide +kernel
theorem dX4_init_55 : decode cX4_init 55 = .ok (.newarray .int, 2) := by decide +kernel
theorem dX4_init_57 : decode cX4_init 57 = .ok (.putfield 38, 3) := by decide +kernel
theorem dX4_init_60 : decode cX4_init 60 = .ok (.return_, 1) := by decide +kernel
theorem dX4_forget_0 : decode cX4_forget 0 = .ok (.aload_n 0, 1) := by decide +kernel
theorem dX4_forget_1 : decode cX4_forget 1 = .ok (.aload_n 1, 1) := by decide +kernel
theorem dX4_forget_2 : decode cX4_forget 2 = .ok (.putfield 9, 3) := by decide +kernel
theorem dX4_forget_5 : decode cX4_forget 5 = .ok (.aload_n 0, 1) := by decide +kernel
theorem dX4_forget_6 : decode cX4_forget 6 = .ok (.iconst 0, 1) := by decide +kernel
theorem dX4_forget_7 : decode cX4_forget 7 = .ok (.putfield 42, 3) := by decide +kernel
theorem dX4_forget_10 : decode cX4_forget 10 = .ok (.aload_n 0, 1) := by decide +kernel
theorem dX4_forget_11 : decode cX4_forget 11 = .ok (.iconst 0, 1) := by decide +kernel
theorem dX4_forget_12 : decode cX4_forget 12 = .ok (.putfield 46, 3) := by decide +kernel
theorem dX4_forget_15 : decode cX4_forget 15 = .ok (.aload_n 0, 1) := by decide +kernel
theorem dX4_forget_16 : decode cX4_forget 16 = .ok (.iconst 0, 1) := by decide +kernel
theorem dX4_forget_17 : decode cX4_forget 17 = .ok (.putfield 50, 3) := by decide +kernel
theorem dX4_forget_20 : decode cX4_forget 20 = .ok (.aload_n 0, 1) := by decide +kernel
theorem dX4_forget_21 : decode cX4_forget 21 = .ok (.iconst 0, 1) := by decide +kernel
theorem dX4_forget_22 : decode cX4_forget 22 = .ok (.putfield 53, 3) := by decide +kernel
theorem dX4_forget_25 : decode cX4_forget 25 = .ok (.return_, 1) := by decide +kernel
theorem dX4_take_0 : decode cX4_take 0 = .ok (.aload_n 0, 1) := by decide +kernel
theorem dX4_take_1 : decode cX4_take 1 = .ok (.iconst 1, 1) := by decide +kernel
theorem dX4_take_2 : decode cX4_take 2 = .ok (.putfield 42, 3) := by decide +kernel
theorem dX4_take_5 : decode cX4_take 5 = .ok (.aload_n 0, 1) := by decide +kernel
theorem dX4_take_6 : decode cX4_take 6 = .ok (.iload_n 1, 1) := by decide +kernel
theorem dX4_take_7 : decode cX4_take 7 = .ok (.putfield 56, 3) := by decide +kernel
theorem dX4_take_10 : decode cX4_take 10 = .ok (.aload_n 0, 1) := by decide +kernel
theorem dX4_take_11 : decode cX4_take 11 = .ok (.iload_n 2, 1) := by decide +kernel
theorem dX4_take_12 : decode cX4_take 12 = .ok (.putfield 59, 3) := by decide +kernel
theorem dX4_take_15 : decode cX4_take 15 = .ok (.aload_n 0, 1) := by decide +kernel
theorem dX4_take_16 : decode cX4_take 16 = .ok (.iload_n 3, 1) := by decide +kernel
theorem dX4_take_17 : decode cX4_take 17 = .ok (.putfield 62, 3) := by decide +kernel
theorem dX4_take_20 : decode cX4_take 20 = .ok (.aload_n 0, 1) := by decide +kernel
theorem dX4_take_21 : decode cX4_take 21 = .ok (.iload 4, 2) := by decide +kernel
theorem dX4_take_23 : decode cX4_take 23 = .ok (.putfield 65, 3) := by decide +kernel
theorem dX4_take_26 : decode cX4_take 26 = .ok (.aload_n 0, 1) := by decide +kernel
theorem dX4_take_27 : decode cX4_take 27 = .ok (.aload_n 0, 1) := by decide +kernel
theorem dX4_take_28 : decode cX4_take 28 = .ok (.invokevirtual 68, 3) := by decide +kernel
theorem dX4_take_31 : decode cX4_take 31 = .ok (.putfield 46, 3) := by decide +kernel
theorem dX4_take_34 : decode cX4_take 34 = .ok (.return_, 1) := by decide +kernel
theorem dX4_countMixes_0 : decode cX4_countMixes 0 = .ok (.lconst 1, 1) := by decide +kernel
theorem dX4_countMixes_1 : decode cX4_countMixes 1 = .ok (.lstore_n 1, 1) := by decide +kernel
theorem dX4_countMixes_2 : decode cX4_countMixes 2 = .ok (.lconst 1, 1) := by decide +kernel
theorem dX4_countMixes_3 : decode cX4_countMixes 3 = .ok (.lstore_n 3, 1) := by decide +kernel
theorem dX4_countMixes_4 : decode cX4_countMixes 4 = .ok (.lconst 1, 1) := by decide +kernel
theorem dX4_countMixes_5 : decode cX4_countMixes 5 = .ok (.lstore 5, 2) := by decide +kernel
theorem dX4_countMixes_7 : decode cX4_countMixes 7 = .ok (.aload_n 0, 1) := by decide +kernel
theorem dX4_countMixes_8 : decode cX4_countMixes 8 = .ok (.getfield 65, 3) := by decide +kernel
theorem dX4_countMixes_11 : decode cX4_countMixes 11 = .ok (.aload_n 0, 1) := by decide +kernel
theorem dX4_countMixes_12 : decode cX4_countMixes 12 = .ok (.getfield 9, 3) := by decide +kernel
theorem dX4_countMixes_15 : decode cX4_countMixes 15 = .ok (.getfield 72, 3) := by decide +kernel
theorem dX4_countMixes_18 : decode cX4_countMixes 18 = .ok (.getfield 78, 3) := by decide +kernel
theorem dX4_countMixes_21 : decode cX4_countMixes 21 = .ok (.invokestatic 81, 3) := by decide +kernel
theorem dX4_countMixes_24 : decode cX4_countMixes 24 = .ok (.istore 7, 2) := by decide +kernel
theorem dX4_countMixes_26 : decode cX4_countMixes 26 = .ok (.iconst 1, 1) := by decide +kernel
theorem dX4_countMixes_27 : decode cX4_countMixes 27 = .ok (.istore 8, 2) := by decide +kernel
theorem dX4_countMixes_29 : decode cX4_countMixes 29 = .ok (.iload 8, 2) := by decide +kernel
theorem dX4_countMixes_31 : decode cX4_countMixes 31 = .ok (.iload 7, 2) := by decide +kernel
theorem dX4_countMixes_33 : decode cX4_countMixes 33 = .ok (.if_icmp .gt 57, 3) := by decide +kernel
theorem dX4_countMixes_36 : decode cX4_countMixes 36 = .ok (.lload_n 1, 1) := by decide +kernel
theorem dX4_countMixes_37 : decode cX4_countMixes 37 = .ok (.aload_n 0, 1) := by decide +kernel
theorem dX4_countMixes_38 : decode cX4_countMixes 38 = .ok (.getfield 9, 3) := by decide +kernel
theorem dX4_countMixes_41 : decode cX4_countMixes 41 = .ok (.getfield 72, 3) := by decide +kernel
theorem dX4_countMixes_44 : decode cX4_countMixes 44 = .ok (.getfield 78, 3) := by decide +kernel
theorem dX4_countMixes_47 : decode cX4_countMixes 47 = .ok (.iload 8, 2) := by decide +kernel
theorem dX4_countMixes_49 : decode cX4_countMixes 49 = .ok (.isub, 1) := by decide +kernel
theorem dX4_countMixes_50 : decode cX4_countMixes 50 = .ok (.iconst 1, 1) := by decide +kernel
theorem dX4_countMixes_51 : decode cX4_countMixes 51 = .ok (.iadd, 1) := by decide +kernel
theorem dX4_countMixes_52 : decode cX4_countMixes 52 = .ok (.i2l, 1) := by decide +kernel
theorem dX4_countMixes_53 : decode cX4_countMixes 53 = .ok (.lmul, 1) := by decide +kernel
theorem dX4_countMixes_54 : decode cX4_countMixes 54 = .ok (.iload 8, 2) := by decide +kernel
theorem dX4_countMixes_56 : decode cX4_countMixes 56 = .ok (.i2l, 1) := by decide +kernel
theorem dX4_countMixes_57 : decode cX4_countMixes 57 = .ok (.ldiv, 1) := by decide +kernel
theorem dX4_countMixes_58 : decode cX4_countMixes 58 = .ok (.lstore_n 1, 1) := by decide +kernel
theorem dX4_countMixes_59 : decode cX4_countMixes 59 = .ok (.lload_n 3, 1) := by decide +kernel
theorem dX4_countMixes_60 : decode cX4_countMixes 60 = .ok (.aload_n 0, 1) := by decide +kernel
theorem dX4_countMixes_61 : decode cX4_countMixes 61 = .ok (.getfield 62, 3) := by decide +kernel
theorem dX4_countMixes_64 : decode cX4_countMixes 64 = .ok (.iload 8, 2) := by decide +kernel
theorem dX4_countMixes_66 : decode cX4_countMixes 66 = .ok (.isub, 1) := by decide +kernel
theorem dX4_countMixes_67 : decode cX4_countMixes 67 = .ok (.iconst 1, 1) := by decide +kernel
theorem dX4_countMixes_68 : decode cX4_countMixes 68 = .ok (.iadd, 1) := by decide +kernel
theorem dX4_countMixes_69 : decode cX4_countMixes 69 = .ok (.i2l, 1) := by decide +kernel
theorem dX4_countMixes_70 : decode cX4_countMixes 70 = .ok (.lmul, 1) := by decide +kernel
theorem dX4_countMixes_71 : decode cX4_countMixes 71 = .ok (.iload 8, 2) := by decide +kernel
theorem dX4_countMixes_73 : decode cX4_countMixes 73 = .ok (.i2l, 1) := by decide +kernel
theorem dX4_countMixes_74 : decode cX4_countMixes 74 = .ok (.ldiv, 1) := by decide +kernel
theorem dX4_countMixes_75 : decode cX4_countMixes 75 = .ok (.lstore_n 3, 1) := by decide +kernel
theorem dX4_countMixes_76 : decode cX4_countMixes 76 = .ok (.lload 5, 2) := by decide +kernel
theorem dX4_countMixes_78 : decode cX4_countMixes 78 = .ok (.lload_n 1, 1) := by decide +kernel
theorem dX4_countMixes_79 : decode cX4_countMixes 79 = .ok (.lload_n 3, 1) := by decide +kernel
theorem dX4_countMixes_80 : decode cX4_countMixes 80 = .ok (.lmul, 1) := by decide +kernel
theorem dX4_countMixes_81 : decode cX4_countMixes 81 = .ok (.ladd, 1) := by decide +kernel
theorem dX4_countMixes_82 : decode cX4_countMixes 82 = .ok (.lstore 5, 2) := by decide +kernel
theorem dX4_countMixes_84 : decode cX4_countMixes 84 = .ok (.iinc 8 1, 3) := by decide +kernel
theorem dX4_countMixes_87 : decode cX4_countMixes 87 = .ok (.goto (-58), 3) := by decide +kernel
theorem dX4_countMixes_90 : decode cX4_countMixes 90 = .ok (.lload 5, 2) := by decide +kernel
theorem dX4_countMixes_92 : decode cX4_countMixes 92 = .ok (.l2i, 1) := by decide +kernel
theorem dX4_countMixes_93 : decode cX4_countMixes 93 = .ok (.ireturn, 1) := by decide +kernel
theorem dX4_hasLamps_0 : decode cX4_hasLamps 0 = .ok (.iload_n 1, 1) := by decide +kernel
theorem dX4_hasLamps_1 : decode cX4_hasLamps 1 = .ok (.ifCond .le 23, 3) := by decide +kernel
theorem dX4_hasLamps_4 : decode cX4_hasLamps 4 = .ok (.iload_n 1, 1) := by decide +kernel
theorem dX4_hasLamps_5 : decode cX4_hasLamps 5 = .ok (.iconst 1, 1) := by decide +kernel
theorem dX4_hasLamps_6 : decode cX4_hasLamps 6 = .ok (.aload_n 0, 1) := by decide +kernel
theorem dX4_hasLamps_7 : decode cX4_hasLamps 7 = .ok (.getfield 9, 3) := by decide +kernel
theorem dX4_hasLamps_10 : decode cX4_hasLamps 10 = .ok (.getfield 87, 3) := by decide +kernel
theorem dX4_hasLamps_13 : decode cX4_hasLamps 13 = .ok (.getfield 78, 3) := by decide +kernel
theorem dX4_hasLamps_16 : decode cX4_hasLamps 16 = .ok (.ishl, 1) := by decide +kernel
theorem dX4_hasLamps_17 : decode cX4_hasLamps 17 = .ok (.if_icmp .ge 7, 3) := by decide +kernel
theorem dX4_hasLamps_20 : decode cX4_hasLamps 20 = .ok (.iconst 1, 1) := by decide +kernel
theorem dX4_hasLamps_21 : decode cX4_hasLamps 21 = .ok (.goto 4, 3) := by decide +kernel
theorem dX4_hasLamps_24 : decode cX4_hasLamps 24 = .ok (.iconst 0, 1) := by decide +kernel
theorem dX4_hasLamps_25 : decode cX4_hasLamps 25 = .ok (.ireturn, 1) := by decide +kernel
theorem dX4_start_0 : decode cX4_start 0 = .ok (.aload_n 0, 1) := by decide +kernel
theorem dX4_start_1 : decode cX4_start 1 = .ok (.iconst 0, 1) := by decide +kernel
theorem dX4_start_2 : decode cX4_start 2 = .ok (.putfield 50, 3) := by decide +kernel
theorem dX4_start_5 : decode cX4_start 5 = .ok (.aload_n 0, 1) := by decide +kernel
theorem dX4_start_6 : decode cX4_start 6 = .ok (.getfield 42, 3) := by decide +kernel
theorem dX4_start_9 : decode cX4_start 9 = .ok (.ifCond .eq 7, 3) := by decide +kernel
theorem dX4_start_12 : decode cX4_start 12 = .ok (.iload_n 1, 1) := by decide +kernel
theorem dX4_start_13 : decode cX4_start 13 = .ok (.ifCond .ne 5, 3) := by decide +kernel
theorem dX4_start_16 : decode cX4_start 16 = .ok (.iconst (-1), 1) := by decide +kernel
theorem dX4_start_17 : decode cX4_start 17 = .ok (.ireturn, 1) := by decide +kernel
theorem dX4_start_18 : decode cX4_start 18 = .ok (.aload_n 0, 1) := by decide +kernel
theorem dX4_start_19 : decode cX4_start 19 = .ok (.getfield 46, 3) := by decide +kernel
theorem dX4_start_22 : decode cX4_start 22 = .ok (.iload_n 2, 1) := by decide +kernel
theorem dX4_start_23 : decode cX4_start 23 = .ok (.if_icmp .le 6, 3) := by decide +kernel
theorem dX4_start_26 : decode cX4_start 26 = .ok (.bipush (-2), 2) := by decide +kernel
theorem dX4_start_28 : decode cX4_start 28 = .ok (.ireturn, 1) := by decide +kernel
theorem dX4_start_29 : decode cX4_start 29 = .ok (.aload_n 0, 1) := by decide +kernel
theorem dX4_start_30 : decode cX4_start 30 = .ok (.getfield 24, 3) := by decide +kernel
theorem dX4_start_33 : decode cX4_start 33 = .ok (.aload_n 0, 1) := by decide +kernel
theorem dX4_start_34 : decode cX4_start 34 = .ok (.getfield 9, 3) := by decide +kernel
theorem dX4_start_37 : decode cX4_start 37 = .ok (.aload_n 0, 1) := by decide +kernel
theorem dX4_start_38 : decode cX4_start 38 = .ok (.getfield 59, 3) := by decide +kernel
theorem dX4_start_41 : decode cX4_start 41 = .ok (.aload_n 0, 1) := by decide +kernel
theorem dX4_start_42 : decode cX4_start 42 = .ok (.getfield 62, 3) := by decide +kernel
theorem dX4_start_45 : decode cX4_start 45 = .ok (.aload_n 0, 1) := by decide +kernel
theorem dX4_start_46 : decode cX4_start 46 = .ok (.getfield 65, 3) := by decide +kernel
theorem dX4_start_49 : decode cX4_start 49 = .ok (.invokevirtual 90, 3) := by decide +kernel
theorem dX4_start_52 : decode cX4_start 52 = .ok (.iconst 0, 1) := by decide +kernel
theorem dX4_start_53 : decode cX4_start 53 = .ok (.ireturn, 1) := by decide +kernel
theorem dX4_keep_0 : decode cX4_keep 0 = .ok (.aload_n 0, 1) := by decide +kernel
theorem dX4_keep_1 : decode cX4_keep 1 = .ok (.iconst 1, 1) := by decide +kernel
theorem dX4_keep_2 : decode cX4_keep 2 = .ok (.putfield 50, 3) := by decide +kernel
theorem dX4_keep_5 : decode cX4_keep 5 = .ok (.aload_n 0, 1) := by decide +kernel
theorem dX4_keep_6 : decode cX4_keep 6 = .ok (.aload_n 0, 1) := by decide +kernel
theorem dX4_keep_7 : decode cX4_keep 7 = .ok (.getfield 24, 3) := by decide +kernel
theorem dX4_keep_10 : decode cX4_keep 10 = .ok (.getfield 94, 3) := by decide +kernel
theorem dX4_keep_13 : decode cX4_keep 13 = .ok (.putfield 97, 3) := by decide +kernel
theorem dX4_keep_16 : decode cX4_keep 16 = .ok (.aload_n 0, 1) := by decide +kernel
theorem dX4_keep_17 : decode cX4_keep 17 = .ok (.aload_n 0, 1) := by decide +kernel
theorem dX4_keep_18 : decode cX4_keep 18 = .ok (.getfield 24, 3) := by decide +kernel
theorem dX4_keep_21 : decode cX4_keep 21 = .ok (.getfield 100, 3) := by decide +kernel
theorem dX4_keep_24 : decode cX4_keep 24 = .ok (.putfield 103, 3) := by decide +kernel
theorem dX4_keep_27 : decode cX4_keep 27 = .ok (.aload_n 0, 1) := by decide +kernel
theorem dX4_keep_28 : decode cX4_keep 28 = .ok (.getfield 24, 3) := by decide +kernel
theorem dX4_keep_31 : decode cX4_keep 31 = .ok (.getfield 106, 3) := by decide +kernel
theorem dX4_keep_34 : decode cX4_keep 34 = .ok (.iconst 0, 1) := by decide +kernel
theorem dX4_keep_35 : decode cX4_keep 35 = .ok (.aload_n 0, 1) := by decide +kernel
theorem dX4_keep_36 : decode cX4_keep 36 = .ok (.getfield 38, 3) := by decide +kernel
theorem dX4_keep_39 : decode cX4_keep 39 = .ok (.iconst 0, 1) := by decide +kernel
theorem dX4_keep_40 : decode cX4_keep 40 = .ok (.bipush 8, 2) := by decide +kernel
theorem dX4_keep_42 : decode cX4_keep 42 = .ok (.invokestatic 109, 3) := by decide +kernel
theorem dX4_keep_45 : decode cX4_keep 45 = .ok (.return_, 1) := by decide +kernel
theorem dX4_isPreferred_0 : decode cX4_isPreferred 0 = .ok (.aload_n 0, 1) := by decide +kernel
theorem dX4_isPreferred_1 : decode cX4_isPreferred 1 = .ok (.getfield 50, 3) := by decide +kernel
theorem dX4_isPreferred_4 : decode cX4_isPreferred 4 = .ok (.ifCond .eq 45, 3) := by decide +kernel
theorem dX4_isPreferred_7 : decode cX4_isPreferred 7 = .ok (.aload_n 0, 1) := by decide +kernel
theorem dX4_isPreferred_8 : decode cX4_isPreferred 8 = .ok (.getfield 24, 3) := by decide +kernel
theorem dX4_isPreferred_11 : decode cX4_isPreferred 11 = .ok (.getfield 94, 3) := by decide +kernel
theorem dX4_isPreferred_14 : decode cX4_isPreferred 14 = .ok (.aload_n 0, 1) := by decide +kernel
theorem dX4_isPreferred_15 : decode cX4_isPreferred 15 = .ok (.getfield 97, 3) := by decide +kernel
theorem dX4_isPreferred_18 : decode cX4_isPreferred 18 = .ok (.if_icmp .lt 31, 3) := by decide +kernel
theorem dX4_isPreferred_21 : decode cX4_isPreferred 21 = .ok (.aload_n 0, 1) := by decide +kernel
theorem dX4_isPreferred_22 : decode cX4_isPreferred 22 = .ok (.getfield 24, 3) := by decide +kernel
theorem dX4_isPreferred_25 : decode cX4_isPreferred 25 = .ok (.getfield 94, 3) := by decide +kernel
theorem dX4_isPreferred_28 : decode cX4_isPreferred 28 = .ok (.aload_n 0, 1) := by decide +kernel
theorem dX4_isPreferred_29 : decode cX4_isPreferred 29 = .ok (.getfield 97, 3) := by decide +kernel
theorem dX4_isPreferred_32 : decode cX4_isPreferred 32 = .ok (.if_icmp .ne 21, 3) := by decide +kernel
theorem dX4_isPreferred_35 : decode cX4_isPreferred 35 = .ok (.aload_n 0, 1) := by decide +kernel
theorem dX4_isPreferred_36 : decode cX4_isPreferred 36 = .ok (.getfield 24, 3) := by decide +kernel
theorem dX4_isPreferred_39 : decode cX4_isPreferred 39 = .ok (.getfield 100, 3) := by decide +kernel
theorem dX4_isPreferred_42 : decode cX4_isPreferred 42 = .ok (.aload_n 0, 1) := by decide +kernel
theorem dX4_isPreferred_43 : decode cX4_isPreferred 43 = .ok (.getfield 103, 3) := by decide +kernel
theorem dX4_isPreferred_46 : decode cX4_isPreferred 46 = .ok (.if_icmp .ge 7, 3) := by decide +kernel
theorem dX4_isPreferred_49 : decode cX4_isPreferred 49 = .ok (.iconst 1, 1) := by decide +kernel
theorem dX4_isPreferred_50 : decode cX4_isPreferred 50 = .ok (.goto 4, 3) := by decide +kernel
theorem dX4_isPreferred_53 : decode cX4_isPreferred 53 = .ok (.iconst 0, 1) := by decide +kernel
theorem dX4_isPreferred_54 : decode cX4_isPreferred 54 = .ok (.ireturn, 1) := by decide +kernel
theorem dX4_findMatch_0 : decode cX4_findMatch 0 = .ok (.aload_n 0, 1) := by decide +kernel
theorem dX4_findMatch_1 : decode cX4_findMatch 1 = .ok (.aload_n 0, 1) := by decide +kernel
theorem dX4_findMatch_2 : decode cX4_findMatch 2 = .ok (.iload_n 1, 1) := by decide +kernel
theorem dX4_findMatch_3 : decode cX4_findMatch 3 = .ok (.invokevirtual 115, 3) := by decide +kernel
theorem dX4_findMatch_6 : decode cX4_findMatch 6 = .ok (.ldc 119, 2) := by decide +kernel
theorem dX4_findMatch_8 : decode cX4_findMatch 8 = .ok (.invokevirtual 120, 3) := by decide +kernel
theorem dX4_findMatch_11 : decode cX4_findMatch 11 = .ok (.istore_n 3, 1) := by decide +kernel
theorem dX4_findMatch_12 : decode cX4_findMatch 12 = .ok (.iload_n 3, 1) := by decide +kernel
theorem dX4_findMatch_13 : decode cX4_findMatch 13 = .ok (.ifCond .eq 5, 3) := by decide +kernel
theorem dX4_findMatch_16 : decode cX4_findMatch 16 = .ok (.iload_n 3, 1) := by decide +kernel
theorem dX4_findMatch_17 : decode cX4_findMatch 17 = .ok (.ireturn, 1) := by decide +kernel
theorem dX4_findMatch_18 : decode cX4_findMatch 18 = .ok (.iconst 0, 1) := by decide +kernel
theorem dX4_findMatch_19 : decode cX4_findMatch 19 = .ok (.istore 4, 2) := by decide +kernel
theorem dX4_findMatch_21 : decode cX4_findMatch 21 = .ok (.iload 4, 2) := by decide +kernel
theorem dX4_findMatch_23 : decode cX4_findMatch 23 = .ok (.aload_n 0, 1) := by decide +kernel
theorem dX4_findMatch_24 : decode cX4_findMatch 24 = .ok (.getfield 46, 3) := by decide +kernel
theorem dX4_findMatch_27 : decode cX4_findMatch 27 = .ok (.if_icmp .ge 36, 3) := by decide +kernel
theorem dX4_findMatch_30 : decode cX4_findMatch 30 = .ok (.aload_n 0, 1) := by decide +kernel
theorem dX4_findMatch_31 : decode cX4_findMatch 31 = .ok (.invokevirtual 123, 3) := by decide +kernel
theorem dX4_findMatch_34 : decode cX4_findMatch 34 = .ok (.ifCond .eq 16, 3) := by decide +kernel
theorem dX4_findMatch_37 : decode cX4_findMatch 37 = .ok (.aload_n 0, 1) := by decide +kernel
theorem dX4_findMatch_38 : decode cX4_findMatch 38 = .ok (.iload_n 1, 1) := by decide +kernel
theorem dX4_findMatch_39 : decode cX4_findMatch 39 = .ok (.iload_n 2, 1) := by decide +kernel
theorem dX4_findMatch_40 : decode cX4_findMatch 40 = .ok (.invokevirtual 127, 3) := by decide +kernel
theorem dX4_findMatch_43 : decode cX4_findMatch 43 = .ok (.ifCond .eq 7, 3) := by decide +kernel
theorem dX4_findMatch_46 : decode cX4_findMatch 46 = .ok (.aload_n 0, 1) := by decide +kernel
theorem dX4_findMatch_47 : decode cX4_findMatch 47 = .ok (.invokevirtual 131, 3) := by decide +kernel
theorem dX4_findMatch_50 : decode cX4_findMatch 50 = .ok (.aload_n 0, 1) := by decide +kernel
theorem dX4_findMatch_51 : decode cX4_findMatch 51 = .ok (.getfield 24, 3) := by decide +kernel
theorem dX4_findMatch_54 : decode cX4_findMatch 54 = .ok (.invokevirtual 134, 3) := by decide +kernel
theorem dX4_findMatch_57 : decode cX4_findMatch 57 = .ok (.iinc 4 1, 3) := by decide +kernel
theorem dX4_findMatch_60 : decode cX4_findMatch 60 = .ok (.goto (-39), 3) := by decide +kernel
theorem dX4_findMatch_63 : decode cX4_findMatch 63 = .ok (.aload_n 0, 1) := by decide +kernel
theorem dX4_findMatch_64 : decode cX4_findMatch 64 = .ok (.getfield 50, 3) := by decide +kernel
theorem dX4_findMatch_67 : decode cX4_findMatch 67 = .ok (.ifCond .eq 10, 3) := by decide +kernel
theorem dX4_findMatch_70 : decode cX4_findMatch 70 = .ok (.aload_n 0, 1) := by decide +kernel
theorem dX4_findMatch_71 : decode cX4_findMatch 71 = .ok (.getfield 97, 3) := by decide +kernel
theorem dX4_findMatch_74 : decode cX4_findMatch 74 = .ok (.goto 4, 3) := by decide +kernel
theorem dX4_findMatch_77 : decode cX4_findMatch 77 = .ok (.iconst (-1), 1) := by decide +kernel
theorem dX4_findMatch_78 : decode cX4_findMatch 78 = .ok (.ireturn, 1) := by decide +kernel
theorem dX4_isMatch_0 : decode cX4_isMatch 0 = .ok (.aload_n 0, 1) := by decide +kernel
theorem dX4_isMatch_1 : decode cX4_isMatch 1 = .ok (.getfield 24, 3) := by decide +kernel
theorem dX4_isMatch_4 : decode cX4_isMatch 4 = .ok (.invokevirtual 137, 3) := by decide +kernel
theorem dX4_isMatch_7 : decode cX4_isMatch 7 = .ok (.astore_n 3, 1) := by decide +kernel
theorem dX4_isMatch_8 : decode cX4_isMatch 8 = .ok (.iconst 0, 1) := by decide +kernel
theorem dX4_isMatch_9 : decode cX4_isMatch 9 = .ok (.istore 4, 2) := by decide +kernel
theorem dX4_isMatch_11 : decode cX4_isMatch 11 = .ok (.iload 4, 2) := by decide +kernel
theorem dX4_isMatch_13 : decode cX4_isMatch 13 = .ok (.aload_n 0, 1) := by decide +kernel
theorem dX4_isMatch_14 : decode cX4_isMatch 14 = .ok (.getfield 9, 3) := by decide +kernel
theorem dX4_isMatch_17 : decode cX4_isMatch 17 = .ok (.getfield 87, 3) := by decide +kernel
theorem dX4_isMatch_20 : decode cX4_isMatch 20 = .ok (.getfield 78, 3) := by decide +kernel
theorem dX4_isMatch_23 : decode cX4_isMatch 23 = .ok (.if_icmp .ge 46, 3) := by decide +kernel
theorem dX4_isMatch_26 : decode cX4_isMatch 26 = .ok (.iload_n 1, 1) := by decide +kernel
theorem dX4_isMatch_27 : decode cX4_isMatch 27 = .ok (.iload 4, 2) := by decide +kernel
theorem dX4_isMatch_29 : decode cX4_isMatch 29 = .ok (.ishr, 1) := by decide +kernel
theorem dX4_isMatch_30 : decode cX4_isMatch 30 = .ok (.iconst 1, 1) := by decide +kernel
theorem dX4_isMatch_31 : decode cX4_isMatch 31 = .ok (.iand, 1) := by decide +kernel
theorem dX4_isMatch_32 : decode cX4_isMatch 32 = .ok (.ifCond .eq 31, 3) := by decide +kernel
theorem dX4_isMatch_35 : decode cX4_isMatch 35 = .ok (.aload_n 0, 1) := by decide +kernel
theorem dX4_isMatch_36 : decode cX4_isMatch 36 = .ok (.getfield 9, 3) := by decide +kernel
theorem dX4_isMatch_39 : decode cX4_isMatch 39 = .ok (.aload_n 3, 1) := by decide +kernel
theorem dX4_isMatch_40 : decode cX4_isMatch 40 = .ok (.aload_n 0, 1) := by decide +kernel
theorem dX4_isMatch_41 : decode cX4_isMatch 41 = .ok (.getfield 15, 3) := by decide +kernel
theorem dX4_isMatch_44 : decode cX4_isMatch 44 = .ok (.getfield 141, 3) := by decide +kernel
theorem dX4_isMatch_47 : decode cX4_isMatch 47 = .ok (.aload_n 0, 1) := by decide +kernel
theorem dX4_isMatch_48 : decode cX4_isMatch 48 = .ok (.getfield 56, 3) := by decide +kernel
theorem dX4_isMatch_51 : decode cX4_isMatch 51 = .ok (.aaload, 1) := by decide +kernel
theorem dX4_isMatch_52 : decode cX4_isMatch 52 = .ok (.iload 4, 2) := by decide +kernel
theorem dX4_isMatch_54 : decode cX4_isMatch 54 = .ok (.iload_n 2, 1) := by decide +kernel
theorem dX4_isMatch_55 : decode cX4_isMatch 55 = .ok (.invokevirtual 147, 3) := by decide +kernel
theorem dX4_isMatch_58 : decode cX4_isMatch 58 = .ok (.ifCond .ne 5, 3) := by decide +kernel
theorem dX4_isMatch_61 : decode cX4_isMatch 61 = .ok (.iconst 0, 1) := by decide +kernel
theorem dX4_isMatch_62 : decode cX4_isMatch 62 = .ok (.ireturn, 1) := by decide +kernel
theorem dX4_isMatch_63 : decode cX4_isMatch 63 = .ok (.iinc 4 1, 3) := by decide +kernel
theorem dX4_isMatch_66 : decode cX4_isMatch 66 = .ok (.goto (-55), 3) := by decide +kernel
theorem dX4_isMatch_69 : decode cX4_isMatch 69 = .ok (.iconst 1, 1) := by decide +kernel
theorem dX4_isMatch_70 : decode cX4_isMatch 70 = .ok (.ireturn, 1) := by decide +kernel
theorem dX4_findNearest_0 : decode cX4_findNearest 0 = .ok (.aload_n 0, 1) := by decide +kernel
theorem dX4_findNearest_1 : decode cX4_findNearest 1 = .ok (.aload_n 0, 1) := by decide +kernel
theorem dX4_findNearest_2 : decode cX4_findNearest 2 = .ok (.iload_n 1, 1) := by decide +kernel
theorem dX4_findNearest_3 : decode cX4_findNearest 3 = .ok (.invokevirtual 115, 3) := by decide +kernel
theorem dX4_findNearest_6 : decode cX4_findNearest 6 = .ok (.ldc 119, 2) := by decide +kernel
theorem dX4_findNearest_8 : decode cX4_findNearest 8 = .ok (.invokevirtual 120, 3) := by decide +kernel
theorem dX4_findNearest_11 : decode cX4_findNearest 11 = .ok (.istore_n 3, 1) := by decide +kernel
theorem dX4_findNearest_12 : decode cX4_findNearest 12 = .ok (.iload_n 3, 1) := by decide +kernel
theorem dX4_findNearest_13 : decode cX4_findNearest 13 = .ok (.ifCond .eq 6, 3) := by decide +kernel
theorem dX4_findNearest_16 : decode cX4_findNearest 16 = .ok (.iload_n 3, 1) := by decide +kernel
theorem dX4_findNearest_17 : decode cX4_findNearest 17 = .ok (.i2l, 1) := by decide +kernel
theorem dX4_findNearest_18 : decode cX4_findNearest 18 = .ok (.lreturn, 1) := by decide +kernel
theorem dX4_findNearest_19 : decode cX4_findNearest 19 = .ok (.ldc2_w 153, 3) := by decide +kernel
theorem dX4_findNearest_22 : decode cX4_findNearest 22 = .ok (.lstore 4, 2) := by decide +kernel
theorem dX4_findNearest_24 : decode cX4_findNearest 24 = .ok (.iconst 0, 1) := by decide +kernel
theorem dX4_findNearest_25 : decode cX4_findNearest 25 = .ok (.istore 6, 2) := by decide +kernel
theorem dX4_findNearest_27 : decode cX4_findNearest 27 = .ok (.iload 6, 2) := by decide +kernel
theorem dX4_findNearest_29 : decode cX4_findNearest 29 = .ok (.aload_n 0, 1) := by decide +kernel
theorem dX4_findNearest_30 : decode cX4_findNearest 30 = .ok (.getfield 46, 3) := by decide +kernel
theorem dX4_findNearest_33 : decode cX4_findNearest 33 = .ok (.if_icmp .ge 57, 3) := by decide +kernel
theorem dX4_findNearest_36 : decode cX4_findNearest 36 = .ok (.aload_n 0, 1) := by decide +kernel
theorem dX4_findNearest_37 : decode cX4_findNearest 37 = .ok (.iload_n 1, 1) := by decide +kernel
theorem dX4_findNearest_38 : decode cX4_findNearest 38 = .ok (.iload_n 2, 1) := by decide +kernel
theorem dX4_findNearest_39 : decode cX4_findNearest 39 = .ok (.lload 4, 2) := by decide +kernel
theorem dX4_findNearest_41 : decode cX4_findNearest 41 = .ok (.invokevirtual 155, 3) := by decide +kernel
theorem dX4_findNearest_44 : decode cX4_findNearest 44 = .ok (.lstore 7, 2) := by decide +kernel
theorem dX4_findNearest_46 : decode cX4_findNearest 46 = .ok (.lload 7, 2) := by decide +kernel
theorem dX4_findNearest_48 : decode cX4_findNearest 48 = .ok (.lload 4, 2) := by decide +kernel
theorem dX4_findNearest_50 : decode cX4_findNearest 50 = .ok (.lcmp, 1) := by decide +kernel
theorem dX4_findNearest_51 : decode cX4_findNearest 51 = .ok (.ifCond .lt 18, 3) := by decide +kernel
theorem dX4_findNearest_54 : decode cX4_findNearest 54 = .ok (.lload 7, 2) := by decide +kernel
theorem dX4_findNearest_56 : decode cX4_findNearest 56 = .ok (.lload 4, 2) := by decide +kernel
theorem dX4_findNearest_58 : decode cX4_findNearest 58 = .ok (.lcmp, 1) := by decide +kernel
theorem dX4_findNearest_59 : decode cX4_findNearest 59 = .ok (.ifCond .ne 18, 3) := by decide +kernel
theorem dX4_findNearest_62 : decode cX4_findNearest 62 = .ok (.aload_n 0, 1) := by decide +kernel
theorem dX4_findNearest_63 : decode cX4_findNearest 63 = .ok (.invokevirtual 123, 3) := by decide +kernel
theorem dX4_findNearest_66 : decode cX4_findNearest 66 = .ok (.ifCond .eq 11, 3) := by decide +kernel
theorem dX4_findNearest_69 : decode cX4_findNearest 69 = .ok (.lload 7, 2) := by decide +kernel
theorem dX4_findNearest_71 : decode cX4_findNearest 71 = .ok (.lstore 4, 2) := by decide +kernel
theorem dX4_findNearest_73 : decode cX4_findNearest 73 = .ok (.aload_n 0, 1) := by decide +kernel
theorem dX4_findNearest_74 : decode cX4_findNearest 74 = .ok (.invokevirtual 131, 3) := by decide +kernel
theorem dX4_findNearest_77 : decode cX4_findNearest 77 = .ok (.aload_n 0, 1) := by decide +kernel
theorem dX4_findNearest_78 : decode cX4_findNearest 78 = .ok (.getfield 24, 3) := by decide +kernel
theorem dX4_findNearest_81 : decode cX4_findNearest 81 = .ok (.invokevirtual 134, 3) := by decide +kernel
theorem dX4_findNearest_84 : decode cX4_findNearest 84 = .ok (.iinc 6 1, 3) := by decide +kernel
theorem dX4_findNearest_87 : decode cX4_findNearest 87 = .ok (.goto (-60), 3) := by decide +kernel
theorem dX4_findNearest_90 : decode cX4_findNearest 90 = .ok (.lload 4, 2) := by decide +kernel
theorem dX4_findNearest_92 : decode cX4_findNearest 92 = .ok (.lreturn, 1) := by decide +kernel
theorem dX4_greatestApart_0 : decode cX4_greatestApart 0 = .ok (.aload_n 0, 1) := by decide +kernel
theorem dX4_greatestApart_1 : decode cX4_greatestApart 1 = .ok (.getfield 24, 3) := by decide +kernel
theorem dX4_greatestApart_4 : decode cX4_greatestApart 4 = .ok (.invokevirtual 137, 3) := by decide +kernel
theorem dX4_greatestApart_7 : decode cX4_greatestApart 7 = .ok (.astore 5, 2) := by decide +kernel
theorem dX4_greatestApart_9 : decode cX4_greatestApart 9 = .ok (.lconst 0, 1) := by decide +kernel
theorem dX4_greatestApart_10 : decode cX4_greatestApart 10 = .ok (.lstore 6, 2) := by decide +kernel
theorem dX4_greatestApart_12 : decode cX4_greatestApart 12 = .ok (.iconst 0, 1) := by decide +kernel
theorem dX4_greatestApart_13 : decode cX4_greatestApart 13 = .ok (.istore 8, 2) := by decide +kernel
theorem dX4_greatestApart_15 : decode cX4_greatestApart 15 = .ok (.iload 8, 2) := by decide +kernel
theorem dX4_greatestApart_17 : decode cX4_greatestApart 17 = .ok (.aload_n 0, 1) := by decide +kernel
theorem dX4_greatestApart_18 : decode cX4_greatestApart 18 = .ok (.getfield 9, 3) := by decide +kernel
theorem dX4_greatestApart_21 : decode cX4_greatestApart 21 = .ok (.getfield 87, 3) := by decide +kernel
theorem dX4_greatestApart_24 : decode cX4_greatestApart 24 = .ok (.getfield 78, 3) := by decide +kernel
theorem dX4_greatestApart_27 : decode cX4_greatestApart 27 = .ok (.if_icmp .ge 56, 3) := by decide +kernel
theorem dX4_greatestApart_30 : decode cX4_greatestApart 30 = .ok (.lload 6, 2) := by decide +kernel
theorem dX4_greatestApart_32 : decode cX4_greatestApart 32 = .ok (.lload_n 3, 1) := by decide +kernel
theorem dX4_greatestApart_33 : decode cX4_greatestApart 33 = .ok (.lcmp, 1) := by decide +kernel
theorem dX4_greatestApart_34 : decode cX4_greatestApart 34 = .ok (.ifCond .gt 49, 3) := by decide +kernel
theorem dX4_greatestApart_37 : decode cX4_greatestApart 37 = .ok (.iload_n 1, 1) := by decide +kernel
theorem dX4_greatestApart_38 : decode cX4_greatestApart 38 = .ok (.iload 8, 2) := by decide +kernel
theorem dX4_greatestApart_40 : decode cX4_greatestApart 40 = .ok (.ishr, 1) := by decide +kernel
theorem dX4_greatestApart_41 : decode cX4_greatestApart 41 = .ok (.iconst 1, 1) := by decide +kernel
theorem dX4_greatestApart_42 : decode cX4_greatestApart 42 = .ok (.iand, 1) := by decide +kernel
theorem dX4_greatestApart_43 : decode cX4_greatestApart 43 = .ok (.ifCond .eq 34, 3) := by decide +kernel
theorem dX4_greatestApart_46 : decode cX4_greatestApart 46 = .ok (.lload 6, 2) := by decide +kernel
theorem dX4_greatestApart_48 : decode cX4_greatestApart 48 = .ok (.aload_n 0, 1) := by decide +kernel
theorem dX4_greatestApart_49 : decode cX4_greatestApart 49 = .ok (.getfield 9, 3) := by decide +kernel
theorem dX4_greatestApart_52 : decode cX4_greatestApart 52 = .ok (.aload 5, 2) := by decide +kernel
theorem dX4_greatestApart_54 : decode cX4_greatestApart 54 = .ok (.aload_n 0, 1) := by decide +kernel
theorem dX4_greatestApart_55 : decode cX4_greatestApart 55 = .ok (.getfield 15, 3) := by decide +kernel
theorem dX4_greatestApart_58 : decode cX4_greatestApart 58 = .ok (.getfield 141, 3) := by decide +kernel
theorem dX4_greatestApart_61 : decode cX4_greatestApart 61 = .ok (.aload_n 0, 1) := by decide +kernel
theorem dX4_greatestApart_62 : decode cX4_greatestApart 62 = .ok (.getfield 56, 3) := by decide +kernel
theorem dX4_greatestApart_65 : decode cX4_greatestApart 65 = .ok (.aaload, 1) := by decide +kernel
theorem dX4_greatestApart_66 : decode cX4_greatestApart 66 = .ok (.iload 8, 2) := by decide +kernel
theorem dX4_greatestApart_68 : decode cX4_greatestApart 68 = .ok (.iload_n 2, 1) := by decide +kernel
theorem dX4_greatestApart_69 : decode cX4_greatestApart 69 = .ok (.invokevirtual 159, 3) := by decide +kernel
theorem dX4_greatestApart_72 : decode cX4_greatestApart 72 = .ok (.invokestatic 163, 3) := by decide +kernel
theorem dX4_greatestApart_75 : decode cX4_greatestApart 75 = .ok (.lstore 6, 2) := by decide +kernel
theorem dX4_greatestApart_77 : decode cX4_greatestApart 77 = .ok (.iinc 8 1, 3) := by decide +kernel
theorem dX4_greatestApart_80 : decode cX4_greatestApart 80 = .ok (.goto (-65), 3) := by decide +kernel
theorem dX4_greatestApart_83 : decode cX4_greatestApart 83 = .ok (.lload 6, 2) := by decide +kernel
theorem dX4_greatestApart_85 : decode cX4_greatestApart 85 = .ok (.lreturn, 1) := by decide +kernel
theorem dX4_findTrick_0 : decode cX4_findTrick 0 = .ok (.aload_n 0, 1) := by decide +kernel
theorem dX4_findTrick_1 : decode cX4_findTrick 1 = .ok (.aload_n 0, 1) := by decide +kernel
theorem dX4_findTrick_2 : decode cX4_findTrick 2 = .ok (.getfield 9, 3) := by decide +kernel
theorem dX4_findTrick_5 : decode cX4_findTrick 5 = .ok (.getfield 87, 3) := by decide +kernel
theorem dX4_findTrick_8 : decode cX4_findTrick 8 = .ok (.iload_n 1, 1) := by decide +kernel
theorem dX4_findTrick_9 : decode cX4_findTrick 9 = .ok (.invokevirtual 167, 3) := by decide +kernel
theorem dX4_findTrick_12 : decode cX4_findTrick 12 = .ok (.ifCond .eq 21, 3) := by decide +kernel
theorem dX4_findTrick_15 : decode cX4_findTrick 15 = .ok (.aload_n 0, 1) := by decide +kernel
theorem dX4_findTrick_16 : decode cX4_findTrick 16 = .ok (.getfield 9, 3) := by decide +kernel
theorem dX4_findTrick_19 : decode cX4_findTrick 19 = .ok (.getfield 87, 3) := by decide +kernel
theorem dX4_findTrick_22 : decode cX4_findTrick 22 = .ok (.iload_n 2, 1) := by decide +kernel
theorem dX4_findTrick_23 : decode cX4_findTrick 23 = .ok (.invokevirtual 167, 3) := by decide +kernel
theorem dX4_findTrick_26 : decode cX4_findTrick 26 = .ok (.ifCond .eq 7, 3) := by decide +kernel
theorem dX4_findTrick_29 : decode cX4_findTrick 29 = .ok (.iconst 1, 1) := by decide +kernel
theorem dX4_findTrick_30 : decode cX4_findTrick 30 = .ok (.goto 4, 3) := by decide +kernel
theorem dX4_findTrick_33 : decode cX4_findTrick 33 = .ok (.iconst 0, 1) := by decide +kernel
theorem dX4_findTrick_34 : decode cX4_findTrick 34 = .ok (.ldc 119, 2) := by decide +kernel
theorem dX4_findTrick_36 : decode cX4_findTrick 36 = .ok (.invokevirtual 120, 3) := by decide +kernel
theorem dX4_findTrick_39 : decode cX4_findTrick 39 = .ok (.istore 4, 2) := by decide +kernel
theorem dX4_findTrick_41 : decode cX4_findTrick 41 = .ok (.iload 4, 2) := by decide +kernel
theorem dX4_findTrick_43 : decode cX4_findTrick 43 = .ok (.ifCond .eq 7, 3) := by decide +kernel
theorem dX4_findTrick_46 : decode cX4_findTrick 46 = .ok (.iload 4, 2) := by decide +kernel
theorem dX4_findTrick_48 : decode cX4_findTrick 48 = .ok (.i2l, 1) := by decide +kernel
theorem dX4_findTrick_49 : decode cX4_findTrick 49 = .ok (.lreturn, 1) := by decide +kernel
theorem dX4_findTrick_50 : decode cX4_findTrick 50 = .ok (.ldc2_w 170, 3) := by decide +kernel
theorem dX4_findTrick_53 : decode cX4_findTrick 53 = .ok (.lstore 5, 2) := by decide +kernel
theorem dX4_findTrick_55 : decode cX4_findTrick 55 = .ok (.iconst 0, 1) := by decide +kernel
theorem dX4_findTrick_56 : decode cX4_findTrick 56 = .ok (.istore 7, 2) := by decide +kernel
theorem dX4_findTrick_58 : decode cX4_findTrick 58 = .ok (.iload 7, 2) := by decide +kernel
theorem dX4_findTrick_60 : decode cX4_findTrick 60 = .ok (.aload_n 0, 1) := by decide +kernel
theorem dX4_findTrick_61 : decode cX4_findTrick 61 = .ok (.getfield 46, 3) := by decide +kernel
theorem dX4_findTrick_64 : decode cX4_findTrick 64 = .ok (.if_icmp .ge 107, 3) := by decide +kernel
theorem dX4_findTrick_67 : decode cX4_findTrick 67 = .ok (.aload_n 0, 1) := by decide +kernel
theorem dX4_findTrick_68 : decode cX4_findTrick 68 = .ok (.getfield 24, 3) := by decide +kernel
theorem dX4_findTrick_71 : decode cX4_findTrick 71 = .ok (.invokevirtual 137, 3) := by decide +kernel
theorem dX4_findTrick_74 : decode cX4_findTrick 74 = .ok (.astore 8, 2) := by decide +kernel
theorem dX4_findTrick_76 : decode cX4_findTrick 76 = .ok (.aload_n 0, 1) := by decide +kernel
theorem dX4_findTrick_77 : decode cX4_findTrick 77 = .ok (.getfield 9, 3) := by decide +kernel
theorem dX4_findTrick_80 : decode cX4_findTrick 80 = .ok (.aload 8, 2) := by decide +kernel
theorem dX4_findTrick_82 : decode cX4_findTrick 82 = .ok (.aload_n 0, 1) := by decide +kernel
theorem dX4_findTrick_83 : decode cX4_findTrick 83 = .ok (.getfield 15, 3) := by decide +kernel
theorem dX4_findTrick_86 : decode cX4_findTrick 86 = .ok (.getfield 141, 3) := by decide +kernel
theorem dX4_findTrick_89 : decode cX4_findTrick 89 = .ok (.aload_n 0, 1) := by decide +kernel
theorem dX4_findTrick_90 : decode cX4_findTrick 90 = .ok (.getfield 56, 3) := by decide +kernel
theorem dX4_findTrick_93 : decode cX4_findTrick 93 = .ok (.aaload, 1) := by decide +kernel
theorem dX4_findTrick_94 : decode cX4_findTrick 94 = .ok (.iload_n 1, 1) := by decide +kernel
theorem dX4_findTrick_95 : decode cX4_findTrick 95 = .ok (.iload_n 3, 1) := by decide +kernel
theorem dX4_findTrick_96 : decode cX4_findTrick 96 = .ok (.invokevirtual 147, 3) := by decide +kernel
theorem dX4_findTrick_99 : decode cX4_findTrick 99 = .ok (.ifCond .eq 59, 3) := by decide +kernel
theorem dX4_findTrick_102 : decode cX4_findTrick 102 = .ok (.aload_n 0, 1) := by decide +kernel
theorem dX4_findTrick_103 : decode cX4_findTrick 103 = .ok (.getfield 9, 3) := by decide +kernel
theorem dX4_findTrick_106 : decode cX4_findTrick 106 = .ok (.aload 8, 2) := by decide +kernel
theorem dX4_findTrick_108 : decode cX4_findTrick 108 = .ok (.aload_n 0, 1) := by decide +kernel
theorem dX4_findTrick_109 : decode cX4_findTrick 109 = .ok (.getfield 15, 3) := by decide +kernel
theorem dX4_findTrick_112 : decode cX4_findTrick 112 = .ok (.getfield 141, 3) := by decide +kernel
theorem dX4_findTrick_115 : decode cX4_findTrick 115 = .ok (.aload_n 0, 1) := by decide +kernel
theorem dX4_findTrick_116 : decode cX4_findTrick 116 = .ok (.getfield 56, 3) := by decide +kernel
theorem dX4_findTrick_119 : decode cX4_findTrick 119 = .ok (.aaload, 1) := by decide +kernel
theorem dX4_findTrick_120 : decode cX4_findTrick 120 = .ok (.iload_n 2, 1) := by decide +kernel
theorem dX4_findTrick_121 : decode cX4_findTrick 121 = .ok (.iload_n 3, 1) := by decide +kernel
theorem dX4_findTrick_122 : decode cX4_findTrick 122 = .ok (.invokevirtual 159, 3) := by decide +kernel
theorem dX4_findTrick_125 : decode cX4_findTrick 125 = .ok (.lstore 9, 2) := by decide +kernel
theorem dX4_findTrick_127 : decode cX4_findTrick 127 = .ok (.lload 9, 2) := by decide +kernel
theorem dX4_findTrick_129 : decode cX4_findTrick 129 = .ok (.lload 5, 2) := by decide +kernel
theorem dX4_findTrick_131 : decode cX4_findTrick 131 = .ok (.lcmp, 1) := by decide +kernel
theorem dX4_findTrick_132 : decode cX4_findTrick 132 = .ok (.ifCond .gt 18, 3) := by decide +kernel
theorem dX4_findTrick_135 : decode cX4_findTrick 135 = .ok (.lload 9, 2) := by decide +kernel
theorem dX4_findTrick_137 : decode cX4_findTrick 137 = .ok (.lload 5, 2) := by decide +kernel
theorem dX4_findTrick_139 : decode cX4_findTrick 139 = .ok (.lcmp, 1) := by decide +kernel
theorem dX4_findTrick_140 : decode cX4_findTrick 140 = .ok (.ifCond .ne 18, 3) := by decide +kernel
theorem dX4_findTrick_143 : decode cX4_findTrick 143 = .ok (.aload_n 0, 1) := by decide +kernel
theorem dX4_findTrick_144 : decode cX4_findTrick 144 = .ok (.invokevirtual 123, 3) := by decide +kernel
theorem dX4_findTrick_147 : decode cX4_findTrick 147 = .ok (.ifCond .eq 11, 3) := by decide +kernel
theorem dX4_findTrick_150 : decode cX4_findTrick 150 = .ok (.lload 9, 2) := by decide +kernel
theorem dX4_findTrick_152 : decode cX4_findTrick 152 = .ok (.lstore 5, 2) := by decide +kernel
theorem dX4_findTrick_154 : decode cX4_findTrick 154 = .ok (.aload_n 0, 1) := by decide +kernel
theorem dX4_findTrick_155 : decode cX4_findTrick 155 = .ok (.invokevirtual 131, 3) := by decide +kernel
theorem dX4_findTrick_158 : decode cX4_findTrick 158 = .ok (.aload_n 0, 1) := by decide +kernel
theorem dX4_findTrick_159 : decode cX4_findTrick 159 = .ok (.getfield 24, 3) := by decide +kernel
theorem dX4_findTrick_162 : decode cX4_findTrick 162 = .ok (.invokevirtual 134, 3) := by decide +kernel
theorem dX4_findTrick_165 : decode cX4_findTrick 165 = .ok (.iinc 7 1, 3) := by decide +kernel
theorem dX4_findTrick_168 : decode cX4_findTrick 168 = .ok (.goto (-110), 3) := by decide +kernel
theorem dX4_findTrick_171 : decode cX4_findTrick 171 = .ok (.lload 5, 2) := by decide +kernel
theorem dX4_findTrick_173 : decode cX4_findTrick 173 = .ok (.lreturn, 1) := by decide +kernel
theorem dX4_findBest_0 : decode cX4_findBest 0 = .ok (.aload_n 0, 1) := by decide +kernel
theorem dX4_findBest_1 : decode cX4_findBest 1 = .ok (.iconst 0, 1) := by decide +kernel
theorem dX4_findBest_2 : decode cX4_findBest 2 = .ok (.putfield 53, 3) := by decide +kernel
theorem dX4_findBest_5 : decode cX4_findBest 5 = .ok (.aload_n 0, 1) := by decide +kernel
theorem dX4_findBest_6 : decode cX4_findBest 6 = .ok (.aload_n 0, 1) := by decide +kernel
theorem dX4_findBest_7 : decode cX4_findBest 7 = .ok (.iload_n 1, 1) := by decide +kernel
theorem dX4_findBest_8 : decode cX4_findBest 8 = .ok (.invokevirtual 115, 3) := by decide +kernel
theorem dX4_findBest_11 : decode cX4_findBest 11 = .ok (.sipush 5000, 3) := by decide +kernel
theorem dX4_findBest_14 : decode cX4_findBest 14 = .ok (.invokevirtual 120, 3) := by decide +kernel
theorem dX4_findBest_17 : decode cX4_findBest 17 = .ok (.istore_n 3, 1) := by decide +kernel
theorem dX4_findBest_18 : decode cX4_findBest 18 = .ok (.iload_n 3, 1) := by decide +kernel
theorem dX4_findBest_19 : decode cX4_findBest 19 = .ok (.ifCond .eq 5, 3) := by decide +kernel
theorem dX4_findBest_22 : decode cX4_findBest 22 = .ok (.iload_n 3, 1) := by decide +kernel
theorem dX4_findBest_23 : decode cX4_findBest 23 = .ok (.ireturn, 1) := by decide +kernel
theorem dX4_findBest_24 : decode cX4_findBest 24 = .ok (.aload_n 0, 1) := by decide +kernel
theorem dX4_findBest_25 : decode cX4_findBest 25 = .ok (.iload_n 1, 1) := by decide +kernel
theorem dX4_findBest_26 : decode cX4_findBest 26 = .ok (.invokestatic 172, 3) := by decide +kernel
theorem dX4_findBest_29 : decode cX4_findBest 29 = .ok (.putfield 178, 3) := by decide +kernel
theorem dX4_findBest_32 : decode cX4_findBest 32 = .ok (.iconst 0, 1) := by decide +kernel
theorem dX4_findBest_33 : decode cX4_findBest 33 = .ok (.istore 4, 2) := by decide +kernel
theorem dX4_findBest_35 : decode cX4_findBest 35 = .ok (.iload 4, 2) := by decide +kernel
theorem dX4_findBest_37 : decode cX4_findBest 37 = .ok (.aload_n 0, 1) := by decide +kernel
theorem dX4_findBest_38 : decode cX4_findBest 38 = .ok (.getfield 46, 3) := by decide +kernel
theorem dX4_findBest_41 : decode cX4_findBest 41 = .ok (.if_icmp .ge 26, 3) := by decide +kernel
theorem dX4_findBest_44 : decode cX4_findBest 44 = .ok (.aload_n 0, 1) := by decide +kernel
theorem dX4_findBest_45 : decode cX4_findBest 45 = .ok (.iload_n 1, 1) := by decide +kernel
theorem dX4_findBest_46 : decode cX4_findBest 46 = .ok (.iload_n 2, 1) := by decide +kernel
theorem dX4_findBest_47 : decode cX4_findBest 47 = .ok (.invokevirtual 181, 3) := by decide +kernel
theorem dX4_findBest_50 : decode cX4_findBest 50 = .ok (.aload_n 0, 1) := by decide +kernel
theorem dX4_findBest_51 : decode cX4_findBest 51 = .ok (.invokevirtual 185, 3) := by decide +kernel
theorem dX4_findBest_54 : decode cX4_findBest 54 = .ok (.aload_n 0, 1) := by decide +kernel
theorem dX4_findBest_55 : decode cX4_findBest 55 = .ok (.getfield 24, 3) := by decide +kernel
theorem dX4_findBest_58 : decode cX4_findBest 58 = .ok (.invokevirtual 134, 3) := by decide +kernel
theorem dX4_findBest_61 : decode cX4_findBest 61 = .ok (.iinc 4 1, 3) := by decide +kernel
theorem dX4_findBest_64 : decode cX4_findBest 64 = .ok (.goto (-29), 3) := by decide +kernel
theorem dX4_findBest_67 : decode cX4_findBest 67 = .ok (.aload_n 0, 1) := by decide +kernel
theorem dX4_findBest_68 : decode cX4_findBest 68 = .ok (.iconst 0, 1) := by decide +kernel
theorem dX4_findBest_69 : decode cX4_findBest 69 = .ok (.invokevirtual 188, 3) := by decide +kernel
theorem dX4_findBest_72 : decode cX4_findBest 72 = .ok (.aload_n 0, 1) := by decide +kernel
theorem dX4_findBest_73 : decode cX4_findBest 73 = .ok (.getfield 53, 3) := by decide +kernel
theorem dX4_findBest_76 : decode cX4_findBest 76 = .ok (.ireturn, 1) := by decide +kernel
theorem dX4_measure_0 : decode cX4_measure 0 = .ok (.aload_n 0, 1) := by decide +kernel
theorem dX4_measure_1 : decode cX4_measure 1 = .ok (.getfield 24, 3) := by decide +kernel
theorem dX4_measure_4 : decode cX4_measure 4 = .ok (.invokevirtual 137, 3) := by decide +kernel
theorem dX4_measure_7 : decode cX4_measure 7 = .ok (.astore_n 3, 1) := by decide +kernel
theorem dX4_measure_8 : decode cX4_measure 8 = .ok (.iconst 0, 1) := by decide +kernel
theorem dX4_measure_9 : decode cX4_measure 9 = .ok (.istore 4, 2) := by decide +kernel
theorem dX4_measure_11 : decode cX4_measure 11 = .ok (.iconst 0, 1) := by decide +kernel
theorem dX4_measure_12 : decode cX4_measure 12 = .ok (.istore 5, 2) := by decide +kernel
theorem dX4_measure_14 : decode cX4_measure 14 = .ok (.iload 5, 2) := by decide +kernel
theorem dX4_measure_16 : decode cX4_measure 16 = .ok (.aload_n 0, 1) := by decide +kernel
theorem dX4_measure_17 : decode cX4_measure 17 = .ok (.getfield 9, 3) := by decide +kernel
theorem dX4_measure_20 : decode cX4_measure 20 = .ok (.getfield 87, 3) := by decide +kernel
theorem dX4_measure_23 : decode cX4_measure 23 = .ok (.getfield 78, 3) := by decide +kernel
theorem dX4_measure_26 : decode cX4_measure 26 = .ok (.if_icmp .ge 51, 3) := by decide +kernel
theorem dX4_measure_29 : decode cX4_measure 29 = .ok (.iload_n 1, 1) := by decide +kernel
theorem dX4_measure_30 : decode cX4_measure 30 = .ok (.iload 5, 2) := by decide +kernel
theorem dX4_measure_32 : decode cX4_measure 32 = .ok (.ishr, 1) := by decide +kernel
theorem dX4_measure_33 : decode cX4_measure 33 = .ok (.iconst 1, 1) := by decide +kernel
theorem dX4_measure_34 : decode cX4_measure 34 = .ok (.iand, 1) := by decide +kernel
theorem dX4_measure_35 : decode cX4_measure 35 = .ok (.ifCond .eq 36, 3) := by decide +kernel
theorem dX4_measure_38 : decode cX4_measure 38 = .ok (.aload_n 0, 1) := by decide +kernel
theorem dX4_measure_39 : decode cX4_measure 39 = .ok (.getfield 35, 3) := by decide +kernel
theorem dX4_measure_42 : decode cX4_measure 42 = .ok (.iload 4, 2) := by decide +kernel
theorem dX4_measure_44 : decode cX4_measure 44 = .ok (.aload_n 0, 1) := by decide +kernel
theorem dX4_measure_45 : decode cX4_measure 45 = .ok (.getfield 9, 3) := by decide +kernel
theorem dX4_measure_48 : decode cX4_measure 48 = .ok (.aload_n 3, 1) := by decide +kernel
theorem dX4_measure_49 : decode cX4_measure 49 = .ok (.aload_n 0, 1) := by decide +kernel
theorem dX4_measure_50 : decode cX4_measure 50 = .ok (.getfield 15, 3) := by decide +kernel
theorem dX4_measure_53 : decode cX4_measure 53 = .ok (.getfield 141, 3) := by decide +kernel
theorem dX4_measure_56 : decode cX4_measure 56 = .ok (.aload_n 0, 1) := by decide +kernel
theorem dX4_measure_57 : decode cX4_measure 57 = .ok (.getfield 56, 3) := by decide +kernel
theorem dX4_measure_60 : decode cX4_measure 60 = .ok (.aaload, 1) := by decide +kernel
theorem dX4_measure_61 : decode cX4_measure 61 = .ok (.iload 5, 2) := by decide +kernel
theorem dX4_measure_63 : decode cX4_measure 63 = .ok (.iload_n 2, 1) := by decide +kernel
theorem dX4_measure_64 : decode cX4_measure 64 = .ok (.invokevirtual 159, 3) := by decide +kernel
theorem dX4_measure_67 : decode cX4_measure 67 = .ok (.lastore, 1) := by decide +kernel
theorem dX4_measure_68 : decode cX4_measure 68 = .ok (.iinc 4 1, 3) := by decide +kernel
theorem dX4_measure_71 : decode cX4_measure 71 = .ok (.iinc 5 1, 3) := by decide +kernel
theorem dX4_measure_74 : decode cX4_measure 74 = .ok (.goto (-60), 3) := by decide +kernel
theorem dX4_measure_77 : decode cX4_measure 77 = .ok (.return_, 1) := by decide +kernel
theorem dX4_holdAgainstBest_0 : decode cX4_holdAgainstBest 0 = .ok (.aload_n 0, 1) := by decide +kernel
theorem dX4_holdAgainstBest_1 : decode cX4_holdAgainstBest 1 = .ok (.invokevirtual 192, 3) := by decide +kernel
theorem dX4_holdAgainstBest_4 : decode cX4_holdAgainstBest 4 = .ok (.istore_n 1, 1) := by decide +kernel
theorem dX4_holdAgainstBest_5 : decode cX4_holdAgainstBest 5 = .ok (.iload_n 1, 1) := by decide +kernel
theorem dX4_holdAgainstBest_6 : decode cX4_holdAgainstBest 6 = .ok (.iconst (-1), 1) := by decide +kernel
theorem dX4_holdAgainstBest_7 : decode cX4_holdAgainstBest 7 = .ok (.if_icmp .ne 14, 3) := by decide +kernel
theorem dX4_holdAgainstBest_10 : decode cX4_holdAgainstBest 10 = .ok (.aload_n 0, 1) := by decide +kernel
theorem dX4_holdAgainstBest_11 : decode cX4_holdAgainstBest 11 = .ok (.invokevirtual 195, 3) := by decide +kernel
theorem dX4_holdAgainstBest_14 : decode cX4_holdAgainstBest 14 = .ok (.aload_n 0, 1) := by decide +kernel
theorem dX4_holdAgainstBest_15 : decode cX4_holdAgainstBest 15 = .ok (.invokevirtual 198, 3) := by decide +kernel
theorem dX4_holdAgainstBest_18 : decode cX4_holdAgainstBest 18 = .ok (.goto 27, 3) := by decide +kernel
theorem dX4_holdAgainstBest_21 : decode cX4_holdAgainstBest 21 = .ok (.aload_n 0, 1) := by decide +kernel
theorem dX4_holdAgainstBest_22 : decode cX4_holdAgainstBest 22 = .ok (.aload_n 0, 1) := by decide +kernel
theorem dX4_holdAgainstBest_23 : decode cX4_holdAgainstBest 23 = .ok (.getfield 35, 3) := by decide +kernel
theorem dX4_holdAgainstBest_26 : decode cX4_holdAgainstBest 26 = .ok (.iconst 0, 1) := by decide +kernel
theorem dX4_holdAgainstBest_27 : decode cX4_holdAgainstBest 27 = .ok (.aload_n 0, 1) := by decide +kernel
theorem dX4_holdAgainstBest_28 : decode cX4_holdAgainstBest 28 = .ok (.getfield 32, 3) := by decide +kernel
theorem dX4_holdAgainstBest_31 : decode cX4_holdAgainstBest 31 = .ok (.iload_n 1, 1) := by decide +kernel
theorem dX4_holdAgainstBest_32 : decode cX4_holdAgainstBest 32 = .ok (.bipush 6, 2) := by decide +kernel
theorem dX4_holdAgainstBest_34 : decode cX4_holdAgainstBest 34 = .ok (.imul, 1) := by decide +kernel
theorem dX4_holdAgainstBest_35 : decode cX4_holdAgainstBest 35 = .ok (.invokevirtual 201, 3) := by decide +kernel
theorem dX4_holdAgainstBest_38 : decode cX4_holdAgainstBest 38 = .ok (.ifCond .eq 7, 3) := by decide +kernel
theorem dX4_holdAgainstBest_41 : decode cX4_holdAgainstBest 41 = .ok (.aload_n 0, 1) := by decide +kernel
theorem dX4_holdAgainstBest_42 : decode cX4_holdAgainstBest 42 = .ok (.invokevirtual 198, 3) := by decide +kernel
theorem dX4_holdAgainstBest_45 : decode cX4_holdAgainstBest 45 = .ok (.return_, 1) := by decide +kernel
theorem dX4_findRival_0 : decode cX4_findRival 0 = .ok (.iconst 0, 1) := by decide +kernel
theorem dX4_findRival_1 : decode cX4_findRival 1 = .ok (.istore_n 1, 1) := by decide +kernel
theorem dX4_findRival_2 : decode cX4_findRival 2 = .ok (.iload_n 1, 1) := by decide +kernel
theorem dX4_findRival_3 : decode cX4_findRival 3 = .ok (.aload_n 0, 1) := by decide +kernel
theorem dX4_findRival_4 : decode cX4_findRival 4 = .ok (.getfield 53, 3) := by decide +kernel
theorem dX4_findRival_7 : decode cX4_findRival 7 = .ok (.if_icmp .ge 31, 3) := by decide +kernel
theorem dX4_findRival_10 : decode cX4_findRival 10 = .ok (.aload_n 0, 1) := by decide +kernel
theorem dX4_findRival_11 : decode cX4_findRival 11 = .ok (.aload_n 0, 1) := by decide +kernel
theorem dX4_findRival_12 : decode cX4_findRival 12 = .ok (.getfield 32, 3) := by decide +kernel
theorem dX4_findRival_15 : decode cX4_findRival 15 = .ok (.iload_n 1, 1) := by decide +kernel
theorem dX4_findRival_16 : decode cX4_findRival 16 = .ok (.bipush 6, 2) := by decide +kernel
theorem dX4_findRival_18 : decode cX4_findRival 18 = .ok (.imul, 1) := by decide +kernel
theorem dX4_findRival_19 : decode cX4_findRival 19 = .ok (.aload_n 0, 1) := by decide +kernel
theorem dX4_findRival_20 : decode cX4_findRival 20 = .ok (.getfield 35, 3) := by decide +kernel
theorem dX4_findRival_23 : decode cX4_findRival 23 = .ok (.iconst 0, 1) := by decide +kernel
theorem dX4_findRival_24 : decode cX4_findRival 24 = .ok (.invokevirtual 201, 3) := by decide +kernel
theorem dX4_findRival_27 : decode cX4_findRival 27 = .ok (.ifCond .eq 5, 3) := by decide +kernel
theorem dX4_findRival_30 : decode cX4_findRival 30 = .ok (.iload_n 1, 1) := by decide +kernel
theorem dX4_findRival_31 : decode cX4_findRival 31 = .ok (.ireturn, 1) := by decide +kernel
theorem dX4_findRival_32 : decode cX4_findRival 32 = .ok (.iinc 1 1, 3) := by decide +kernel
theorem dX4_findRival_35 : decode cX4_findRival 35 = .ok (.goto (-33), 3) := by decide +kernel
theorem dX4_findRival_38 : decode cX4_findRival 38 = .ok (.iconst (-1), 1) := by decide +kernel
theorem dX4_findRival_39 : decode cX4_findRival 39 = .ok (.ireturn, 1) := by decide +kernel
theorem dX4_isNoFarther_0 : decode cX4_isNoFarther 0 = .ok (.iconst 0, 1) := by decide +kernel
theorem dX4_isNoFarther_1 : decode cX4_isNoFarther 1 = .ok (.istore 5, 2) := by decide +kernel
theorem dX4_isNoFarther_3 : decode cX4_isNoFarther 3 = .ok (.iload 5, 2) := by decide +kernel
theorem dX4_isNoFarther_5 : decode cX4_isNoFarther 5 = .ok (.aload_n 0, 1) := by decide +kernel
theorem dX4_isNoFarther_6 : decode cX4_isNoFarther 6 = .ok (.getfield 178, 3) := by decide +kernel
theorem dX4_isNoFarther_9 : decode cX4_isNoFarther 9 = .ok (.if_icmp .ge 28, 3) := by decide +kernel
theorem dX4_isNoFarther_12 : decode cX4_isNoFarther 12 = .ok (.aload_n 1, 1) := by decide +kernel
theorem dX4_isNoFarther_13 : decode cX4_isNoFarther 13 = .ok (.iload_n 2, 1) := by decide +kernel
theorem dX4_isNoFarther_14 : decode cX4_isNoFarther 14 = .ok (.iload 5, 2) := by decide +kernel
theorem dX4_isNoFarther_16 : decode cX4_isNoFarther 16 = .ok (.iadd, 1) := by decide +kernel
theorem dX4_isNoFarther_17 : decode cX4_isNoFarther 17 = .ok (.laload, 1) := by decide +kernel
theorem dX4_isNoFarther_18 : decode cX4_isNoFarther 18 = .ok (.aload_n 3, 1) := by decide +kernel
theorem dX4_isNoFarther_19 : decode cX4_isNoFarther 19 = .ok (.iload 4, 2) := by decide +kernel
theorem dX4_isNoFarther_21 : decode cX4_isNoFarther 21 = .ok (.iload 5, 2) := by decide +kernel
theorem dX4_isNoFarther_23 : decode cX4_isNoFarther 23 = .ok (.iadd, 1) := by decide +kernel
theorem dX4_isNoFarther_24 : decode cX4_isNoFarther 24 = .ok (.laload, 1) := by decide +kernel
theorem dX4_isNoFarther_25 : decode cX4_isNoFarther 25 = .ok (.lcmp, 1) := by decide +kernel
theorem dX4_isNoFarther_26 : decode cX4_isNoFarther 26 = .ok (.ifCond .le 5, 3) := by decide +kernel
theorem dX4_isNoFarther_29 : decode cX4_isNoFarther 29 = .ok (.iconst 0, 1) := by decide +kernel
theorem dX4_isNoFarther_30 : decode cX4_isNoFarther 30 = .ok (.ireturn, 1) := by decide +kernel
theorem dX4_isNoFarther_31 : decode cX4_isNoFarther 31 = .ok (.iinc 5 1, 3) := by decide +kernel
theorem dX4_isNoFarther_34 : decode cX4_isNoFarther 34 = .ok (.goto (-31), 3) := by decide +kernel
theorem dX4_isNoFarther_37 : decode cX4_isNoFarther 37 = .ok (.iconst 1, 1) := by decide +kernel
theorem dX4_isNoFarther_38 : decode cX4_isNoFarther 38 = .ok (.ireturn, 1) := by decide +kernel
theorem dX4_removeBeaten_0 : decode cX4_removeBeaten 0 = .ok (.iconst 0, 1) := by decide +kernel
theorem dX4_removeBeaten_1 : decode cX4_removeBeaten 1 = .ok (.istore_n 1, 1) := by decide +kernel
theorem dX4_removeBeaten_2 : decode cX4_removeBeaten 2 = .ok (.iconst 0, 1) := by decide +kernel
theorem dX4_removeBeaten_3 : decode cX4_removeBeaten 3 = .ok (.istore_n 2, 1) := by decide +kernel
theorem dX4_removeBeaten_4 : decode cX4_removeBeaten 4 = .ok (.iload_n 2, 1) := by decide +kernel
theorem dX4_removeBeaten_5 : decode cX4_removeBeaten 5 = .ok (.aload_n 0, 1) := by decide +kernel
theorem dX4_removeBeaten_6 : decode cX4_removeBeaten 6 = .ok (.getfield 53, 3) := by decide +kernel
theorem dX4_removeBeaten_9 : decode cX4_removeBeaten 9 = .ok (.if_icmp .ge 72, 3) := by decide +kernel
theorem dX4_removeBeaten_12 : decode cX4_removeBeaten 12 = .ok (.aload_n 0, 1) := by decide +kernel
theorem dX4_removeBeaten_13 : decode cX4_removeBeaten 13 = .ok (.aload_n 0, 1) := by decide +kernel
theorem dX4_removeBeaten_14 : decode cX4_removeBeaten 14 = .ok (.getfield 35, 3) := by decide +kernel
theorem dX4_removeBeaten_17 : decode cX4_removeBeaten 17 = .ok (.iconst 0, 1) := by decide +kernel
theorem dX4_removeBeaten_18 : decode cX4_removeBeaten 18 = .ok (.aload_n 0, 1) := by decide +kernel
theorem dX4_removeBeaten_19 : decode cX4_removeBeaten 19 = .ok (.getfield 32, 3) := by decide +kernel
theorem dX4_removeBeaten_22 : decode cX4_removeBeaten 22 = .ok (.iload_n 2, 1) := by decide +kernel
theorem dX4_removeBeaten_23 : decode cX4_removeBeaten 23 = .ok (.bipush 6, 2) := by decide +kernel
theorem dX4_removeBeaten_25 : decode cX4_removeBeaten 25 = .ok (.imul, 1) := by decide +kernel
theorem dX4_removeBeaten_26 : decode cX4_removeBeaten 26 = .ok (.invokevirtual 201, 3) := by decide +kernel
theorem dX4_removeBeaten_29 : decode cX4_removeBeaten 29 = .ok (.ifCond .ne 46, 3) := by decide +kernel
theorem dX4_removeBeaten_32 : decode cX4_removeBeaten 32 = .ok (.iload_n 1, 1) := by decide +kernel
theorem dX4_removeBeaten_33 : decode cX4_removeBeaten 33 = .ok (.iload_n 2, 1) := by decide +kernel
theorem dX4_removeBeaten_34 : decode cX4_removeBeaten 34 = .ok (.if_icmp .ge 38, 3) := by decide +kernel
theorem dX4_removeBeaten_37 : decode cX4_removeBeaten 37 = .ok (.aload_n 0, 1) := by decide +kernel
theorem dX4_removeBeaten_38 : decode cX4_removeBeaten 38 = .ok (.getfield 28, 3) := by decide +kernel
theorem dX4_removeBeaten_41 : decode cX4_removeBeaten 41 = .ok (.iload_n 1, 1) := by decide +kernel
theorem dX4_removeBeaten_42 : decode cX4_removeBeaten 42 = .ok (.aload_n 0, 1) := by decide +kernel
theorem dX4_removeBeaten_43 : decode cX4_removeBeaten 43 = .ok (.getfield 28, 3) := by decide +kernel
theorem dX4_removeBeaten_46 : decode cX4_removeBeaten 46 = .ok (.iload_n 2, 1) := by decide +kernel
theorem dX4_removeBeaten_47 : decode cX4_removeBeaten 47 = .ok (.laload, 1) := by decide +kernel
theorem dX4_removeBeaten_48 : decode cX4_removeBeaten 48 = .ok (.lastore, 1) := by decide +kernel
theorem dX4_removeBeaten_49 : decode cX4_removeBeaten 49 = .ok (.aload_n 0, 1) := by decide +kernel
theorem dX4_removeBeaten_50 : decode cX4_removeBeaten 50 = .ok (.getfield 32, 3) := by decide +kernel
theorem dX4_removeBeaten_53 : decode cX4_removeBeaten 53 = .ok (.iload_n 2, 1) := by decide +kernel
theorem dX4_removeBeaten_54 : decode cX4_removeBeaten 54 = .ok (.bipush 6, 2) := by decide +kernel
theorem dX4_removeBeaten_56 : decode cX4_removeBeaten 56 = .ok (.imul, 1) := by decide +kernel
theorem dX4_removeBeaten_57 : decode cX4_removeBeaten 57 = .ok (.aload_n 0, 1) := by decide +kernel
theorem dX4_removeBeaten_58 : decode cX4_removeBeaten 58 = .ok (.getfield 32, 3) := by decide +kernel
theorem dX4_removeBeaten_61 : decode cX4_removeBeaten 61 = .ok (.iload_n 1, 1) := by decide +kernel
theorem dX4_removeBeaten_62 : decode cX4_removeBeaten 62 = .ok (.bipush 6, 2) := by decide +kernel
theorem dX4_removeBeaten_64 : decode cX4_removeBeaten 64 = .ok (.imul, 1) := by decide +kernel
theorem dX4_removeBeaten_65 : decode cX4_removeBeaten 65 = .ok (.aload_n 0, 1) := by decide +kernel
theorem dX4_removeBeaten_66 : decode cX4_removeBeaten 66 = .ok (.getfield 178, 3) := by decide +kernel
theorem dX4_removeBeaten_69 : decode cX4_removeBeaten 69 = .ok (.invokestatic 109, 3) := by decide +kernel
theorem dX4_removeBeaten_72 : decode cX4_removeBeaten 72 = .ok (.iinc 1 1, 3) := by decide +kernel
theorem dX4_removeBeaten_75 : decode cX4_removeBeaten 75 = .ok (.iinc 2 1, 3) := by decide +kernel
theorem dX4_removeBeaten_78 : decode cX4_removeBeaten 78 = .ok (.goto (-74), 3) := by decide +kernel
theorem dX4_removeBeaten_81 : decode cX4_removeBeaten 81 = .ok (.aload_n 0, 1) := by decide +kernel
theorem dX4_removeBeaten_82 : decode cX4_removeBeaten 82 = .ok (.iload_n 1, 1) := by decide +kernel
theorem dX4_removeBeaten_83 : decode cX4_removeBeaten 83 = .ok (.putfield 53, 3) := by decide +kernel
theorem dX4_removeBeaten_86 : decode cX4_removeBeaten 86 = .ok (.return_, 1) := by decide +kernel
theorem dX4_addBest_0 : decode cX4_addBest 0 = .ok (.aload_n 0, 1) := by decide +kernel
theorem dX4_addBest_1 : decode cX4_addBest 1 = .ok (.getfield 53, 3) := by decide +kernel
theorem dX4_addBest_4 : decode cX4_addBest 4 = .ok (.sipush 5000, 3) := by decide +kernel
theorem dX4_addBest_7 : decode cX4_addBest 7 = .ok (.if_icmp .lt 4, 3) := by decide +kernel
theorem dX4_addBest_10 : decode cX4_addBest 10 = .ok (.return_, 1) := by decide +kernel
theorem dX4_addBest_11 : decode cX4_addBest 11 = .ok (.lconst 0, 1) := by decide +kernel
theorem dX4_addBest_12 : decode cX4_addBest 12 = .ok (.lstore_n 1, 1) := by decide +kernel
theorem dX4_addBest_13 : decode cX4_addBest 13 = .ok (.bipush 7, 2) := by decide +kernel
theorem dX4_addBest_15 : decode cX4_addBest 15 = .ok (.istore_n 3, 1) := by decide +kernel
theorem dX4_addBest_16 : decode cX4_addBest 16 = .ok (.iload_n 3, 1) := by decide +kernel
theorem dX4_addBest_17 : decode cX4_addBest 17 = .ok (.ifCond .lt 24, 3) := by decide +kernel
theorem dX4_addBest_20 : decode cX4_addBest 20 = .ok (.lload_n 1, 1) := by decide +kernel
theorem dX4_addBest_21 : decode cX4_addBest 21 = .ok (.iconst 5, 1) := by decide +kernel
theorem dX4_addBest_22 : decode cX4_addBest 22 = .ok (.lshl, 1) := by decide +kernel
theorem dX4_addBest_23 : decode cX4_addBest 23 = .ok (.aload_n 0, 1) := by decide +kernel
theorem dX4_addBest_24 : decode cX4_addBest 24 = .ok (.getfield 24, 3) := by decide +kernel
theorem dX4_addBest_27 : decode cX4_addBest 27 = .ok (.getfield 106, 3) := by decide +kernel
theorem dX4_addBest_30 : decode cX4_addBest 30 = .ok (.iload_n 3, 1) := by decide +kernel
theorem dX4_addBest_31 : decode cX4_addBest 31 = .ok (.iaload, 1) := by decide +kernel
theorem dX4_addBest_32 : decode cX4_addBest 32 = .ok (.i2l, 1) := by decide +kernel
theorem dX4_addBest_33 : decode cX4_addBest 33 = .ok (.lor, 1) := by decide +kernel
theorem dX4_addBest_34 : decode cX4_addBest 34 = .ok (.lstore_n 1, 1) := by decide +kernel
theorem dX4_addBest_35 : decode cX4_addBest 35 = .ok (.iinc 3 (-1), 3) := by decide +kernel
theorem dX4_addBest_38 : decode cX4_addBest 38 = .ok (.goto (-22), 3) := by decide +kernel
theorem dX4_addBest_41 : decode cX4_addBest 41 = .ok (.aload_n 0, 1) := by decide +kernel
theorem dX4_addBest_42 : decode cX4_addBest 42 = .ok (.getfield 28, 3) := by decide +kernel
theorem dX4_addBest_45 : decode cX4_addBest 45 = .ok (.aload_n 0, 1) := by decide +kernel
theorem dX4_addBest_46 : decode cX4_addBest 46 = .ok (.getfield 53, 3) := by decide +kernel
theorem dX4_addBest_49 : decode cX4_addBest 49 = .ok (.lload_n 1, 1) := by decide +kernel
theorem dX4_addBest_50 : decode cX4_addBest 50 = .ok (.lastore, 1) := by decide +kernel
theorem dX4_addBest_51 : decode cX4_addBest 51 = .ok (.aload_n 0, 1) := by decide +kernel
theorem dX4_addBest_52 : decode cX4_addBest 52 = .ok (.getfield 35, 3) := by decide +kernel
theorem dX4_addBest_55 : decode cX4_addBest 55 = .ok (.iconst 0, 1) := by decide +kernel
theorem dX4_addBest_56 : decode cX4_addBest 56 = .ok (.aload_n 0, 1) := by decide +kernel
theorem dX4_addBest_57 : decode cX4_addBest 57 = .ok (.getfield 32, 3) := by decide +kernel
theorem dX4_addBest_60 : decode cX4_addBest 60 = .ok (.aload_n 0, 1) := by decide +kernel
theorem dX4_addBest_61 : decode cX4_addBest 61 = .ok (.getfield 53, 3) := by decide +kernel
theorem dX4_addBest_64 : decode cX4_addBest 64 = .ok (.bipush 6, 2) := by decide +kernel
theorem dX4_addBest_66 : decode cX4_addBest 66 = .ok (.imul, 1) := by decide +kernel
theorem dX4_addBest_67 : decode cX4_addBest 67 = .ok (.aload_n 0, 1) := by decide +kernel
theorem dX4_addBest_68 : decode cX4_addBest 68 = .ok (.getfield 178, 3) := by decide +kernel
theorem dX4_addBest_71 : decode cX4_addBest 71 = .ok (.invokestatic 109, 3) := by decide +kernel
theorem dX4_addBest_74 : decode cX4_addBest 74 = .ok (.aload_n 0, 1) := by decide +kernel
theorem dX4_addBest_75 : decode cX4_addBest 75 = .ok (.dup, 1) := by decide +kernel
theorem dX4_addBest_76 : decode cX4_addBest 76 = .ok (.getfield 53, 3) := by decide +kernel
theorem dX4_addBest_79 : decode cX4_addBest 79 = .ok (.iconst 1, 1) := by decide +kernel
theorem dX4_addBest_80 : decode cX4_addBest 80 = .ok (.iadd, 1) := by decide +kernel
theorem dX4_addBest_81 : decode cX4_addBest 81 = .ok (.putfield 53, 3) := by decide +kernel
theorem dX4_addBest_84 : decode cX4_addBest 84 = .ok (.return_, 1) := by decide +kernel
theorem dX4_layBest_0 : decode cX4_layBest 0 = .ok (.iload_n 1, 1) := by decide +kernel
theorem dX4_layBest_1 : decode cX4_layBest 1 = .ok (.ifCond .lt 11, 3) := by decide +kernel
theorem dX4_layBest_4 : decode cX4_layBest 4 = .ok (.iload_n 1, 1) := by decide +kernel
theorem dX4_layBest_5 : decode cX4_layBest 5 = .ok (.aload_n 0, 1) := by decide +kernel
theorem dX4_layBest_6 : decode cX4_layBest 6 = .ok (.getfield 53, 3) := by decide +kernel
theorem dX4_layBest_9 : decode cX4_layBest 9 = .ok (.if_icmp .lt 4, 3) := by decide +kernel
theorem dX4_layBest_12 : decode cX4_layBest 12 = .ok (.return_, 1) := by decide +kernel
theorem dX4_layBest_13 : decode cX4_layBest 13 = .ok (.aload_n 0, 1) := by decide +kernel
theorem dX4_layBest_14 : decode cX4_layBest 14 = .ok (.getfield 28, 3) := by decide +kernel
theorem dX4_layBest_17 : decode cX4_layBest 17 = .ok (.iload_n 1, 1) := by decide +kernel
theorem dX4_layBest_18 : decode cX4_layBest 18 = .ok (.laload, 1) := by decide +kernel
theorem dX4_layBest_19 : decode cX4_layBest 19 = .ok (.lstore_n 2, 1) := by decide +kernel
theorem dX4_layBest_20 : decode cX4_layBest 20 = .ok (.iconst 0, 1) := by decide +kernel
theorem dX4_layBest_21 : decode cX4_layBest 21 = .ok (.istore 4, 2) := by decide +kernel
theorem dX4_layBest_23 : decode cX4_layBest 23 = .ok (.iload 4, 2) := by decide +kernel
theorem dX4_layBest_25 : decode cX4_layBest 25 = .ok (.bipush 8, 2) := by decide +kernel
theorem dX4_layBest_27 : decode cX4_layBest 27 = .ok (.if_icmp .ge 27, 3) := by decide +kernel
theorem dX4_layBest_30 : decode cX4_layBest 30 = .ok (.aload_n 0, 1) := by decide +kernel
theorem dX4_layBest_31 : decode cX4_layBest 31 = .ok (.getfield 38, 3) := by decide +kernel
theorem dX4_layBest_34 : decode cX4_layBest 34 = .ok (.iload 4, 2) := by decide +kernel
theorem dX4_layBest_36 : decode cX4_layBest 36 = .ok (.lload_n 2, 1) := by decide +kernel
theorem dX4_layBest_37 : decode cX4_layBest 37 = .ok (.iconst 5, 1) := by decide +kernel
theorem dX4_layBest_38 : decode cX4_layBest 38 = .ok (.iload 4, 2) := by decide +kernel
theorem dX4_layBest_40 : decode cX4_layBest 40 = .ok (.imul, 1) := by decide +kernel
theorem dX4_layBest_41 : decode cX4_layBest 41 = .ok (.lshr, 1) := by decide +kernel
theorem dX4_layBest_42 : decode cX4_layBest 42 = .ok (.ldc2_w 205, 3) := by decide +kernel
theorem dX4_layBest_45 : decode cX4_layBest 45 = .ok (.land, 1) := by decide +kernel
theorem dX4_layBest_46 : decode cX4_layBest 46 = .ok (.l2i, 1) := by decide +kernel
theorem dX4_layBest_47 : decode cX4_layBest 47 = .ok (.iastore, 1) := by decide +kernel
theorem dX4_layBest_48 : decode cX4_layBest 48 = .ok (.iinc 4 1, 3) := by decide +kernel
theorem dX4_layBest_51 : decode cX4_layBest 51 = .ok (.goto (-28), 3) := by decide +kernel
theorem dX4_layBest_54 : decode cX4_layBest 54 = .ok (.aload_n 0, 1) := by decide +kernel
theorem dX4_layBest_55 : decode cX4_layBest 55 = .ok (.iconst 1, 1) := by decide +kernel
theorem dX4_layBest_56 : decode cX4_layBest 56 = .ok (.putfield 50, 3) := by decide +kernel
theorem dX4_layBest_59 : decode cX4_layBest 59 = .ok (.return_, 1) := by decide +kernel
theorem dX5_init_0 : decode cX5_init 0 = .ok (.aload_n 0, 1) := by decide +kernel
theorem dX5_init_1 : decode cX5_init 1 = .ok (.invokespecial 3, 3) := by decide +kernel
theorem dX5_init_4 : decode cX5_init 4 = .ok (.aload_n 0, 1) := by decide +kernel
theorem dX5_init_5 : decode cX5_init 5 = .ok (.iload_n 1, 1) := by decide +kernel
theorem dX5_init_6 : decode cX5_init 6 = .ok (.putfield 9, 3) := by decide +kernel
theorem dX5_init_9 : decode cX5_init 9 = .ok (.aload_n 0, 1) := by decide +kernel
theorem dX5_init_10 : decode cX5_init 10 = .ok (.iload_n 1, 1) := by decide +kernel
theorem dX5_init_11 : decode cX5_init 11 = .ok (.newarray .long, 2) := by decide +kernel
theorem dX5_init_13 : decode cX5_init 13 = .ok (.putfield 15, 3) := by decide +kernel
theorem dX5_init_16 : decode cX5_init 16 = .ok (.aload_n 0, 1) := by decide +kernel
theorem dX5_init_17 : decode cX5_init 17 = .ok (.iload_n 1, 1) := by decide +kernel
theorem dX5_init_18 : decode cX5_init 18 = .ok (.iload_n 2, 1) := by decide +kernel
theorem dX5_init_19 : decode cX5_init 19 = .ok (.multianewarray 19 2, 4) := by decide +kernel
theorem dX5_init_23 : decode cX5_init 23 = .ok (.putfield 21, 3) := by decide +kernel
theorem dX5_init_26 : decode cX5_init 26 = .ok (.aload_n 0, 1) := by decide +kernel
theorem dX5_init_27 : decode cX5_init 27 = .ok (.iconst 0, 1) := by decide +kernel
theorem dX5_init_28 : decode cX5_init 28 = .ok (.putfield 24, 3) := by decide +kernel
theorem dX5_init_31 : decode cX5_init 31 = .ok (.return_, 1) := by decide +kernel
theorem dX5_has_0 : decode cX5_has 0 = .ok (.iload_n 1, 1) := by decide +kernel
theorem dX5_has_1 : decode cX5_has 1 = .ok (.ifCond .lt 15, 3) := by decide +kernel
theorem dX5_has_4 : decode cX5_has 4 = .ok (.iload_n 1, 1) := by decide +kernel
theorem dX5_has_5 : decode cX5_has 5 = .ok (.aload_n 0, 1) := by decide +kernel
theorem dX5_has_6 : decode cX5_has 6 = .ok (.getfield 24, 3) := by decide +kernel
theorem dX5_has_9 : decode cX5_has 9 = .ok (.if_icmp .ge 7, 3) := by decide +kernel
theorem dX5_has_12 : decode cX5_has 12 = .ok (.iconst 1, 1) := by decide +kernel
theorem dX5_has_13 : decode cX5_has 13 = .ok (.goto 4, 3) := by decide +kernel
theorem dX5_has_16 : decode cX5_has 16 = .ok (.iconst 0, 1) := by decide +kernel
theorem dX5_has_17 : decode cX5_has 17 = .ok (.ireturn, 1) := by decide +kernel
theorem dX5_isFull_0 : decode cX5_isFull 0 = .ok (.aload_n 0, 1) := by decide +kernel
theorem dX5_isFull_1 : decode cX5_isFull 1 = .ok (.getfield 24, 3) := by decide +kernel
theorem dX5_isFull_4 : decode cX5_isFull 4 = .ok (.aload_n 0, 1) := by decide +kernel
theorem dX5_isFull_5 : decode cX5_isFull 5 = .ok (.getfield 9, 3) := by decide +kernel
theorem dX5_isFull_8 : decode cX5_isFull 8 = .ok (.if_icmp .lt 7, 3) := by decide +kernel
theorem dX5_isFull_11 : decode cX5_isFull 11 = .ok (.iconst 1, 1) := by decide +kernel
theorem dX5_isFull_12 : decode cX5_isFull 12 = .ok (.goto 4, 3) := by decide +kernel
theorem dX5_isFull_15 : decode cX5_isFull 15 = .ok (.iconst 0, 1) := by decide +kernel
theorem dX5_isFull_16 : decode cX5_isFull 16 = .ok (.ireturn, 1) := by decide +kernel
theorem dX5_find_0 : decode cX5_find 0 = .ok (.iconst 0, 1) := by decide +kernel
theorem dX5_find_1 : decode cX5_find 1 = .ok (.istore_n 3, 1) := by decide +kernel
theorem dX5_find_2 : decode cX5_find 2 = .ok (.iload_n 3, 1) := by decide +kernel
theorem dX5_find_3 : decode cX5_find 3 = .ok (.aload_n 0, 1) := by decide +kernel
theorem dX5_find_4 : decode cX5_find 4 = .ok (.getfield 24, 3) := by decide +kernel
theorem dX5_find_7 : decode cX5_find 7 = .ok (.if_icmp .ge 22, 3) := by decide +kernel
theorem dX5_find_10 : decode cX5_find 10 = .ok (.aload_n 0, 1) := by decide +kernel
theorem dX5_find_11 : decode cX5_find 11 = .ok (.getfield 15, 3) := by decide +kernel
theorem dX5_find_14 : decode cX5_find 14 = .ok (.iload_n 3, 1) := by decide +kernel
theorem dX5_find_15 : decode cX5_find 15 = .ok (.laload, 1) := by decide +kernel
theorem dX5_find_16 : decode cX5_find 16 = .ok (.lload_n 1, 1) := by decide +kernel
theorem dX5_find_17 : decode cX5_find 17 = .ok (.lcmp, 1) := by decide +kernel
theorem dX5_find_18 : decode cX5_find 18 = .ok (.ifCond .ne 5, 3) := by decide +kernel
theorem dX5_find_21 : decode cX5_find 21 = .ok (.iload_n 3, 1) := by decide +kernel
theorem dX5_find_22 : decode cX5_find 22 = .ok (.ireturn, 1) := by decide +kernel
theorem dX5_find_23 : decode cX5_find 23 = .ok (.iinc 3 1, 3) := by decide +kernel
theorem dX5_find_26 : decode cX5_find 26 = .ok (.goto (-24), 3) := by decide +kernel
theorem dX5_find_29 : decode cX5_find 29 = .ok (.iconst (-1), 1) := by decide +kernel
theorem dX5_find_30 : decode cX5_find 30 = .ok (.ireturn, 1) := by decide +kernel
theorem dX6_init_0 : decode cX6_init 0 = .ok (.aload_n 0, 1) := by decide +kernel
theorem dX6_init_1 : decode cX6_init 1 = .ok (.invokespecial 3, 3) := by decide +kernel
theorem dX6_init_4 : decode cX6_init 4 = .ok (.aload_n 0, 1) := by decide +kernel
theorem dX6_init_5 : decode cX6_init 5 = .ok (.sipush 1700, 3) := by decide +kernel
theorem dX6_init_8 : decode cX6_init 8 = .ok (.newarray .byte, 2) := by decide +kernel
theorem dX6_init_10 : decode cX6_init 10 = .ok (.putfield 9, 3) := by decide +kernel
theorem dX6_init_13 : decode cX6_init 13 = .ok (.aload_n 0, 1) := by decide +kernel
theorem dX6_init_14 : decode cX6_init 14 = .ok (.iconst 0, 1) := by decide +kernel
theorem dX6_init_15 : decode cX6_init 15 = .ok (.putfield 15, 3) := by decide +kernel
theorem dX6_init_18 : decode cX6_init 18 = .ok (.return_, 1) := by decide +kernel
theorem dX6_hasRoom_0 : decode cX6_hasRoom 0 = .ok (.aload_n 0, 1) := by decide +kernel
theorem dX6_hasRoom_1 : decode cX6_hasRoom 1 = .ok (.getfield 15, 3) := by decide +kernel
theorem dX6_hasRoom_4 : decode cX6_hasRoom 4 = .ok (.iload_n 1, 1) := by decide +kernel
theorem dX6_hasRoom_5 : decode cX6_hasRoom 5 = .ok (.iadd, 1) := by decide +kernel
theorem dX6_hasRoom_6 : decode cX6_hasRoom 6 = .ok (.sipush 1700, 3) := by decide +kernel
theorem dX6_hasRoom_9 : decode cX6_hasRoom 9 = .ok (.if_icmp .gt 7, 3) := by decide +kernel
theorem dX6_hasRoom_12 : decode cX6_hasRoom 12 = .ok (.iconst 1, 1) := by decide +kernel
theorem dX6_hasRoom_13 : decode cX6_hasRoom 13 = .ok (.goto 4, 3) := by decide +kernel
theorem dX6_hasRoom_16 : decode cX6_hasRoom 16 = .ok (.iconst 0, 1) := by decide +kernel
theorem dX6_hasRoom_17 : decode cX6_hasRoom 17 = .ok (.ireturn, 1) := by decide +kernel
theorem dX6_put_0 : decode cX6_put 0 = .ok (.bipush 24, 2) := by decide +kernel
theorem dX6_put_2 : decode cX6_put 2 = .ok (.istore_n 2, 1) := by decide +kernel
theorem dX6_put_3 : decode cX6_put 3 = .ok (.iload_n 2, 1) := by decide +kernel
theorem dX6_put_4 : decode cX6_put 4 = .ok (.ifCond .lt 42, 3) := by decide +kernel
theorem dX6_put_7 : decode cX6_put 7 = .ok (.aload_n 0, 1) := by decide +kernel
theorem dX6_put_8 : decode cX6_put 8 = .ok (.getfield 15, 3) := by decide +kernel
theorem dX6_put_11 : decode cX6_put 11 = .ok (.sipush 1700, 3) := by decide +kernel
theorem dX6_put_14 : decode cX6_put 14 = .ok (.if_icmp .ge 26, 3) := by decide +kernel
theorem dX6_put_17 : decode cX6_put 17 = .ok (.aload_n 0, 1) := by decide +kernel
theorem dX6_put_18 : decode cX6_put 18 = .ok (.getfield 9, 3) := by decide +kernel
theorem dX6_put_21 : decode cX6_put 21 = .ok (.aload_n 0, 1) := by decide +kernel
theorem dX6_put_22 : decode cX6_put 22 = .ok (.getfield 15, 3) := by decide +kernel
theorem dX6_put_25 : decode cX6_put 25 = .ok (.iload_n 1, 1) := by decide +kernel
theorem dX6_put_26 : decode cX6_put 26 = .ok (.iload_n 2, 1) := by decide +kernel
theorem dX6_put_27 : decode cX6_put 27 = .ok (.iushr, 1) := by decide +kernel
theorem dX6_put_28 : decode cX6_put 28 = .ok (.i2b, 1) := by decide +kernel
theorem dX6_put_29 : decode cX6_put 29 = .ok (.bastore, 1) := by decide +kernel
theorem dX6_put_30 : decode cX6_put 30 = .ok (.aload_n 0, 1) := by decide +kernel
theorem dX6_put_31 : decode cX6_put 31 = .ok (.dup, 1) := by decide +kernel
theorem dX6_put_32 : decode cX6_put 32 = .ok (.getfield 15, 3) := by decide +kernel
theorem dX6_put_35 : decode cX6_put 35 = .ok (.iconst 1, 1) := by decide +kernel
theorem dX6_put_36 : decode cX6_put 36 = .ok (.iadd, 1) := by decide +kernel
theorem dX6_put_37 : decode cX6_put 37 = .ok (.putfield 15, 3) := by decide +kernel
theorem dX6_put_40 : decode cX6_put 40 = .ok (.iinc 2 (-8), 3) := by decide +kernel
theorem dX6_put_43 : decode cX6_put 43 = .ok (.goto (-40), 3) := by decide +kernel
theorem dX6_put_46 : decode cX6_put 46 = .ok (.return_, 1) := by decide +kernel
theorem dX6_signAt_0 : decode cX6_signAt 0 = .ok (.iload_n 1, 1) := by decide +kernel
theorem dX6_signAt_1 : decode cX6_signAt 1 = .ok (.ifCond .lt 20, 3) := by decide +kernel
theorem dX6_signAt_4 : decode cX6_signAt 4 = .ok (.iload_n 1, 1) := by decide +kernel
theorem dX6_signAt_5 : decode cX6_signAt 5 = .ok (.aload_n 0, 1) := by decide +kernel
theorem dX6_signAt_6 : decode cX6_signAt 6 = .ok (.getfield 15, 3) := by decide +kernel
theorem dX6_signAt_9 : decode cX6_signAt 9 = .ok (.if_icmp .ge 12, 3) := by decide +kernel
theorem dX6_signAt_12 : decode cX6_signAt 12 = .ok (.aload_n 0, 1) := by decide +kernel
theorem dX6_signAt_13 : decode cX6_signAt 13 = .ok (.getfield 9, 3) := by decide +kernel
theorem dX6_signAt_16 : decode cX6_signAt 16 = .ok (.iload_n 1, 1) := by decide +kernel
theorem dX6_signAt_17 : decode cX6_signAt 17 = .ok (.baload, 1) := by decide +kernel
theorem dX6_signAt_18 : decode cX6_signAt 18 = .ok (.goto 4, 3) := by decide +kernel
theorem dX6_signAt_21 : decode cX6_signAt 21 = .ok (.iconst 0, 1) := by decide +kernel
theorem dX6_signAt_22 : decode cX6_signAt 22 = .ok (.ireturn, 1) := by decide +kernel
theorem dX7_init_0 : decode cX7_init 0 = .ok (.aload_n 0, 1) := by decide +kernel
theorem dX7_init_1 : decode cX7_init 1 = .ok (.invokespecial 3, 3) := by decide +kernel
theorem dX7_init_4 : decode cX7_init 4 = .ok (.aload_n 0, 1) := by decide +kernel
theorem dX7_init_5 : decode cX7_init 5 = .ok (.bipush 14, 2) := by decide +kernel
theorem dX7_init_7 : decode cX7_init 7 = .ok (.newarray .long, 2) := by decide +kernel
theorem dX7_init_9 : decode cX7_init 9 = .ok (.dup, 1) := by decide +kernel
theorem dX7_init_10 : decode cX7_init 10 = .ok (.iconst 0, 1) := by decide +kernel
theorem dX7_init_11 : decode cX7_init 11 = .ok (.ldc 9, 2) := by decide +kernel
theorem dX7_init_13 : decode cX7_init 13 = .ok (.invokestatic 11, 3) := by decide +kernel
theorem dX7_init_16 : decode cX7_init 16 = .ok (.lastore, 1) := by decide +kernel
theorem dX7_init_17 : decode cX7_init 17 = .ok (.dup, 1) := by decide +kernel
theorem dX7_init_18 : decode cX7_init 18 = .ok (.iconst 1, 1) := by decide +kernel
theorem dX7_init_19 : decode cX7_init 19 = .ok (.ldc 17, 2) := by decide +kernel
theorem dX7_init_21 : decode cX7_init 21 = .ok (.invokestatic 11, 3) := by decide +kernel
theorem dX7_init_24 : decode cX7_init 24 = .ok (.lastore, 1) := by decide +kernel
theorem dX7_init_25 : decode cX7_init 25 = .ok (.dup, 1) := by decide +kernel
theorem dX7_init_26 : decode cX7_init 26 = .ok (.iconst 2, 1) := by decide +kernel
theorem dX7_init_27 : decode cX7_init 27 = .ok (.ldc 19, 2) := by decide +kernel
theorem dX7_init_29 : decode cX7_init 29 = .ok (.invokestatic 11, 3) := by decide +kernel
theorem dX7_init_32 : decode cX7_init 32 = .ok (.lastore, 1) := by decide +kernel
theorem dX7_init_33 : decode cX7_init 33 = .ok (.dup, 1) := by decide +kernel
theorem dX7_init_34 : decode cX7_init 34 = .ok (.iconst 3, 1) := by decide +kernel
theorem dX7_init_35 : decode cX7_init 35 = .ok (.ldc 21, 2) := by decide +kernel
theorem dX7_init_37 : decode cX7_init 37 = .ok (.invokestatic 11, 3) := by decide +kernel
theorem dX7_init_40 : decode cX7_init 40 = .ok (.lastore, 1) := by decide +kernel
theorem dX7_init_41 : decode cX7_init 41 = .ok (.dup, 1) := by decide +kernel
theorem dX7_init_42 : decode cX7_init 42 = .ok (.iconst 4, 1) := by decide +kernel
theorem dX7_init_43 : decode cX7_init 43 = .ok (.ldc 23, 2) := by decide +kernel
theorem dX7_init_45 : decode cX7_init 45 = .ok (.invokestatic 11, 3) := by decide +kernel
theorem dX7_init_48 : decode cX7_init 48 = .ok (.lastore, 1) := by decide +kernel
theorem dX7_init_49 : decode cX7_init 49 = .ok (.dup, 1) := by decide +kernel
theorem dX7_init_50 : decode cX7_init 50 = .ok (.iconst 5, 1) := by decide +kernel
theorem dX7_init_51 : decode cX7_init 51 = .ok (.ldc 25, 2) := by decide +kernel
theorem dX7_init_53 : decode cX7_init 53 = .ok (.invokestatic 11, 3) := by decide +kernel
theorem dX7_init_56 : decode cX7_init 56 = .ok (.lastore, 1) := by decide +kernel
theorem dX7_init_57 : decode cX7_init 57 = .ok (.dup, 1) := by decide +kernel
theorem dX7_init_58 : decode cX7_init 58 = .ok (.bipush 6, 2) := by decide +kernel
theorem dX7_init_60 : decode cX7_init 60 = .ok (.ldc 27, 2) := by decide +kernel
theorem dX7_init_62 : decode cX7_init 62 = .ok (.invokestatic 11, 3) := by decide +kernel
theorem dX7_init_65 : decode cX7_init 65 = .ok (.lastore, 1) := by decide +kernel
theorem dX7_init_66 : decode cX7_init 66 = .ok (.dup, 1) := by decide +kernel
theorem dX7_init_67 : decode cX7_init 67 = .ok (.bipush 7, 2) := by decide +kernel
theorem dX7_init_69 : decode cX7_init 69 = .ok (.ldc 29, 2) := by decide +kernel
theorem dX7_init_71 : decode cX7_init 71 = .ok (.invokestatic 11, 3) := by decide +kernel
theorem dX7_init_74 : decode cX7_init 74 = .ok (.lastore, 1) := by decide +kernel
theorem dX7_init_75 : decode cX7_init 75 = .ok (.dup, 1) := by decide +kernel
theorem dX7_init_76 : decode cX7_init 76 = .ok (.bipush 8, 2) := by decide +kernel
theorem dX7_init_78 : decode cX7_init 78 = .ok (.ldc 31, 2) := by decide +kernel
theorem dX7_init_80 : decode cX7_init 80 = .ok (.invokestatic 11, 3) := by decide +kernel
theorem dX7_init_83 : decode cX7_init 83 = .ok (.lastore, 1) := by decide +kernel
theorem dX7_init_84 : decode cX7_init 84 = .ok (.dup, 1) := by decide +kernel
theorem dX7_init_85 : decode cX7_init 85 = .ok (.bipush 9, 2) := by decide +kernel
theorem dX7_init_87 : decode cX7_init 87 = .ok (.ldc 33, 2) := by decide +kernel
theorem dX7_init_89 : decode cX7_init 89 = .ok (.invokestatic 11, 3) := by decide +kernel
theorem dX7_init_92 : decode cX7_init 92 = .ok (.lastore, 1) := by decide +kernel
theorem dX7_init_93 : decode cX7_init 93 = .ok (.dup, 1) := by decide +kernel
theorem dX7_init_94 : decode cX7_init 94 = .ok (.bipush 10, 2) := by decide +kernel
theorem dX7_init_96 : decode cX7_init 96 = .ok (.ldc 35, 2) := by decide +kernel
theorem dX7_init_98 : decode cX7_init 98 = .ok (.invokestatic 11, 3) := by decide +kernel
theorem dX7_init_101 : decode cX7_init 101 = .ok (.lastore, 1) := by decide +kernel
theorem dX7_init_102 : decode cX7_init 102 = .ok (.dup, 1) := by decide +kernel
theorem dX7_init_103 : decode cX7_init 103 = .ok (.bipush 11, 2) := by decide +kernel
theorem dX7_init_105 : decode cX7_init 105 = .ok (.ldc 37, 2) := by decide +kernel
theorem dX7_init_107 : decode cX7_init 107 = .ok (.invokestatic 11, 3) := by decide +kernel
theorem dX7_init_110 : decode cX7_init 110 = .ok (.lastore, 1) := by decide +kernel
theorem dX7_init_111 : decode cX7_init 111 = .ok (.dup, 1) := by decide +kernel
theorem dX7_init_112 : decode cX7_init 112 = .ok (.bipush 12, 2) := by decide +kernel
theorem dX7_init_114 : decode cX7_init 114 = .ok (.ldc 39, 2) := by decide +kernel
theorem dX7_init_116 : decode cX7_init 116 = .ok (.invokestatic 11, 3) := by decide +kernel
theorem dX7_init_119 : decode cX7_init 119 = .ok (.lastore, 1) := by decide +kernel
theorem dX7_init_120 : decode cX7_init 120 = .ok (.dup, 1) := by decide +kernel
theorem dX7_init_121 : decode cX7_init 121 = .ok (.bipush 13, 2) := by decide +kernel
theorem dX7_init_123 : decode cX7_init 123 = .ok (.ldc 41, 2) := by decide +kernel
theorem dX7_init_125 : decode cX7_init 125 = .ok (.invokestatic 11, 3) := by decide +kernel
theorem dX7_init_128 : decode cX7_init 128 = .ok (.lastore, 1) := by decide +kernel
theorem dX7_init_129 : decode cX7_init 129 = .ok (.putfield 43, 3) := by decide +kernel
theorem dX7_init_132 : decode cX7_init 132 = .ok (.aload_n 0, 1) := by decide +kernel
theorem dX7_init_133 : decode cX7_init 133 = .ok (.sipush 1701, 3) := by decide +kernel
theorem dX7_init_136 : decode cX7_init 136 = .ok (.newarray .int, 2) := by decide +kernel
theorem dX7_init_138 : decode cX7_init 138 = .ok (.putfield 47, 3) := by decide +kernel
theorem dX7_init_141 : decode cX7_init 141 = .ok (.aload_n 0, 1) := by decide +kernel
theorem dX7_init_142 : decode cX7_init 142 = .ok (.sipush 1701, 3) := by decide +kernel
theorem dX7_init_145 : decode cX7_init 145 = .ok (.newarray .int, 2) := by decide +kernel
theorem dX7_init_147 : decode cX7_init 147 = .ok (.putfield 51, 3) := by decide +kernel
theorem dX7_init_150 : decode cX7_init 150 = .ok (.aload_n 0, 1) := by decide +kernel
theorem dX7_init_151 : decode cX7_init 151 = .ok (.sipush 1701, 3) := by decide +kernel
theorem dX7_init_154 : decode cX7_init 154 = .ok (.newarray .long, 2) := by decide +kernel
theorem dX7_init_156 : decode cX7_init 156 = .ok (.putfield 54, 3) := by decide +kernel
theorem dX7_init_159 : decode cX7_init 159 = .ok (.aload_n 0, 1) := by decide +kernel
theorem dX7_init_160 : decode cX7_init 160 = .ok (.iconst 0, 1) := by decide +kernel
theorem dX7_init_161 : decode cX7_init 161 = .ok (.putfield 57, 3) := by decide +kernel
theorem dX7_init_164 : decode cX7_init 164 = .ok (.return_, 1) := by decide +kernel
theorem dX7_pack_0 : decode cX7_pack 0 = .ok (.lconst 0, 1) := by decide +kernel
theorem dX7_pack_1 : decode cX7_pack 1 = .ok (.lstore_n 1, 1) := by decide +kernel
theorem dX7_pack_2 : decode cX7_pack 2 = .ok (.iconst 0, 1) := by decide +kernel
theorem dX7_pack_3 : decode cX7_pack 3 = .ok (.istore_n 3, 1) := by decide +kernel
theorem dX7_pack_4 : decode cX7_pack 4 = .ok (.iload_n 3, 1) := by decide +kernel
theorem dX7_pack_5 : decode cX7_pack 5 = .ok (.aload_n 0, 1) := by decide +kernel
theorem dX7_pack_6 : decode cX7_pack 6 = .ok (.invokevirtual 61, 3) := by decide +kernel
theorem dX7_pack_9 : decode cX7_pack 9 = .ok (.if_icmp .ge 19, 3) := by decide +kernel
theorem dX7_pack_12 : decode cX7_pack 12 = .ok (.lload_n 1, 1) := by decide +kernel
theorem dX7_pack_13 : decode cX7_pack 13 = .ok (.aload_n 0, 1) := by decide +kernel
theorem dX7_pack_14 : decode cX7_pack 14 = .ok (.iload_n 3, 1) := by decide +kernel
theorem dX7_pack_15 : decode cX7_pack 15 = .ok (.invokevirtual 67, 3) := by decide +kernel
theorem dX7_pack_18 : decode cX7_pack 18 = .ok (.invokestatic 71, 3) := by decide +kernel
theorem dX7_pack_21 : decode cX7_pack 21 = .ok (.lstore_n 1, 1) := by decide +kernel
theorem dX7_pack_22 : decode cX7_pack 22 = .ok (.iinc 3 1, 3) := by decide +kernel
theorem dX7_pack_25 : decode cX7_pack 25 = .ok (.goto (-21), 3) := by decide +kernel
theorem dX7_pack_28 : decode cX7_pack 28 = .ok (.lload_n 1, 1) := by decide +kernel
theorem dX7_pack_29 : decode cX7_pack 29 = .ok (.lreturn, 1) := by decide +kernel
theorem dX7_addLetter_0 : decode cX7_addLetter 0 = .ok (.lload_n 0, 1) := by decide +kernel
theorem dX7_addLetter_1 : decode cX7_addLetter 1 = .ok (.iconst 5, 1) := by decide +kernel
theorem dX7_addLetter_2 : decode cX7_addLetter 2 = .ok (.lshl, 1) := by decide +kernel
theorem dX7_addLetter_3 : decode cX7_addLetter 3 = .ok (.iload_n 2, 1) := by decide +kernel
theorem dX7_addLetter_4 : decode cX7_addLetter 4 = .ok (.bipush 97, 2) := by decide +kernel
theorem dX7_addLetter_6 : decode cX7_addLetter 6 = .ok (.isub, 1) := by decide +kernel
theorem dX7_addLetter_7 : decode cX7_addLetter 7 = .ok (.iconst 1, 1) := by decide +kernel
theorem dX7_addLetter_8 : decode cX7_addLetter 8 = .ok (.iadd, 1) := by decide +kernel
theorem dX7_addLetter_9 : decode cX7_addLetter 9 = .ok (.i2l, 1) := by decide +kernel
theorem dX7_addLetter_10 : decode cX7_addLetter 10 = .ok (.lor, 1) := by decide +kernel
theorem dX7_addLetter_11 : decode cX7_addLetter 11 = .ok (.lreturn, 1) := by decide +kernel
theorem dX7_isLetter_0 : decode cX7_isLetter 0 = .ok (.iload_n 0, 1) := by decide +kernel
theorem dX7_isLetter_1 : decode cX7_isLetter 1 = .ok (.bipush 97, 2) := by decide +kernel
theorem dX7_isLetter_3 : decode cX7_isLetter 3 = .ok (.if_icmp .lt 13, 3) := by decide +kernel
theorem dX7_isLetter_6 : decode cX7_isLetter 6 = .ok (.iload_n 0, 1) := by decide +kernel
theorem dX7_isLetter_7 : decode cX7_isLetter 7 = .ok (.bipush 122, 2) := by decide +kernel
theorem dX7_isLetter_9 : decode cX7_isLetter 9 = .ok (.if_icmp .gt 7, 3) := by decide +kernel
theorem dX7_isLetter_12 : decode cX7_isLetter 12 = .ok (.iconst 1, 1) := by decide +kernel
theorem dX7_isLetter_13 : decode cX7_isLetter 13 = .ok (.goto 4, 3) := by decide +kernel
theorem dX7_isLetter_16 : decode cX7_isLetter 16 = .ok (.iconst 0, 1) := by decide +kernel
theorem dX7_isLetter_17 : decode cX7_isLetter 17 = .ok (.ireturn, 1) := by decide +kernel
theorem dX7_isDigit_0 : decode cX7_isDigit 0 = .ok (.iload_n 0, 1) := by decide +kernel
theorem dX7_isDigit_1 : decode cX7_isDigit 1 = .ok (.bipush 48, 2) := by decide +kernel
theorem dX7_isDigit_3 : decode cX7_isDigit 3 = .ok (.if_icmp .lt 13, 3) := by decide +kernel
theorem dX7_isDigit_6 : decode cX7_isDigit 6 = .ok (.iload_n 0, 1) := by decide +kernel
theorem dX7_isDigit_7 : decode cX7_isDigit 7 = .ok (.bipush 57, 2) := by decide +kernel
theorem dX7_isDigit_9 : decode cX7_isDigit 9 = .ok (.if_icmp .gt 7, 3) := by decide +kernel
theorem dX7_isDigit_12 : decode cX7_isDigit 12 = .ok (.iconst 1, 1) := by decide +kernel
theorem dX7_isDigit_13 : decode cX7_isDigit 13 = .ok (.goto 4, 3) := by decide +kernel
theorem dX7_isDigit_16 : decode cX7_isDigit 16 = .ok (.iconst 0, 1) := by decide +kernel
theorem dX7_isDigit_17 : decode cX7_isDigit 17 = .ok (.ireturn, 1) := by decide +kernel
theorem dX7_isBlank_0 : decode cX7_isBlank 0 = .ok (.iload_n 0, 1) := by decide +kernel
theorem dX7_isBlank_1 : decode cX7_isBlank 1 = .ok (.bipush 32, 2) := by decide +kernel
theorem dX7_isBlank_3 : decode cX7_isBlank 3 = .ok (.if_icmp .eq 9, 3) := by decide +kernel
theorem dX7_isBlank_6 : decode cX7_isBlank 6 = .ok (.iload_n 0, 1) := by decide +kernel
theorem dX7_isBlank_7 : decode cX7_isBlank 7 = .ok (.bipush 10, 2) := by decide +kernel
theorem dX7_isBlank_9 : decode cX7_isBlank 9 = .ok (.if_icmp .ne 7, 3) := by decide +kernel
theorem dX7_isBlank_12 : decode cX7_isBlank 12 = .ok (.iconst 1, 1) := by decide +kernel
theorem dX7_isBlank_13 : decode cX7_isBlank 13 = .ok (.goto 4, 3) := by decide +kernel
theorem dX7_isBlank_16 : decode cX7_isBlank 16 = .ok (.iconst 0, 1) := by decide +kernel
theorem dX7_isBlank_17 : decode cX7_isBlank 17 = .ok (.ireturn, 1) := by decide +kernel
theorem dX7_scan_0 : decode cX7_scan 0 = .ok (.aload_n 0, 1) := by decide +kernel
theorem dX7_scan_1 : decode cX7_scan 1 = .ok (.iconst 0, 1) := by decide +kernel
theorem dX7_scan_2 : decode cX7_scan 2 = .ok (.putfield 57, 3) := by decide +kernel
theorem dX7_scan_5 : decode cX7_scan 5 = .ok (.aload_n 0, 1) := by decide +kernel
theorem dX7_scan_6 : decode cX7_scan 6 = .ok (.iconst 0, 1) := by decide +kernel
theorem dX7_scan_7 : decode cX7_scan 7 = .ok (.putfield 75, 3) := by decide +kernel
theorem dX7_scan_10 : decode cX7_scan 10 = .ok (.iconst 3, 1) := by decide +kernel
theorem dX7_scan_11 : decode cX7_scan 11 = .ok (.istore_n 2, 1) := by decide +kernel
theorem dX7_scan_12 : decode cX7_scan 12 = .ok (.iconst 0, 1) := by decide +kernel
theorem dX7_scan_13 : decode cX7_scan 13 = .ok (.istore_n 3, 1) := by decide +kernel
theorem dX7_scan_14 : decode cX7_scan 14 = .ok (.iload_n 3, 1) := by decide +kernel
theorem dX7_scan_15 : decode cX7_scan 15 = .ok (.sipush 1701, 3) := by decide +kernel
theorem dX7_scan_18 : decode cX7_scan 18 = .ok (.if_icmp .ge 90, 3) := by decide +kernel
theorem dX7_scan_21 : decode cX7_scan 21 = .ok (.iload_n 2, 1) := by decide +kernel
theorem dX7_scan_22 : decode cX7_scan 22 = .ok (.ifCond .eq 86, 3) := by decide +kernel
theorem dX7_scan_25 : decode cX7_scan 25 = .ok (.iload_n 2, 1) := by decide +kernel
theorem dX7_scan_26 : decode cX7_scan 26 = .ok (.iconst 1, 1) := by decide +kernel
theorem dX7_scan_27 : decode cX7_scan 27 = .ok (.if_icmp .eq 81, 3) := by decide +kernel
theorem dX7_scan_30 : decode cX7_scan 30 = .ok (.aload_n 0, 1) := by decide +kernel
theorem dX7_scan_31 : decode cX7_scan 31 = .ok (.getfield 75, 3) := by decide +kernel
theorem dX7_scan_34 : decode cX7_scan 34 = .ok (.aload_n 1, 1) := by decide +kernel
theorem dX7_scan_35 : decode cX7_scan 35 = .ok (.getfield 78, 3) := by decide +kernel
theorem dX7_scan_38 : decode cX7_scan 38 = .ok (.if_icmp .ge 30, 3) := by decide +kernel
theorem dX7_scan_41 : decode cX7_scan 41 = .ok (.aload_n 1, 1) := by decide +kernel
theorem dX7_scan_42 : decode cX7_scan 42 = .ok (.aload_n 0, 1) := by decide +kernel
theorem dX7_scan_43 : decode cX7_scan 43 = .ok (.getfield 75, 3) := by decide +kernel
theorem dX7_scan_46 : decode cX7_scan 46 = .ok (.invokevirtual 82, 3) := by decide +kernel
theorem dX7_scan_49 : decode cX7_scan 49 = .ok (.invokestatic 86, 3) := by decide +kernel
theorem dX7_scan_52 : decode cX7_scan 52 = .ok (.ifCond .eq 16, 3) := by decide +kernel
theorem dX7_scan_55 : decode cX7_scan 55 = .ok (.aload_n 0, 1) := by decide +kernel
theorem dX7_scan_56 : decode cX7_scan 56 = .ok (.dup, 1) := by decide +kernel
theorem dX7_scan_57 : decode cX7_scan 57 = .ok (.getfield 75, 3) := by decide +kernel
theorem dX7_scan_60 : decode cX7_scan 60 = .ok (.iconst 1, 1) := by decide +kernel
theorem dX7_scan_61 : decode cX7_scan 61 = .ok (.iadd, 1) := by decide +kernel
theorem dX7_scan_62 : decode cX7_scan 62 = .ok (.putfield 75, 3) := by decide +kernel
theorem dX7_scan_65 : decode cX7_scan 65 = .ok (.goto (-35), 3) := by decide +kernel
theorem dX7_scan_68 : decode cX7_scan 68 = .ok (.aload_n 0, 1) := by decide +kernel
theorem dX7_scan_69 : decode cX7_scan 69 = .ok (.getfield 51, 3) := by decide +kernel
theorem dX7_scan_72 : decode cX7_scan 72 = .ok (.iload_n 3, 1) := by decide +kernel
theorem dX7_scan_73 : decode cX7_scan 73 = .ok (.aload_n 0, 1) := by decide +kernel
theorem dX7_scan_74 : decode cX7_scan 74 = .ok (.getfield 75, 3) := by decide +kernel
theorem dX7_scan_77 : decode cX7_scan 77 = .ok (.iastore, 1) := by decide +kernel
theorem dX7_scan_78 : decode cX7_scan 78 = .ok (.aload_n 0, 1) := by decide +kernel
theorem dX7_scan_79 : decode cX7_scan 79 = .ok (.aload_n 1, 1) := by decide +kernel
theorem dX7_scan_80 : decode cX7_scan 80 = .ok (.iload_n 3, 1) := by decide +kernel
theorem dX7_scan_81 : decode cX7_scan 81 = .ok (.invokevirtual 90, 3) := by decide +kernel
theorem dX7_scan_84 : decode cX7_scan 84 = .ok (.istore_n 2, 1) := by decide +kernel
theorem dX7_scan_85 : decode cX7_scan 85 = .ok (.aload_n 0, 1) := by decide +kernel
theorem dX7_scan_86 : decode cX7_scan 86 = .ok (.getfield 47, 3) := by decide +kernel
theorem dX7_scan_89 : decode cX7_scan 89 = .ok (.iload_n 3, 1) := by decide +kernel
theorem dX7_scan_90 : decode cX7_scan 90 = .ok (.iload_n 2, 1) := by decide +kernel
theorem dX7_scan_91 : decode cX7_scan 91 = .ok (.iastore, 1) := by decide +kernel
theorem dX7_scan_92 : decode cX7_scan 92 = .ok (.aload_n 0, 1) := by decide +kernel
theorem dX7_scan_93 : decode cX7_scan 93 = .ok (.dup, 1) := by decide +kernel
theorem dX7_scan_94 : decode cX7_scan 94 = .ok (.getfield 57, 3) := by decide +kernel
theorem dX7_scan_97 : decode cX7_scan 97 = .ok (.iconst 1, 1) := by decide +kernel
theorem dX7_scan_98 : decode cX7_scan 98 = .ok (.iadd, 1) := by decide +kernel
theorem dX7_scan_99 : decode cX7_scan 99 = .ok (.putfield 57, 3) := by decide +kernel
theorem dX7_scan_102 : decode cX7_scan 102 = .ok (.iinc 3 1, 3) := by decide +kernel
theorem dX7_scan_105 : decode cX7_scan 105 = .ok (.goto (-91), 3) := by decide +kernel
theorem dX7_scan_108 : decode cX7_scan 108 = .ok (.return_, 1) := by decide +kernel
theorem dX7_readToken_0 : decode cX7_readToken 0 = .ok (.aload_n 1, 1) := by decide +kernel
theorem dX7_readToken_1 : decode cX7_readToken 1 = .ok (.aload_n 0, 1) := by decide +kernel
theorem dX7_readToken_2 : decode cX7_readToken 2 = .ok (.getfield 75, 3) := by decide +kernel
theorem dX7_readToken_5 : decode cX7_readToken 5 = .ok (.invokevirtual 82, 3) := by decide +kernel
theorem dX7_readToken_8 : decode cX7_readToken 8 = .ok (.istore_n 3, 1) := by decide +kernel
theorem dX7_readToken_9 : decode cX7_readToken 9 = .ok (.aload_n 0, 1) := by decide +kernel
theorem dX7_readToken_10 : decode cX7_readToken 10 = .ok (.getfield 75, 3) := by decide +kernel
theorem dX7_readToken_13 : decode cX7_readToken 13 = .ok (.aload_n 1, 1) := by decide +kernel
theorem dX7_readToken_14 : decode cX7_readToken 14 = .ok (.getfield 78, 3) := by decide +kernel
theorem dX7_readToken_17 : decode cX7_readToken 17 = .ok (.if_icmp .lt 5, 3) := by decide +kernel
theorem dX7_readToken_20 : decode cX7_readToken 20 = .ok (.iconst 0, 1) := by decide +kernel
theorem dX7_readToken_21 : decode cX7_readToken 21 = .ok (.ireturn, 1) := by decide +kernel
theorem dX7_readToken_22 : decode cX7_readToken 22 = .ok (.iload_n 3, 1) := by decide +kernel
theorem dX7_readToken_23 : decode cX7_readToken 23 = .ok (.invokestatic 94, 3) := by decide +kernel
theorem dX7_readToken_26 : decode cX7_readToken 26 = .ok (.ifCond .eq 10, 3) := by decide +kernel
theorem dX7_readToken_29 : decode cX7_readToken 29 = .ok (.aload_n 0, 1) := by decide +kernel
theorem dX7_readToken_30 : decode cX7_readToken 30 = .ok (.aload_n 1, 1) := by decide +kernel
theorem dX7_readToken_31 : decode cX7_readToken 31 = .ok (.iload_n 2, 1) := by decide +kernel
theorem dX7_readToken_32 : decode cX7_readToken 32 = .ok (.invokevirtual 97, 3) := by decide +kernel
theorem dX7_readToken_35 : decode cX7_readToken 35 = .ok (.ireturn, 1) := by decide +kernel
theorem dX7_readToken_36 : decode cX7_readToken 36 = .ok (.iload_n 3, 1) := by decide +kernel
theorem dX7_readToken_37 : decode cX7_readToken 37 = .ok (.invokestatic 100, 3) := by decide +kernel
theorem dX7_readToken_40 : decode cX7_readToken 40 = .ok (.ifCond .eq 10, 3) := by decide +kernel
theorem dX7_readToken_43 : decode cX7_readToken 43 = .ok (.aload_n 0, 1) := by decide +kernel
theorem dX7_readToken_44 : decode cX7_readToken 44 = .ok (.aload_n 1, 1) := by decide +kernel
theorem dX7_readToken_45 : decode cX7_readToken 45 = .ok (.iload_n 2, 1) := by decide +kernel
theorem dX7_readToken_46 : decode cX7_readToken 46 = .ok (.invokevirtual 103, 3) := by decide +kernel
theorem dX7_readToken_49 : decode cX7_readToken 49 = .ok (.ireturn, 1) := by decide +kernel
theorem dX7_readToken_50 : decode cX7_readToken 50 = .ok (.aload_n 0, 1) := by decide +kernel
theorem dX7_readToken_51 : decode cX7_readToken 51 = .ok (.dup, 1) := by decide +kernel
theorem dX7_readToken_52 : decode cX7_readToken 52 = .ok (.getfield 75, 3) := by decide +kernel
theorem dX7_readToken_55 : decode cX7_readToken 55 = .ok (.iconst 1, 1) := by decide +kernel
theorem dX7_readToken_56 : decode cX7_readToken 56 = .ok (.iadd, 1) := by decide +kernel
theorem dX7_readToken_57 : decode cX7_readToken 57 = .ok (.putfield 75, 3) := by decide +kernel
theorem dX7_readToken_60 : decode cX7_readToken 60 = .ok (.iload_n 3, 1) := by decide +kernel
theorem dX7_readToken_61 : decode cX7_readToken 61 = .ok (.bipush 59, 2) := by decide +kernel
theorem dX7_readToken_63 : decode cX7_readToken 63 = .ok (.if_icmp .ne 7, 3) := by decide +kernel
theorem dX7_readToken_66 : decode cX7_readToken 66 = .ok (.iconst 3, 1) := by decide +kernel
theorem dX7_readToken_67 : decode cX7_readToken 67 = .ok (.goto 4, 3) := by decide +kernel
theorem dX7_readToken_70 : decode cX7_readToken 70 = .ok (.iconst 1, 1) := by decide +kernel
theorem dX7_readToken_71 : decode cX7_readToken 71 = .ok (.ireturn, 1) := by decide +kernel
theorem dX7_readWord_0 : decode cX7_readWord 0 = .ok (.aload_n 0, 1) := by decide +kernel
theorem dX7_readWord_1 : decode cX7_readWord 1 = .ok (.getfield 75, 3) := by decide +kernel
theorem dX7_readWord_4 : decode cX7_readWord 4 = .ok (.istore_n 3, 1) := by decide +kernel
theorem dX7_readWord_5 : decode cX7_readWord 5 = .ok (.lconst 0, 1) := by decide +kernel
theorem dX7_readWord_6 : decode cX7_readWord 6 = .ok (.lstore 4, 2) := by decide +kernel
theorem dX7_readWord_8 : decode cX7_readWord 8 = .ok (.aload_n 0, 1) := by decide +kernel
theorem dX7_readWord_9 : decode cX7_readWord 9 = .ok (.getfield 75, 3) := by decide +kernel
theorem dX7_readWord_12 : decode cX7_readWord 12 = .ok (.aload_n 1, 1) := by decide +kernel
theorem dX7_readWord_13 : decode cX7_readWord 13 = .ok (.getfield 78, 3) := by decide +kernel
theorem dX7_readWord_16 : decode cX7_readWord 16 = .ok (.if_icmp .ge 45, 3) := by decide +kernel
theorem dX7_readWord_19 : decode cX7_readWord 19 = .ok (.aload_n 1, 1) := by decide +kernel
theorem dX7_readWord_20 : decode cX7_readWord 20 = .ok (.aload_n 0, 1) := by decide +kernel
theorem dX7_readWord_21 : decode cX7_readWord 21 = .ok (.getfield 75, 3) := by decide +kernel
theorem dX7_readWord_24 : decode cX7_readWord 24 = .ok (.invokevirtual 82, 3) := by decide +kernel
theorem dX7_readWord_27 : decode cX7_readWord 27 = .ok (.invokestatic 94, 3) := by decide +kernel
theorem dX7_readWord_30 : decode cX7_readWord 30 = .ok (.ifCond .eq 31, 3) := by decide +kernel
theorem dX7_readWord_33 : decode cX7_readWord 33 = .ok (.lload 4, 2) := by decide +kernel
theorem dX7_readWord_35 : decode cX7_readWord 35 = .ok (.aload_n 1, 1) := by decide +kernel
theorem dX7_readWord_36 : decode cX7_readWord 36 = .ok (.aload_n 0, 1) := by decide +kernel
theorem dX7_readWord_37 : decode cX7_readWord 37 = .ok (.getfield 75, 3) := by decide +kernel
theorem dX7_readWord_40 : decode cX7_readWord 40 = .ok (.invokevirtual 82, 3) := by decide +kernel
theorem dX7_readWord_43 : decode cX7_readWord 43 = .ok (.invokestatic 71, 3) := by decide +kernel
theorem dX7_readWord_46 : decode cX7_readWord 46 = .ok (.lstore 4, 2) := by decide +kernel
theorem dX7_readWord_48 : decode cX7_readWord 48 = .ok (.aload_n 0, 1) := by decide +kernel
theorem dX7_readWord_49 : decode cX7_readWord 49 = .ok (.dup, 1) := by decide +kernel
theorem dX7_readWord_50 : decode cX7_readWord 50 = .ok (.getfield 75, 3) := by decide +kernel
theorem dX7_readWord_53 : decode cX7_readWord 53 = .ok (.iconst 1, 1) := by decide +kernel
theorem dX7_readWord_54 : decode cX7_readWord 54 = .ok (.iadd, 1) := by decide +kernel
theorem dX7_readWord_55 : decode cX7_readWord 55 = .ok (.putfield 75, 3) := by decide +kernel
theorem dX7_readWord_58 : decode cX7_readWord 58 = .ok (.goto (-50), 3) := by decide +kernel
theorem dX7_readWord_61 : decode cX7_readWord 61 = .ok (.aload_n 0, 1) := by decide +kernel
theorem dX7_readWord_62 : decode cX7_readWord 62 = .ok (.getfield 54, 3) := by decide +kernel
theorem dX7_readWord_65 : decode cX7_readWord 65 = .ok (.iload_n 2, 1) := by decide +kernel
theorem dX7_readWord_66 : decode cX7_readWord 66 = .ok (.lload 4, 2) := by decide +kernel
theorem dX7_readWord_68 : decode cX7_readWord 68 = .ok (.lastore, 1) := by decide +kernel
theorem dX7_readWord_69 : decode cX7_readWord 69 = .ok (.aload_n 0, 1) := by decide +kernel
theorem dX7_readWord_70 : decode cX7_readWord 70 = .ok (.getfield 75, 3) := by decide +kernel
theorem dX7_readWord_73 : decode cX7_readWord 73 = .ok (.iload_n 3, 1) := by decide +kernel
theorem dX7_readWord_74 : decode cX7_readWord 74 = .ok (.isub, 1) := by decide +kernel
theorem dX7_readWord_75 : decode cX7_readWord 75 = .ok (.bipush 8, 2) := by decide +kernel
theorem dX7_readWord_77 : decode cX7_readWord 77 = .ok (.if_icmp .gt 12, 3) := by decide +kernel
theorem dX7_readWord_80 : decode cX7_readWord 80 = .ok (.aload_n 0, 1) := by decide +kernel
theorem dX7_readWord_81 : decode cX7_readWord 81 = .ok (.lload 4, 2) := by decide +kernel
theorem dX7_readWord_83 : decode cX7_readWord 83 = .ok (.invokevirtual 106, 3) := by decide +kernel
theorem dX7_readWord_86 : decode cX7_readWord 86 = .ok (.goto 4, 3) := by decide +kernel
theorem dX7_readWord_89 : decode cX7_readWord 89 = .ok (.iconst 1, 1) := by decide +kernel
theorem dX7_readWord_90 : decode cX7_readWord 90 = .ok (.ireturn, 1) := by decide +kernel
theorem dX7_kindOf_0 : decode cX7_kindOf 0 = .ok (.iconst 0, 1) := by decide +kernel
theorem dX7_kindOf_1 : decode cX7_kindOf 1 = .ok (.istore_n 3, 1) := by decide +kernel
theorem dX7_kindOf_2 : decode cX7_kindOf 2 = .ok (.iload_n 3, 1) := by decide +kernel
theorem dX7_kindOf_3 : decode cX7_kindOf 3 = .ok (.aload_n 0, 1) := by decide +kernel
theorem dX7_kindOf_4 : decode cX7_kindOf 4 = .ok (.getfield 43, 3) := by decide +kernel
theorem dX7_kindOf_7 : decode cX7_kindOf 7 = .ok (.arraylength, 1) := by decide +kernel
theorem dX7_kindOf_8 : decode cX7_kindOf 8 = .ok (.if_icmp .ge 24, 3) := by decide +kernel
theorem dX7_kindOf_11 : decode cX7_kindOf 11 = .ok (.aload_n 0, 1) := by decide +kernel
theorem dX7_kindOf_12 : decode cX7_kindOf 12 = .ok (.getfield 43, 3) := by decide +kernel
theorem dX7_kindOf_15 : decode cX7_kindOf 15 = .ok (.iload_n 3, 1) := by decide +kernel
theorem dX7_kindOf_16 : decode cX7_kindOf 16 = .ok (.laload, 1) := by decide +kernel
theorem dX7_kindOf_17 : decode cX7_kindOf 17 = .ok (.lload_n 1, 1) := by decide +kernel
theorem dX7_kindOf_18 : decode cX7_kindOf 18 = .ok (.lcmp, 1) := by decide +kernel
theorem dX7_kindOf_19 : decode cX7_kindOf 19 = .ok (.ifCond .ne 7, 3) := by decide +kernel
theorem dX7_kindOf_22 : decode cX7_kindOf 22 = .ok (.iconst 5, 1) := by decide +kernel
theorem dX7_kindOf_23 : decode cX7_kindOf 23 = .ok (.iload_n 3, 1) := by decide +kernel
theorem dX7_kindOf_24 : decode cX7_kindOf 24 = .ok (.iadd, 1) := by decide +kernel
theorem dX7_kindOf_25 : decode cX7_kindOf 25 = .ok (.ireturn, 1) := by decide +kernel
theorem dX7_kindOf_26 : decode cX7_kindOf 26 = .ok (.iinc 3 1, 3) := by decide +kernel
theorem dX7_kindOf_29 : decode cX7_kindOf 29 = .ok (.goto (-27), 3) := by decide +kernel
theorem dX7_kindOf_32 : decode cX7_kindOf 32 = .ok (.iconst 4, 1) := by decide +kernel
theorem dX7_kindOf_33 : decode cX7_kindOf 33 = .ok (.ireturn, 1) := by decide +kernel
theorem dX7_readNumber_0 : decode cX7_readNumber 0 = .ok (.aload_n 0, 1) := by decide +kernel
theorem dX7_readNumber_1 : decode cX7_readNumber 1 = .ok (.getfield 75, 3) := by decide +kernel
theorem dX7_readNumber_4 : decode cX7_readNumber 4 = .ok (.istore_n 3, 1) := by decide +kernel
theorem dX7_readNumber_5 : decode cX7_readNumber 5 = .ok (.lconst 0, 1) := by decide +kernel
theorem dX7_readNumber_6 : decode cX7_readNumber 6 = .ok (.lstore 4, 2) := by decide +kernel
theorem dX7_readNumber_8 : decode cX7_readNumber 8 = .ok (.aload_n 0, 1) := by decide +kernel
theorem dX7_readNumber_9 : decode cX7_readNumber 9 = .ok (.getfield 75, 3) := by decide +kernel
theorem dX7_readNumber_12 : decode cX7_readNumber 12 = .ok (.aload_n 1, 1) := by decide +kernel
theorem dX7_readNumber_13 : decode cX7_readNumber 13 = .ok (.getfield 78, 3) := by decide +kernel
theorem dX7_readNumber_16 : decode cX7_readNumber 16 = .ok (.if_icmp .ge 51, 3) := by decide +kernel
theorem dX7_readNumber_19 : decode cX7_readNumber 19 = .ok (.aload_n 1, 1) := by decide +kernel
theorem dX7_readNumber_20 : decode cX7_readNumber 20 = .ok (.aload_n 0, 1) := by decide +kernel
theorem dX7_readNumber_21 : decode cX7_readNumber 21 = .ok (.getfield 75, 3) := by decide +kernel
theorem dX7_readNumber_24 : decode cX7_readNumber 24 = .ok (.invokevirtual 82, 3) := by decide +kernel
theorem dX7_readNumber_27 : decode cX7_readNumber 27 = .ok (.invokestatic 100, 3) := by decide +kernel
theorem dX7_readNumber_30 : decode cX7_readNumber 30 = .ok (.ifCond .eq 37, 3) := by decide +kernel
theorem dX7_readNumber_33 : decode cX7_readNumber 33 = .ok (.lload 4, 2) := by decide +kernel
theorem dX7_readNumber_35 : decode cX7_readNumber 35 = .ok (.ldc2_w 110, 3) := by decide +kernel
theorem dX7_readNumber_38 : decode cX7_readNumber 38 = .ok (.lmul, 1) := by decide +kernel
theorem dX7_readNumber_39 : decode cX7_readNumber 39 = .ok (.aload_n 1, 1) := by decide +kernel
theorem dX7_readNumber_40 : decode cX7_readNumber 40 = .ok (.aload_n 0, 1) := by decide +kernel
theorem dX7_readNumber_41 : decode cX7_readNumber 41 = .ok (.getfield 75, 3) := by decide +kernel
theorem dX7_readNumber_44 : decode cX7_readNumber 44 = .ok (.invokevirtual 82, 3) := by decide +kernel
theorem dX7_readNumber_47 : decode cX7_readNumber 47 = .ok (.bipush 48, 2) := by decide +kernel
theorem dX7_readNumber_49 : decode cX7_readNumber 49 = .ok (.isub, 1) := by decide +kernel
theorem dX7_readNumber_50 : decode cX7_readNumber 50 = .ok (.i2l, 1) := by decide +kernel
theorem dX7_readNumber_51 : decode cX7_readNumber 51 = .ok (.ladd, 1) := by decide +kernel
theorem dX7_readNumber_52 : decode cX7_readNumber 52 = .ok (.lstore 4, 2) := by decide +kernel
theorem dX7_readNumber_54 : decode cX7_readNumber 54 = .ok (.aload_n 0, 1) := by decide +kernel
theorem dX7_readNumber_55 : decode cX7_readNumber 55 = .ok (.dup, 1) := by decide +kernel
theorem dX7_readNumber_56 : decode cX7_readNumber 56 = .ok (.getfield 75, 3) := by decide +kernel
theorem dX7_readNumber_59 : decode cX7_readNumber 59 = .ok (.iconst 1, 1) := by decide +kernel
theorem dX7_readNumber_60 : decode cX7_readNumber 60 = .ok (.iadd, 1) := by decide +kernel
theorem dX7_readNumber_61 : decode cX7_readNumber 61 = .ok (.putfield 75, 3) := by decide +kernel
theorem dX7_readNumber_64 : decode cX7_readNumber 64 = .ok (.goto (-56), 3) := by decide +kernel
theorem dX7_readNumber_67 : decode cX7_readNumber 67 = .ok (.aload_n 0, 1) := by decide +kernel
theorem dX7_readNumber_68 : decode cX7_readNumber 68 = .ok (.getfield 54, 3) := by decide +kernel
theorem dX7_readNumber_71 : decode cX7_readNumber 71 = .ok (.iload_n 2, 1) := by decide +kernel
theorem dX7_readNumber_72 : decode cX7_readNumber 72 = .ok (.lload 4, 2) := by decide +kernel
theorem dX7_readNumber_74 : decode cX7_readNumber 74 = .ok (.lastore, 1) := by decide +kernel
theorem dX7_readNumber_75 : decode cX7_readNumber 75 = .ok (.aload_n 0, 1) := by decide +kernel
theorem dX7_readNumber_76 : decode cX7_readNumber 76 = .ok (.getfield 75, 3) := by decide +kernel
theorem dX7_readNumber_79 : decode cX7_readNumber 79 = .ok (.iload_n 3, 1) := by decide +kernel
theorem dX7_readNumber_80 : decode cX7_readNumber 80 = .ok (.isub, 1) := by decide +kernel
theorem dX7_readNumber_81 : decode cX7_readNumber 81 = .ok (.iconst 4, 1) := by decide +kernel
theorem dX7_readNumber_82 : decode cX7_readNumber 82 = .ok (.if_icmp .gt 21, 3) := by decide +kernel
theorem dX7_readNumber_85 : decode cX7_readNumber 85 = .ok (.aload_n 1, 1) := by decide +kernel
theorem dX7_readNumber_86 : decode cX7_readNumber 86 = .ok (.aload_n 0, 1) := by decide +kernel
theorem dX7_readNumber_87 : decode cX7_readNumber 87 = .ok (.getfield 75, 3) := by decide +kernel
theorem dX7_readNumber_90 : decode cX7_readNumber 90 = .ok (.invokevirtual 82, 3) := by decide +kernel
theorem dX7_readNumber_93 : decode cX7_readNumber 93 = .ok (.invokestatic 94, 3) := by decide +kernel
theorem dX7_readNumber_96 : decode cX7_readNumber 96 = .ok (.ifCond .ne 7, 3) := by decide +kernel
theorem dX7_readNumber_99 : decode cX7_readNumber 99 = .ok (.iconst 1, 1) := by decide +kernel
theorem dX7_readNumber_100 : decode cX7_readNumber 100 = .ok (.goto 4, 3) := by decide +kernel
theorem dX7_readNumber_103 : decode cX7_readNumber 103 = .ok (.iconst 0, 1) := by decide +kernel
theorem dX7_readNumber_104 : decode cX7_readNumber 104 = .ok (.istore 6, 2) := by decide +kernel
theorem dX7_readNumber_106 : decode cX7_readNumber 106 = .ok (.iload 6, 2) := by decide +kernel
theorem dX7_readNumber_108 : decode cX7_readNumber 108 = .ok (.ifCond .eq 7, 3) := by decide +kernel
theorem dX7_readNumber_111 : decode cX7_readNumber 111 = .ok (.iconst 2, 1) := by decide +kernel
theorem dX7_readNumber_112 : decode cX7_readNumber 112 = .ok (.goto 4, 3) := by decide +kernel
theorem dX7_readNumber_115 : decode cX7_readNumber 115 = .ok (.iconst 1, 1) := by decide +kernel
theorem dX7_readNumber_116 : decode cX7_readNumber 116 = .ok (.ireturn, 1) := by decide +kernel
theorem dX8_init_0 : decode cX8_init 0 = .ok (.aload_n 0, 1) := by decide +kernel
theorem dX8_init_1 : decode cX8_init 1 = .ok (.invokespecial 3, 3) := by decide +kernel
theorem dX8_init_4 : decode cX8_init 4 = .ok (.aload_n 0, 1) := by decide +kernel
theorem dX8_init_5 : decode cX8_init 5 = .ok (.bipush 8, 2) := by decide +kernel
theorem dX8_init_7 : decode cX8_init 7 = .ok (.newarray .int, 2) := by decide +kernel
theorem dX8_init_9 : decode cX8_init 9 = .ok (.putfield 9, 3) := by decide +kernel
theorem dX8_init_12 : decode cX8_init 12 = .ok (.aload_n 0, 1) := by decide +kernel
theorem dX8_init_13 : decode cX8_init 13 = .ok (.iconst 1, 1) := by decide +kernel
theorem dX8_init_14 : decode cX8_init 14 = .ok (.putfield 15, 3) := by decide +kernel
theorem dX8_init_17 : decode cX8_init 17 = .ok (.aload_n 0, 1) := by decide +kernel
theorem dX8_init_18 : decode cX8_init 18 = .ok (.iconst 0, 1) := by decide +kernel
theorem dX8_init_19 : decode cX8_init 19 = .ok (.invokevirtual 19, 3) := by decide +kernel
theorem dX8_init_22 : decode cX8_init 22 = .ok (.return_, 1) := by decide +kernel
theorem dX8_putOn_0 : decode cX8_putOn 0 = .ok (.aload_n 0, 1) := by decide +kernel
theorem dX8_putOn_1 : decode cX8_putOn 1 = .ok (.iload_n 1, 1) := by decide +kernel
theorem dX8_putOn_2 : decode cX8_putOn 2 = .ok (.putfield 23, 3) := by decide +kernel
theorem dX8_putOn_5 : decode cX8_putOn 5 = .ok (.aload_n 0, 1) := by decide +kernel
theorem dX8_putOn_6 : decode cX8_putOn 6 = .ok (.iconst 0, 1) := by decide +kernel
theorem dX8_putOn_7 : decode cX8_putOn 7 = .ok (.putfield 26, 3) := by decide +kernel
theorem dX8_putOn_10 : decode cX8_putOn 10 = .ok (.aload_n 0, 1) := by decide +kernel
theorem dX8_putOn_11 : decode cX8_putOn 11 = .ok (.getfield 9, 3) := by decide +kernel
theorem dX8_putOn_14 : decode cX8_putOn 14 = .ok (.iconst 0, 1) := by decide +kernel
theorem dX8_putOn_15 : decode cX8_putOn 15 = .ok (.invokestatic 29, 3) := by decide +kernel
theorem dX8_putOn_18 : decode cX8_putOn 18 = .ok (.return_, 1) := by decide +kernel
theorem dX8_copyOf_0 : decode cX8_copyOf 0 = .ok (.aload_n 0, 1) := by decide +kernel
theorem dX8_copyOf_1 : decode cX8_copyOf 1 = .ok (.aload_n 1, 1) := by decide +kernel
theorem dX8_copyOf_2 : decode cX8_copyOf 2 = .ok (.getfield 23, 3) := by decide +kernel
theorem dX8_copyOf_5 : decode cX8_copyOf 5 = .ok (.putfield 23, 3) := by decide +kernel
theorem dX8_copyOf_8 : decode cX8_copyOf 8 = .ok (.aload_n 0, 1) := by decide +kernel
theorem dX8_copyOf_9 : decode cX8_copyOf 9 = .ok (.aload_n 1, 1) := by decide +kernel
theorem dX8_copyOf_10 : decode cX8_copyOf 10 = .ok (.getfield 26, 3) := by decide +kernel
theorem dX8_copyOf_13 : decode cX8_copyOf 13 = .ok (.putfield 26, 3) := by decide +kernel
theorem dX8_copyOf_16 : decode cX8_copyOf 16 = .ok (.aload_n 0, 1) := by decide +kernel
theorem dX8_copyOf_17 : decode cX8_copyOf 17 = .ok (.aload_n 1, 1) := by decide +kernel
theorem dX8_copyOf_18 : decode cX8_copyOf 18 = .ok (.getfield 15, 3) := by decide +kernel
theorem dX8_copyOf_21 : decode cX8_copyOf 21 = .ok (.putfield 15, 3) := by decide +kernel
theorem dX8_copyOf_24 : decode cX8_copyOf 24 = .ok (.aload_n 1, 1) := by decide +kernel
theorem dX8_copyOf_25 : decode cX8_copyOf 25 = .ok (.getfield 9, 3) := by decide +kernel
theorem dX8_copyOf_28 : decode cX8_copyOf 28 = .ok (.iconst 0, 1) := by decide +kernel
theorem dX8_copyOf_29 : decode cX8_copyOf 29 = .ok (.aload_n 0, 1) := by decide +kernel
theorem dX8_copyOf_30 : decode cX8_copyOf 30 = .ok (.getfield 9, 3) := by decide +kernel
theorem dX8_copyOf_33 : decode cX8_copyOf 33 = .ok (.iconst 0, 1) := by decide +kernel
theorem dX8_copyOf_34 : decode cX8_copyOf 34 = .ok (.bipush 8, 2) := by decide +kernel
theorem dX8_copyOf_36 : decode cX8_copyOf 36 = .ok (.invokestatic 35, 3) := by decide +kernel
theorem dX8_copyOf_39 : decode cX8_copyOf 39 = .ok (.return_, 1) := by decide +kernel
theorem dX8_total_0 : decode cX8_total 0 = .ok (.iconst 0, 1) := by decide +kernel
theorem dX8_total_1 : decode cX8_total 1 = .ok (.istore_n 1, 1) := by decide +kernel
theorem dX8_total_2 : decode cX8_total 2 = .ok (.iconst 0, 1) := by decide +kernel
theorem dX8_total_3 : decode cX8_total 3 = .ok (.istore_n 2, 1) := by decide +kernel
theorem dX8_total_4 : decode cX8_total 4 = .ok (.iload_n 2, 1) := by decide +kernel
theorem dX8_total_5 : decode cX8_total 5 = .ok (.bipush 8, 2) := by decide +kernel
theorem dX8_total_7 : decode cX8_total 7 = .ok (.if_icmp .ge 18, 3) := by decide +kernel
theorem dX8_total_10 : decode cX8_total 10 = .ok (.iload_n 1, 1) := by decide +kernel
theorem dX8_total_11 : decode cX8_total 11 = .ok (.aload_n 0, 1) := by decide +kernel
theorem dX8_total_12 : decode cX8_total 12 = .ok (.getfield 9, 3) := by decide +kernel
theorem dX8_total_15 : decode cX8_total 15 = .ok (.iload_n 2, 1) := by decide +kernel
theorem dX8_total_16 : decode cX8_total 16 = .ok (.iaload, 1) := by decide +kernel
theorem dX8_total_17 : decode cX8_total 17 = .ok (.iadd, 1) := by decide +kernel
theorem dX8_total_18 : decode cX8_total 18 = .ok (.istore_n 1, 1) := by decide +kernel
theorem dX8_total_19 : decode cX8_total 19 = .ok (.iinc 2 1, 3) := by decide +kernel
theorem dX8_total_22 : decode cX8_total 22 = .ok (.goto (-18), 3) := by decide +kernel
theorem dX8_total_25 : decode cX8_total 25 = .ok (.iload_n 1, 1) := by decide +kernel
theorem dX8_total_26 : decode cX8_total 26 = .ok (.ireturn, 1) := by decide +kernel
theorem dX8_drawOfTen_0 : decode cX8_drawOfTen 0 = .ok (.aload_n 0, 1) := by decide +kernel
theorem dX8_drawOfTen_1 : decode cX8_drawOfTen 1 = .ok (.aload_n 0, 1) := by decide +kernel
theorem dX8_drawOfTen_2 : decode cX8_drawOfTen 2 = .ok (.getfield 15, 3) := by decide +kernel
theorem dX8_drawOfTen_5 : decode cX8_drawOfTen 5 = .ok (.ldc 41, 2) := by decide +kernel
theorem dX8_drawOfTen_7 : decode cX8_drawOfTen 7 = .ok (.imul, 1) := by decide +kernel
theorem dX8_drawOfTen_8 : decode cX8_drawOfTen 8 = .ok (.sipush 12345, 3) := by decide +kernel
theorem dX8_drawOfTen_11 : decode cX8_drawOfTen 11 = .ok (.iadd, 1) := by decide +kernel
theorem dX8_drawOfTen_12 : decode cX8_drawOfTen 12 = .ok (.putfield 15, 3) := by decide +kernel
theorem dX8_drawOfTen_15 : decode cX8_drawOfTen 15 = .ok (.aload_n 0, 1) := by decide +kernel
theorem dX8_drawOfTen_16 : decode cX8_drawOfTen 16 = .ok (.getfield 15, 3) := by decide +kernel
theorem dX8_drawOfTen_19 : decode cX8_drawOfTen 19 = .ok (.bipush 16, 2) := by decide +kernel
theorem dX8_drawOfTen_21 : decode cX8_drawOfTen 21 = .ok (.iushr, 1) := by decide +kernel
theorem dX8_drawOfTen_22 : decode cX8_drawOfTen 22 = .ok (.bipush 10, 2) := by decide +kernel
theorem dX8_drawOfTen_24 : decode cX8_drawOfTen 24 = .ok (.irem, 1) := by decide +kernel
theorem dX8_drawOfTen_25 : decode cX8_drawOfTen 25 = .ok (.ireturn, 1) := by decide +kernel
theorem dX8_fadeOneDay_0 : decode cX8_fadeOneDay 0 = .ok (.aload_n 0, 1) := by decide +kernel
theorem dX8_fadeOneDay_1 : decode cX8_fadeOneDay 1 = .ok (.dup, 1) := by decide +kernel
theorem dX8_fadeOneDay_2 : decode cX8_fadeOneDay 2 = .ok (.getfield 26, 3) := by decide +kernel
theorem dX8_fadeOneDay_5 : decode cX8_fadeOneDay 5 = .ok (.iconst 1, 1) := by decide +kernel
theorem dX8_fadeOneDay_6 : decode cX8_fadeOneDay 6 = .ok (.iadd, 1) := by decide +kernel
theorem dX8_fadeOneDay_7 : decode cX8_fadeOneDay 7 = .ok (.putfield 26, 3) := by decide +kernel
theorem dX8_fadeOneDay_10 : decode cX8_fadeOneDay 10 = .ok (.iconst 0, 1) := by decide +kernel
theorem dX8_fadeOneDay_11 : decode cX8_fadeOneDay 11 = .ok (.istore_n 2, 1) := by decide +kernel
theorem dX8_fadeOneDay_12 : decode cX8_fadeOneDay 12 = .ok (.iconst 0, 1) := by decide +kernel
theorem dX8_fadeOneDay_13 : decode cX8_fadeOneDay 13 = .ok (.istore_n 3, 1) := by decide +kernel
theorem dX8_fadeOneDay_14 : decode cX8_fadeOneDay 14 = .ok (.iload_n 3, 1) := by decide +kernel
theorem dX8_fadeOneDay_15 : decode cX8_fadeOneDay 15 = .ok (.aload_n 1, 1) := by decide +kernel
theorem dX8_fadeOneDay_16 : decode cX8_fadeOneDay 16 = .ok (.getfield 42, 3) := by decide +kernel
theorem dX8_fadeOneDay_19 : decode cX8_fadeOneDay 19 = .ok (.getfield 48, 3) := by decide +kernel
theorem dX8_fadeOneDay_22 : decode cX8_fadeOneDay 22 = .ok (.if_icmp .ge 54, 3) := by decide +kernel
theorem dX8_fadeOneDay_25 : decode cX8_fadeOneDay 25 = .ok (.aload_n 1, 1) := by decide +kernel
theorem dX8_fadeOneDay_26 : decode cX8_fadeOneDay 26 = .ok (.getfield 53, 3) := by decide +kernel
theorem dX8_fadeOneDay_29 : decode cX8_fadeOneDay 29 = .ok (.iload_n 3, 1) := by decide +kernel
theorem dX8_fadeOneDay_30 : decode cX8_fadeOneDay 30 = .ok (.iaload, 1) := by decide +kernel
theorem dX8_fadeOneDay_31 : decode cX8_fadeOneDay 31 = .ok (.istore 4, 2) := by decide +kernel
theorem dX8_fadeOneDay_33 : decode cX8_fadeOneDay 33 = .ok (.iload 4, 2) := by decide +kernel
theorem dX8_fadeOneDay_35 : decode cX8_fadeOneDay 35 = .ok (.ifCond .eq 35, 3) := by decide +kernel
theorem dX8_fadeOneDay_38 : decode cX8_fadeOneDay 38 = .ok (.aload_n 0, 1) := by decide +kernel
theorem dX8_fadeOneDay_39 : decode cX8_fadeOneDay 39 = .ok (.getfield 26, 3) := by decide +kernel
theorem dX8_fadeOneDay_42 : decode cX8_fadeOneDay 42 = .ok (.iload 4, 2) := by decide +kernel
theorem dX8_fadeOneDay_44 : decode cX8_fadeOneDay 44 = .ok (.irem, 1) := by decide +kernel
theorem dX8_fadeOneDay_45 : decode cX8_fadeOneDay 45 = .ok (.ifCond .ne 25, 3) := by decide +kernel
theorem dX8_fadeOneDay_48 : decode cX8_fadeOneDay 48 = .ok (.aload_n 0, 1) := by decide +kernel
theorem dX8_fadeOneDay_49 : decode cX8_fadeOneDay 49 = .ok (.getfield 9, 3) := by decide +kernel
theorem dX8_fadeOneDay_52 : decode cX8_fadeOneDay 52 = .ok (.iload_n 3, 1) := by decide +kernel
theorem dX8_fadeOneDay_53 : decode cX8_fadeOneDay 53 = .ok (.iaload, 1) := by decide +kernel
theorem dX8_fadeOneDay_54 : decode cX8_fadeOneDay 54 = .ok (.ifCond .le 16, 3) := by decide +kernel
theorem dX8_fadeOneDay_57 : decode cX8_fadeOneDay 57 = .ok (.aload_n 0, 1) := by decide +kernel
theorem dX8_fadeOneDay_58 : decode cX8_fadeOneDay 58 = .ok (.getfield 9, 3) := by decide +kernel
theorem dX8_fadeOneDay_61 : decode cX8_fadeOneDay 61 = .ok (.iload_n 3, 1) := by decide +kernel
theorem dX8_fadeOneDay_62 : decode cX8_fadeOneDay 62 = .ok (.dup2, 1) := by decide +kernel
theorem dX8_fadeOneDay_63 : decode cX8_fadeOneDay 63 = .ok (.iaload, 1) := by decide +kernel
theorem dX8_fadeOneDay_64 : decode cX8_fadeOneDay 64 = .ok (.iconst 1, 1) := by decide +kernel
theorem dX8_fadeOneDay_65 : decode cX8_fadeOneDay 65 = .ok (.isub, 1) := by decide +kernel
theorem dX8_fadeOneDay_66 : decode cX8_fadeOneDay 66 = .ok (.iastore, 1) := by decide +kernel
theorem dX8_fadeOneDay_67 : decode cX8_fadeOneDay 67 = .ok (.iinc 2 1, 3) := by decide +kernel
theorem dX8_fadeOneDay_70 : decode cX8_fadeOneDay 70 = .ok (.iinc 3 1, 3) := by decide +kernel
theorem dX8_fadeOneDay_73 : decode cX8_fadeOneDay 73 = .ok (.goto (-59), 3) := by decide +kernel
theorem dX8_fadeOneDay_76 : decode cX8_fadeOneDay 76 = .ok (.iload_n 2, 1) := by decide +kernel
theorem dX8_fadeOneDay_77 : decode cX8_fadeOneDay 77 = .ok (.ireturn, 1) := by decide +kernel
theorem dX9_init_0 : decode cX9_init 0 = .ok (.aload_n 0, 1) := by decide +kernel
theorem dX9_init_1 : decode cX9_init 1 = .ok (.invokespecial 3, 3) := by decide +kernel
theorem dX9_init_4 : decode cX9_init 4 = .ok (.aload_n 0, 1) := by decide +kernel
theorem dX9_init_5 : decode cX9_init 5 = .ok (.aload_n 1, 1) := by decide +kernel
theorem dX9_init_6 : decode cX9_init 6 = .ok (.putfield 9, 3) := by decide +kernel
theorem dX9_init_9 : decode cX9_init 9 = .ok (.aload_n 0, 1) := by decide +kernel
theorem dX9_init_10 : decode cX9_init 10 = .ok (.bipush 9, 2) := by decide +kernel
theorem dX9_init_12 : decode cX9_init 12 = .ok (.bipush 16, 2) := by decide +kernel
theorem dX9_init_14 : decode cX9_init 14 = .ok (.multianewarray 15 2, 4) := by decide +kernel
theorem dX9_init_18 : decode cX9_init 18 = .ok (.putfield 17, 3) := by decide +kernel
theorem dX9_init_21 : decode cX9_init 21 = .ok (.aload_n 0, 1) := by decide +kernel
theorem dX9_init_22 : decode cX9_init 22 = .ok (.bipush 16, 2) := by decide +kernel
theorem dX9_init_24 : decode cX9_init 24 = .ok (.newarray .int, 2) := by decide +kernel
theorem dX9_init_26 : decode cX9_init 26 = .ok (.putfield 20, 3) := by decide +kernel
theorem dX9_init_29 : decode cX9_init 29 = .ok (.aload_n 0, 1) := by decide +kernel
theorem dX9_init_30 : decode cX9_init 30 = .ok (.bipush 8, 2) := by decide +kernel
theorem dX9_init_32 : decode cX9_init 32 = .ok (.newarray .int, 2) := by decide +kernel
theorem dX9_init_34 : decode cX9_init 34 = .ok (.putfield 24, 3) := by decide +kernel
theorem dX9_init_37 : decode cX9_init 37 = .ok (.return_, 1) := by decide +kernel
theorem dX9_start_0 : decode cX9_start 0 = .ok (.aload_n 0, 1) := by decide +kernel
theorem dX9_start_1 : decode cX9_start 1 = .ok (.aload_n 1, 1) := by decide +kernel
theorem dX9_start_2 : decode cX9_start 2 = .ok (.putfield 9, 3) := by decide +kernel
theorem dX9_start_5 : decode cX9_start 5 = .ok (.aload_n 0, 1) := by decide +kernel
theorem dX9_start_6 : decode cX9_start 6 = .ok (.iload_n 2, 1) := by decide +kernel
theorem dX9_start_7 : decode cX9_start 7 = .ok (.putfield 27, 3) := by decide +kernel
theorem dX9_start_10 : decode cX9_start 10 = .ok (.aload_n 0, 1) := by decide +kernel
theorem dX9_start_11 : decode cX9_start 11 = .ok (.iload_n 3, 1) := by decide +kernel
theorem dX9_start_12 : decode cX9_start 12 = .ok (.putfield 31, 3) := by decide +kernel
theorem dX9_start_15 : decode cX9_start 15 = .ok (.aload_n 0, 1) := by decide +kernel
theorem dX9_start_16 : decode cX9_start 16 = .ok (.iload 4, 2) := by decide +kernel
theorem dX9_start_18 : decode cX9_start 18 = .ok (.putfield 34, 3) := by decide +kernel
theorem dX9_start_21 : decode cX9_start 21 = .ok (.aload_n 0, 1) := by decide +kernel
theorem dX9_start_22 : decode cX9_start 22 = .ok (.iconst 0, 1) := by decide +kernel
theorem dX9_start_23 : decode cX9_start 23 = .ok (.putfield 37, 3) := by decide +kernel
theorem dX9_start_26 : decode cX9_start 26 = .ok (.aload_n 0, 1) := by decide +kernel
theorem dX9_start_27 : decode cX9_start 27 = .ok (.iconst 0, 1) := by decide +kernel
theorem dX9_start_28 : decode cX9_start 28 = .ok (.putfield 40, 3) := by decide +kernel
theorem dX9_start_31 : decode cX9_start 31 = .ok (.aload_n 0, 1) := by decide +kernel
theorem dX9_start_32 : decode cX9_start 32 = .ok (.iconst 0, 1) := by decide +kernel
theorem dX9_start_33 : decode cX9_start 33 = .ok (.putfield 43, 3) := by decide +kernel
theorem dX9_start_36 : decode cX9_start 36 = .ok (.aload_n 0, 1) := by decide +kernel
theorem dX9_start_37 : decode cX9_start 37 = .ok (.getfield 24, 3) := by decide +kernel
theorem dX9_start_40 : decode cX9_start 40 = .ok (.iconst 0, 1) := by decide +kernel
theorem dX9_start_41 : decode cX9_start 41 = .ok (.invokestatic 46, 3) := by decide +kernel
theorem dX9_start_44 : decode cX9_start 44 = .ok (.aload_n 0, 1) := by decide +kernel
theorem dX9_start_45 : decode cX9_start 45 = .ok (.getfield 9, 3) := by decide +kernel
theorem dX9_start_48 : decode cX9_start 48 = .ok (.aload_n 0, 1) := by decide +kernel
theorem dX9_start_49 : decode cX9_start 49 = .ok (.getfield 27, 3) := by decide +kernel
theorem dX9_start_52 : decode cX9_start 52 = .ok (.aload_n 0, 1) := by decide +kernel
theorem dX9_start_53 : decode cX9_start 53 = .ok (.getfield 17, 3) := by decide +kernel
theorem dX9_start_56 : decode cX9_start 56 = .ok (.iconst 0, 1) := by decide +kernel
theorem dX9_start_57 : decode cX9_start 57 = .ok (.aaload, 1) := by decide +kernel
theorem dX9_start_58 : decode cX9_start 58 = .ok (.invokevirtual 52, 3) := by decide +kernel
theorem dX9_start_61 : decode cX9_start 61 = .ok (.return_, 1) := by decide +kernel
theorem dX9_advance_0 : decode cX9_advance 0 = .ok (.aload_n 0, 1) := by decide +kernel
theorem dX9_advance_1 : decode cX9_advance 1 = .ok (.getfield 9, 3) := by decide +kernel
theorem dX9_advance_4 : decode cX9_advance 4 = .ok (.getfield 58, 3) := by decide +kernel
theorem dX9_advance_7 : decode cX9_advance 7 = .ok (.getfield 62, 3) := by decide +kernel
theorem dX9_advance_10 : decode cX9_advance 10 = .ok (.iconst 1, 1) := by decide +kernel
theorem dX9_advance_11 : decode cX9_advance 11 = .ok (.isub, 1) := by decide +kernel
theorem dX9_advance_12 : decode cX9_advance 12 = .ok (.istore_n 1, 1) := by decide +kernel
theorem dX9_advance_13 : decode cX9_advance 13 = .ok (.iload_n 1, 1) := by decide +kernel
theorem dX9_advance_14 : decode cX9_advance 14 = .ok (.ifCond .lt 51, 3) := by decide +kernel
theorem dX9_advance_17 : decode cX9_advance 17 = .ok (.aload_n 0, 1) := by decide +kernel
theorem dX9_advance_18 : decode cX9_advance 18 = .ok (.getfield 40, 3) := by decide +kernel
theorem dX9_advance_21 : decode cX9_advance 21 = .ok (.aload_n 0, 1) := by decide +kernel
theorem dX9_advance_22 : decode cX9_advance 22 = .ok (.getfield 31, 3) := by decide +kernel
theorem dX9_advance_25 : decode cX9_advance 25 = .ok (.if_icmp .ge 29, 3) := by decide +kernel
theorem dX9_advance_28 : decode cX9_advance 28 = .ok (.aload_n 0, 1) := by decide +kernel
theorem dX9_advance_29 : decode cX9_advance 29 = .ok (.getfield 24, 3) := by decide +kernel
theorem dX9_advance_32 : decode cX9_advance 32 = .ok (.iload_n 1, 1) := by decide +kernel
theorem dX9_advance_33 : decode cX9_advance 33 = .ok (.iaload, 1) := by decide +kernel
theorem dX9_advance_34 : decode cX9_advance 34 = .ok (.ifCond .gt 14, 3) := by decide +kernel
theorem dX9_advance_37 : decode cX9_advance 37 = .ok (.aload_n 0, 1) := by decide +kernel
theorem dX9_advance_38 : decode cX9_advance 38 = .ok (.getfield 37, 3) := by decide +kernel
theorem dX9_advance_41 : decode cX9_advance 41 = .ok (.aload_n 0, 1) := by decide +kernel
theorem dX9_advance_42 : decode cX9_advance 42 = .ok (.getfield 34, 3) := by decide +kernel
theorem dX9_advance_45 : decode cX9_advance 45 = .ok (.if_icmp .ge 9, 3) := by decide +kernel
theorem dX9_advance_48 : decode cX9_advance 48 = .ok (.aload_n 0, 1) := by decide +kernel
theorem dX9_advance_49 : decode cX9_advance 49 = .ok (.iload_n 1, 1) := by decide +kernel
theorem dX9_advance_50 : decode cX9_advance 50 = .ok (.invokevirtual 67, 3) := by decide +kernel
theorem dX9_advance_53 : decode cX9_advance 53 = .ok (.return_, 1) := by decide +kernel
theorem dX9_advance_54 : decode cX9_advance 54 = .ok (.aload_n 0, 1) := by decide +kernel
theorem dX9_advance_55 : decode cX9_advance 55 = .ok (.iload_n 1, 1) := by decide +kernel
theorem dX9_advance_56 : decode cX9_advance 56 = .ok (.invokevirtual 71, 3) := by decide +kernel
theorem dX9_advance_59 : decode cX9_advance 59 = .ok (.iinc 1 (-1), 3) := by decide +kernel
theorem dX9_advance_62 : decode cX9_advance 62 = .ok (.goto (-49), 3) := by decide +kernel
theorem dX9_advance_65 : decode cX9_advance 65 = .ok (.return_, 1) := by decide +kernel
theorem dX9_raise_0 : decode cX9_raise 0 = .ok (.aload_n 0, 1) := by decide +kernel
theorem dX9_raise_1 : decode cX9_raise 1 = .ok (.getfield 37, 3) := by decide +kernel
theorem dX9_raise_4 : decode cX9_raise 4 = .ok (.istore_n 2, 1) := by decide +kernel
theorem dX9_raise_5 : decode cX9_raise 5 = .ok (.aload_n 0, 1) := by decide +kernel
theorem dX9_raise_6 : decode cX9_raise 6 = .ok (.getfield 24, 3) := by decide +kernel
theorem dX9_raise_9 : decode cX9_raise 9 = .ok (.iload_n 1, 1) := by decide +kernel
theorem dX9_raise_10 : decode cX9_raise 10 = .ok (.iaload, 1) := by decide +kernel
theorem dX9_raise_11 : decode cX9_raise 11 = .ok (.ifCond .ne 22, 3) := by decide +kernel
theorem dX9_raise_14 : decode cX9_raise 14 = .ok (.aload_n 0, 1) := by decide +kernel
theorem dX9_raise_15 : decode cX9_raise 15 = .ok (.getfield 37, 3) := by decide +kernel
theorem dX9_raise_18 : decode cX9_raise 18 = .ok (.bipush 8, 2) := by decide +kernel
theorem dX9_raise_20 : decode cX9_raise 20 = .ok (.if_icmp .ge 13, 3) := by decide +kernel
theorem dX9_raise_23 : decode cX9_raise 23 = .ok (.aload_n 0, 1) := by decide +kernel
theorem dX9_raise_24 : decode cX9_raise 24 = .ok (.dup, 1) := by decide +kernel
theorem dX9_raise_25 : decode cX9_raise 25 = .ok (.getfield 37, 3) := by decide +kernel
theorem dX9_raise_28 : decode cX9_raise 28 = .ok (.iconst 1, 1) := by decide +kernel
theorem dX9_raise_29 : decode cX9_raise 29 = .ok (.iadd, 1) := by decide +kernel
theorem dX9_raise_30 : decode cX9_raise 30 = .ok (.putfield 37, 3) := by decide +kernel
theorem dX9_raise_33 : decode cX9_raise 33 = .ok (.aload_n 0, 1) := by decide +kernel
theorem dX9_raise_34 : decode cX9_raise 34 = .ok (.getfield 9, 3) := by decide +kernel
theorem dX9_raise_37 : decode cX9_raise 37 = .ok (.aload_n 0, 1) := by decide +kernel
theorem dX9_raise_38 : decode cX9_raise 38 = .ok (.getfield 27, 3) := by decide +kernel
theorem dX9_raise_41 : decode cX9_raise 41 = .ok (.iload_n 1, 1) := by decide +kernel
theorem dX9_raise_42 : decode cX9_raise 42 = .ok (.aload_n 0, 1) := by decide +kernel
theorem dX9_raise_43 : decode cX9_raise 43 = .ok (.getfield 17, 3) := by decide +kernel
theorem dX9_raise_46 : decode cX9_raise 46 = .ok (.iload_n 2, 1) := by decide +kernel
theorem dX9_raise_47 : decode cX9_raise 47 = .ok (.aaload, 1) := by decide +kernel
theorem dX9_raise_48 : decode cX9_raise 48 = .ok (.aload_n 0, 1) := by decide +kernel
theorem dX9_raise_49 : decode cX9_raise 49 = .ok (.getfield 17, 3) := by decide +kernel
theorem dX9_raise_52 : decode cX9_raise 52 = .ok (.aload_n 0, 1) := by decide +kernel
theorem dX9_raise_53 : decode cX9_raise 53 = .ok (.getfield 37, 3) := by decide +kernel
theorem dX9_raise_56 : decode cX9_raise 56 = .ok (.aaload, 1) := by decide +kernel
theorem dX9_raise_57 : decode cX9_raise 57 = .ok (.invokevirtual 74, 3) := by decide +kernel
theorem dX9_raise_60 : decode cX9_raise 60 = .ok (.aload_n 0, 1) := by decide +kernel
theorem dX9_raise_61 : decode cX9_raise 61 = .ok (.getfield 24, 3) := by decide +kernel
theorem dX9_raise_64 : decode cX9_raise 64 = .ok (.iload_n 1, 1) := by decide +kernel
theorem dX9_raise_65 : decode cX9_raise 65 = .ok (.dup2, 1) := by decide +kernel
theorem dX9_raise_66 : decode cX9_raise 66 = .ok (.iaload, 1) := by decide +kernel
theorem dX9_raise_67 : decode cX9_raise 67 = .ok (.iconst 1, 1) := by decide +kernel
theorem dX9_raise_68 : decode cX9_raise 68 = .ok (.iadd, 1) := by decide +kernel
theorem dX9_raise_69 : decode cX9_raise 69 = .ok (.iastore, 1) := by decide +kernel
theorem dX9_raise_70 : decode cX9_raise 70 = .ok (.aload_n 0, 1) := by decide +kernel
theorem dX9_raise_71 : decode cX9_raise 71 = .ok (.dup, 1) := by decide +kernel
theorem dX9_raise_72 : decode cX9_raise 72 = .ok (.getfield 40, 3) := by decide +kernel
theorem dX9_raise_75 : decode cX9_raise 75 = .ok (.iconst 1, 1) := by decide +kernel
theorem dX9_raise_76 : decode cX9_raise 76 = .ok (.iadd, 1) := by decide +kernel
theorem dX9_raise_77 : decode cX9_raise 77 = .ok (.putfield 40, 3) := by decide +kernel
theorem dX9_raise_80 : decode cX9_raise 80 = .ok (.aload_n 0, 1) := by decide +kernel
theorem dX9_raise_81 : decode cX9_raise 81 = .ok (.dup, 1) := by decide +kernel
theorem dX9_raise_82 : decode cX9_raise 82 = .ok (.getfield 43, 3) := by decide +kernel
theorem dX9_raise_85 : decode cX9_raise 85 = .ok (.aload_n 0, 1) := by decide +kernel
theorem dX9_raise_86 : decode cX9_raise 86 = .ok (.getfield 9, 3) := by decide +kernel
theorem dX9_raise_89 : decode cX9_raise 89 = .ok (.getfield 78, 3) := by decide +kernel
theorem dX9_raise_92 : decode cX9_raise 92 = .ok (.iload_n 1, 1) := by decide +kernel
theorem dX9_raise_93 : decode cX9_raise 93 = .ok (.iaload, 1) := by decide +kernel
theorem dX9_raise_94 : decode cX9_raise 94 = .ok (.iadd, 1) := by decide +kernel
theorem dX9_raise_95 : decode cX9_raise 95 = .ok (.putfield 43, 3) := by decide +kernel
theorem dX9_raise_98 : decode cX9_raise 98 = .ok (.return_, 1) := by decide +kernel
theorem dX9_takeOut_0 : decode cX9_takeOut 0 = .ok (.aload_n 0, 1) := by decide +kernel
theorem dX9_takeOut_1 : decode cX9_takeOut 1 = .ok (.getfield 24, 3) := by decide +kernel
theorem dX9_takeOut_4 : decode cX9_takeOut 4 = .ok (.iload_n 1, 1) := by decide +kernel
theorem dX9_takeOut_5 : decode cX9_takeOut 5 = .ok (.iaload, 1) := by decide +kernel
theorem dX9_takeOut_6 : decode cX9_takeOut 6 = .ok (.ifCond .le 60, 3) := by decide +kernel
theorem dX9_takeOut_9 : decode cX9_takeOut 9 = .ok (.aload_n 0, 1) := by decide +kernel
theorem dX9_takeOut_10 : decode cX9_takeOut 10 = .ok (.dup, 1) := by decide +kernel
theorem dX9_takeOut_11 : decode cX9_takeOut 11 = .ok (.getfield 37, 3) := by decide +kernel
theorem dX9_takeOut_14 : decode cX9_takeOut 14 = .ok (.iconst 1, 1) := by decide +kernel
theorem dX9_takeOut_15 : decode cX9_takeOut 15 = .ok (.isub, 1) := by decide +kernel
theorem dX9_takeOut_16 : decode cX9_takeOut 16 = .ok (.putfield 37, 3) := by decide +kernel
theorem dX9_takeOut_19 : decode cX9_takeOut 19 = .ok (.aload_n 0, 1) := by decide +kernel
theorem dX9_takeOut_20 : decode cX9_takeOut 20 = .ok (.dup, 1) := by decide +kernel
theorem dX9_takeOut_21 : decode cX9_takeOut 21 = .ok (.getfield 40, 3) := by decide +kernel
theorem dX9_takeOut_24 : decode cX9_takeOut 24 = .ok (.aload_n 0, 1) := by decide +kernel
theorem dX9_takeOut_25 : decode cX9_takeOut 25 = .ok (.getfield 24, 3) := by decide +kernel
theorem dX9_takeOut_28 : decode cX9_takeOut 28 = .ok (.iload_n 1, 1) := by decide +kernel
theorem dX9_takeOut_29 : decode cX9_takeOut 29 = .ok (.iaload, 1) := by decide +kernel
theorem dX9_takeOut_30 : decode cX9_takeOut 30 = .ok (.isub, 1) := by decide +kernel
theorem dX9_takeOut_31 : decode cX9_takeOut 31 = .ok (.putfield 40, 3) := by decide +kernel
theorem dX9_takeOut_34 : decode cX9_takeOut 34 = .ok (.aload_n 0, 1) := by decide +kernel
theorem dX9_takeOut_35 : decode cX9_takeOut 35 = .ok (.dup, 1) := by decide +kernel
theorem dX9_takeOut_36 : decode cX9_takeOut 36 = .ok (.getfield 43, 3) := by decide +kernel
theorem dX9_takeOut_39 : decode cX9_takeOut 39 = .ok (.aload_n 0, 1) := by decide +kernel
theorem dX9_takeOut_40 : decode cX9_takeOut 40 = .ok (.getfield 24, 3) := by decide +kernel
theorem dX9_takeOut_43 : decode cX9_takeOut 43 = .ok (.iload_n 1, 1) := by decide +kernel
theorem dX9_takeOut_44 : decode cX9_takeOut 44 = .ok (.iaload, 1) := by decide +kernel
theorem dX9_takeOut_45 : decode cX9_takeOut 45 = .ok (.aload_n 0, 1) := by decide +kernel
theorem dX9_takeOut_46 : decode cX9_takeOut 46 = .ok (.getfield 9, 3) := by decide +kernel
theorem dX9_takeOut_49 : decode cX9_takeOut 49 = .ok (.getfield 78, 3) := by decide +kernel
theorem dX9_takeOut_52 : decode cX9_takeOut 52 = .ok (.iload_n 1, 1) := by decide +kernel
theorem dX9_takeOut_53 : decode cX9_takeOut 53 = .ok (.iaload, 1) := by decide +kernel
theorem dX9_takeOut_54 : decode cX9_takeOut 54 = .ok (.imul, 1) := by decide +kernel
theorem dX9_takeOut_55 : decode cX9_takeOut 55 = .ok (.isub, 1) := by decide +kernel
theorem dX9_takeOut_56 : decode cX9_takeOut 56 = .ok (.putfield 43, 3) := by decide +kernel
theorem dX9_takeOut_59 : decode cX9_takeOut 59 = .ok (.aload_n 0, 1) := by decide +kernel
theorem dX9_takeOut_60 : decode cX9_takeOut 60 = .ok (.getfield 24, 3) := by decide +kernel
theorem dX9_takeOut_63 : decode cX9_takeOut 63 = .ok (.iload_n 1, 1) := by decide +kernel
theorem dX9_takeOut_64 : decode cX9_takeOut 64 = .ok (.iconst 0, 1) := by decide +kernel
theorem dX9_takeOut_65 : decode cX9_takeOut 65 = .ok (.iastore, 1) := by decide +kernel
theorem dX9_takeOut_66 : decode cX9_takeOut 66 = .ok (.return_, 1) := by decide +kernel
theorem dX9_thrownBack_0 : decode cX9_thrownBack 0 = .ok (.aload_n 0, 1) := by decide +kernel
theorem dX9_thrownBack_1 : decode cX9_thrownBack 1 = .ok (.getfield 9, 3) := by decide +kernel
theorem dX9_thrownBack_4 : decode cX9_thrownBack 4 = .ok (.aload_n 0, 1) := by decide +kernel
theorem dX9_thrownBack_5 : decode cX9_thrownBack 5 = .ok (.getfield 17, 3) := by decide +kernel
theorem dX9_thrownBack_8 : decode cX9_thrownBack 8 = .ok (.aload_n 0, 1) := by decide +kernel
theorem dX9_thrownBack_9 : decode cX9_thrownBack 9 = .ok (.getfield 37, 3) := by decide +kernel
theorem dX9_thrownBack_12 : decode cX9_thrownBack 12 = .ok (.aaload, 1) := by decide +kernel
theorem dX9_thrownBack_13 : decode cX9_thrownBack 13 = .ok (.aload_n 0, 1) := by decide +kernel
theorem dX9_thrownBack_14 : decode cX9_thrownBack 14 = .ok (.getfield 20, 3) := by decide +kernel
theorem dX9_thrownBack_17 : decode cX9_thrownBack 17 = .ok (.invokevirtual 81, 3) := by decide +kernel
theorem dX9_thrownBack_20 : decode cX9_thrownBack 20 = .ok (.aload_n 0, 1) := by decide +kernel
theorem dX9_thrownBack_21 : decode cX9_thrownBack 21 = .ok (.getfield 20, 3) := by decide +kernel
theorem dX9_thrownBack_24 : decode cX9_thrownBack 24 = .ok (.areturn, 1) := by decide +kernel
theorem dX10_init_0 : decode cX10_init 0 = .ok (.aload_n 0, 1) := by decide +kernel
theorem dX10_init_1 : decode cX10_init 1 = .ok (.invokespecial 3, 3) := by decide +kernel
theorem dX10_init_4 : decode cX10_init 4 = .ok (.aload_n 0, 1) := by decide +kernel
theorem dX10_init_5 : decode cX10_init 5 = .ok (.new 9, 3) := by decide +kernel
theorem dX10_init_8 : decode cX10_init 8 = .ok (.dup, 1) := by decide +kernel
theorem dX10_init_9 : decode cX10_init 9 = .ok (.invokespecial 11, 3) := by decide +kernel
theorem dX10_init_12 : decode cX10_init 12 = .ok (.putfield 12, 3) := by decide +kernel
theorem dX10_init_15 : decode cX10_init 15 = .ok (.aload_n 0, 1) := by decide +kernel
theorem dX10_init_16 : decode cX10_init 16 = .ok (.new 16, 3) := by decide +kernel
theorem dX10_init_19 : decode cX10_init 19 = .ok (.dup, 1) := by decide +kernel
theorem dX10_init_20 : decode cX10_init 20 = .ok (.invokespecial 18, 3) := by decide +kernel
theorem dX10_init_23 : decode cX10_init 23 = .ok (.putfield 19, 3) := by decide +kernel
theorem dX10_init_26 : decode cX10_init 26 = .ok (.aload_n 0, 1) := by decide +kernel
theorem dX10_init_27 : decode cX10_init 27 = .ok (.new 16, 3) := by decide +kernel
theorem dX10_init_30 : decode cX10_init 30 = .ok (.dup, 1) := by decide +kernel
theorem dX10_init_31 : decode cX10_init 31 = .ok (.invokespecial 18, 3) := by decide +kernel
theorem dX10_init_34 : decode cX10_init 34 = .ok (.putfield 23, 3) := by decide +kernel
theorem dX10_init_37 : decode cX10_init 37 = .ok (.aload_n 0, 1) := by decide +kernel
theorem dX10_init_38 : decode cX10_init 38 = .ok (.new 26, 3) := by decide +kernel
theorem dX10_init_41 : decode cX10_init 41 = .ok (.dup, 1) := by decide +kernel
theorem dX10_init_42 : decode cX10_init 42 = .ok (.aload_n 0, 1) := by decide +kernel
theorem dX10_init_43 : decode cX10_init 43 = .ok (.getfield 23, 3) := by decide +kernel
theorem dX10_init_46 : decode cX10_init 46 = .ok (.invokespecial 28, 3) := by decide +kernel
theorem dX10_init_49 : decode cX10_init 49 = .ok (.putfield 31, 3) := by decide +kernel
theorem dX10_init_52 : decode cX10_init 52 = .ok (.aload_n 0, 1) := by decide +kernel
theorem dX10_init_53 : decode cX10_init 53 = .ok (.new 35, 3) := by decide +kernel
theorem dX10_init_56 : decode cX10_init 56 = .ok (.dup, 1) := by decide +kernel
theorem dX10_init_57 : decode cX10_init 57 = .ok (.invokespecial 37, 3) := by decide +kernel
theorem dX10_init_60 : decode cX10_init 60 = .ok (.putfield 38, 3) := by decide +kernel
theorem dX10_init_63 : decode cX10_init 63 = .ok (.aload_n 0, 1) := by decide +kernel
theorem dX10_init_64 : decode cX10_init 64 = .ok (.new 42, 3) := by decide +kernel
theorem dX10_init_67 : decode cX10_init 67 = .ok (.dup, 1) := by decide +kernel
theorem dX10_init_68 : decode cX10_init 68 = .ok (.invokespecial 44, 3) := by decide +kernel
theorem dX10_init_71 : decode cX10_init 71 = .ok (.putfield 45, 3) := by decide +kernel
theorem dX10_init_74 : decode cX10_init 74 = .ok (.aload_n 0, 1) := by decide +kernel
theorem dX10_init_75 : decode cX10_init 75 = .ok (.new 49, 3) := by decide +kernel
theorem dX10_init_78 : decode cX10_init 78 = .ok (.dup, 1) := by decide +kernel
theorem dX10_init_79 : decode cX10_init 79 = .ok (.aload_n 0, 1) := by decide +kernel
theorem dX10_init_80 : decode cX10_init 80 = .ok (.getfield 19, 3) := by decide +kernel
theorem dX10_init_83 : decode cX10_init 83 = .ok (.aload_n 0, 1) := by decide +kernel
theorem dX10_init_84 : decode cX10_init 84 = .ok (.getfield 38, 3) := by decide +kernel
theorem dX10_init_87 : decode cX10_init 87 = .ok (.invokespecial 51, 3) := by decide +kernel
theorem dX10_init_90 : decode cX10_init 90 = .ok (.putfield 54, 3) := by decide +kernel
theorem dX10_init_93 : decode cX10_init 93 = .ok (.aload_n 0, 1) := by decide +kernel
theorem dX10_init_94 : decode cX10_init 94 = .ok (.new 58, 3) := by decide +kernel
theorem dX10_init_97 : decode cX10_init 97 = .ok (.dup, 1) := by decide +kernel
theorem dX10_init_98 : decode cX10_init 98 = .ok (.invokespecial 60, 3) := by decide +kernel
theorem dX10_init_101 : decode cX10_init 101 = .ok (.putfield 61, 3) := by decide +kernel
theorem dX10_init_104 : decode cX10_init 104 = .ok (.aload_n 0, 1) := by decide +kernel
theorem dX10_init_105 : decode cX10_init 105 = .ok (.iconst 3, 1) := by decide +kernel
theorem dX10_init_106 : decode cX10_init 106 = .ok (.anewarray 58, 3) := by decide +kernel
theorem dX10_init_109 : decode cX10_init 109 = .ok (.putfield 65, 3) := by decide +kernel
theorem dX10_init_112 : decode cX10_init 112 = .ok (.iconst 0, 1) := by decide +kernel
theorem dX10_init_113 : decode cX10_init 113 = .ok (.istore_n 1, 1) := by decide +kernel
theorem dX10_init_114 : decode cX10_init 114 = .ok (.iload_n 1, 1) := by decide +kernel
theorem dX10_init_115 : decode cX10_init 115 = .ok (.iconst 3, 1) := by decide +kernel
theorem dX10_init_116 : decode cX10_init 116 = .ok (.if_icmp .ge 22, 3) := by decide +kernel
theorem dX10_init_119 : decode cX10_init 119 = .ok (.aload_n 0, 1) := by decide +kernel
theorem dX10_init_120 : decode cX10_init 120 = .ok (.getfield 65, 3) := by decide +kernel
theorem dX10_init_123 : decode cX10_init 123 = .ok (.iload_n 1, 1) := by decide +kernel
theorem dX10_init_124 : decode cX10_init 124 = .ok (.new 58, 3) := by decide +kernel
theorem dX10_init_127 : decode cX10_init 127 = .ok (.dup, 1) := by decide +kernel
theorem dX10_init_128 : decode cX10_init 128 = .ok (.invokespecial 60, 3) := by decide +kernel
theorem dX10_init_131 : decode cX10_init 131 = .ok (.aastore, 1) := by decide +kernel
theorem dX10_init_132 : decode cX10_init 132 = .ok (.iinc 1 1, 3) := by decide +kernel
theorem dX10_init_135 : decode cX10_init 135 = .ok (.goto (-21), 3) := by decide +kernel
theorem dX10_init_138 : decode cX10_init 138 = .ok (.aload_n 0, 1) := by decide +kernel
theorem dX10_init_139 : decode cX10_init 139 = .ok (.bipush 16, 2) := by decide +kernel
theorem dX10_init_141 : decode cX10_init 141 = .ok (.newarray .int, 2) := by decide +kernel
theorem dX10_init_143 : decode cX10_init 143 = .ok (.putfield 69, 3) := by decide +kernel
theorem dX10_init_146 : decode cX10_init 146 = .ok (.aload_n 0, 1) := by decide +kernel
theorem dX10_init_147 : decode cX10_init 147 = .ok (.bipush 6, 2) := by decide +kernel
theorem dX10_init_149 : decode cX10_init 149 = .ok (.newarray .int, 2) := by decide +kernel
theorem dX10_init_151 : decode cX10_init 151 = .ok (.putfield 73, 3) := by decide +kernel
theorem dX10_init_154 : decode cX10_init 154 = .ok (.aload_n 0, 1) := by decide +kernel
theorem dX10_init_155 : decode cX10_init 155 = .ok (.iconst 0, 1) := by decide +kernel
theorem dX10_init_156 : decode cX10_init 156 = .ok (.putfield 76, 3) := by decide +kernel
theorem dX10_init_159 : decode cX10_init 159 = .ok (.aload_n 0, 1) := by decide +kernel
theorem dX10_init_160 : decode cX10_init 160 = .ok (.iconst 0, 1) := by decide +kernel
theorem dX10_init_161 : decode cX10_init 161 = .ok (.putfield 80, 3) := by decide +kernel
theorem dX10_init_164 : decode cX10_init 164 = .ok (.return_, 1) := by decide +kernel
theorem dX10_feed_0 : decode cX10_feed 0 = .ok (.aload_n 0, 1) := by decide +kernel
theorem dX10_feed_1 : decode cX10_feed 1 = .ok (.getfield 12, 3) := by decide +kernel
theorem dX10_feed_4 : decode cX10_feed 4 = .ok (.bipush 20, 2) := by decide +kernel
theorem dX10_feed_6 : decode cX10_feed 6 = .ok (.invokevirtual 84, 3) := by decide +kernel
theorem dX10_feed_9 : decode cX10_feed 9 = .ok (.ifCond .ne 5, 3) := by decide +kernel
theorem dX10_feed_12 : decode cX10_feed 12 = .ok (.iconst (-1), 1) := by decide +kernel
theorem dX10_feed_13 : decode cX10_feed 13 = .ok (.ireturn, 1) := by decide +kernel
theorem dX10_feed_14 : decode cX10_feed 14 = .ok (.aload_n 0, 1) := by decide +kernel
theorem dX10_feed_15 : decode cX10_feed 15 = .ok (.getfield 12, 3) := by decide +kernel
theorem dX10_feed_18 : decode cX10_feed 18 = .ok (.iload_n 1, 1) := by decide +kernel
theorem dX10_feed_19 : decode cX10_feed 19 = .ok (.invokevirtual 88, 3) := by decide +kernel
theorem dX10_feed_22 : decode cX10_feed 22 = .ok (.aload_n 0, 1) := by decide +kernel
theorem dX10_feed_23 : decode cX10_feed 23 = .ok (.getfield 12, 3) := by decide +kernel
theorem dX10_feed_26 : decode cX10_feed 26 = .ok (.iload_n 2, 1) := by decide +kernel
theorem dX10_feed_27 : decode cX10_feed 27 = .ok (.invokevirtual 88, 3) := by decide +kernel
theorem dX10_feed_30 : decode cX10_feed 30 = .ok (.aload_n 0, 1) := by decide +kernel
theorem dX10_feed_31 : decode cX10_feed 31 = .ok (.getfield 12, 3) := by decide +kernel
theorem dX10_feed_34 : decode cX10_feed 34 = .ok (.iload_n 3, 1) := by decide +kernel
theorem dX10_feed_35 : decode cX10_feed 35 = .ok (.invokevirtual 88, 3) := by decide +kernel
theorem dX10_feed_38 : decode cX10_feed 38 = .ok (.aload_n 0, 1) := by decide +kernel
theorem dX10_feed_39 : decode cX10_feed 39 = .ok (.getfield 12, 3) := by decide +kernel
theorem dX10_feed_42 : decode cX10_feed 42 = .ok (.iload 4, 2) := by decide +kernel
theorem dX10_feed_44 : decode cX10_feed 44 = .ok (.invokevirtual 88, 3) := by decide +kernel
theorem dX10_feed_47 : decode cX10_feed 47 = .ok (.aload_n 0, 1) := by decide +kernel
theorem dX10_feed_48 : decode cX10_feed 48 = .ok (.getfield 12, 3) := by decide +kernel
theorem dX10_feed_51 : decode cX10_feed 51 = .ok (.iload 5, 2) := by decide +kernel
theorem dX10_feed_53 : decode cX10_feed 53 = .ok (.invokevirtual 88, 3) := by decide +kernel
theorem dX10_feed_56 : decode cX10_feed 56 = .ok (.aload_n 0, 1) := by decide +kernel
theorem dX10_feed_57 : decode cX10_feed 57 = .ok (.getfield 12, 3) := by decide +kernel
theorem dX10_feed_60 : decode cX10_feed 60 = .ok (.getfield 92, 3) := by decide +kernel
theorem dX10_feed_63 : decode cX10_feed 63 = .ok (.ireturn, 1) := by decide +kernel
theorem dX10_end_0 : decode cX10_end 0 = .ok (.iload_n 1, 1) := by decide +kernel
theorem dX10_end_1 : decode cX10_end 1 = .ok (.ifCond .lt 14, 3) := by decide +kernel
theorem dX10_end_4 : decode cX10_end 4 = .ok (.iload_n 1, 1) := by decide +kernel
theorem dX10_end_5 : decode cX10_end 5 = .ok (.aload_n 0, 1) := by decide +kernel
theorem dX10_end_6 : decode cX10_end 6 = .ok (.getfield 12, 3) := by decide +kernel
theorem dX10_end_9 : decode cX10_end 9 = .ok (.getfield 92, 3) := by decide +kernel
theorem dX10_end_12 : decode cX10_end 12 = .ok (.if_icmp .le 5, 3) := by decide +kernel
theorem dX10_end_15 : decode cX10_end 15 = .ok (.iconst (-1), 1) := by decide +kernel
theorem dX10_end_16 : decode cX10_end 16 = .ok (.ireturn, 1) := by decide +kernel
theorem dX10_end_17 : decode cX10_end 17 = .ok (.aload_n 0, 1) := by decide +kernel
theorem dX10_end_18 : decode cX10_end 18 = .ok (.getfield 12, 3) := by decide +kernel
theorem dX10_end_21 : decode cX10_end 21 = .ok (.iload_n 1, 1) := by decide +kernel
theorem dX10_end_22 : decode cX10_end 22 = .ok (.putfield 92, 3) := by decide +kernel
theorem dX10_end_25 : decode cX10_end 25 = .ok (.iload_n 1, 1) := by decide +kernel
theorem dX10_end_26 : decode cX10_end 26 = .ok (.ireturn, 1) := by decide +kernel
theorem dX10_bench_0 : decode cX10_bench 0 = .ok (.aload_n 0, 1) := by decide +kernel
theorem dX10_bench_1 : decode cX10_bench 1 = .ok (.getfield 31, 3) := by decide +kernel
theorem dX10_bench_4 : decode cX10_bench 4 = .ok (.aload_n 0, 1) := by decide +kernel
theorem dX10_bench_5 : decode cX10_bench 5 = .ok (.getfield 12, 3) := by decide +kernel
theorem dX10_bench_8 : decode cX10_bench 8 = .ok (.aload_n 0, 1) := by decide +kernel
theorem dX10_bench_9 : decode cX10_bench 9 = .ok (.getfield 23, 3) := by decide +kernel
theorem dX10_bench_12 : decode cX10_bench 12 = .ok (.invokevirtual 95, 3) := by decide +kernel
theorem dX10_bench_15 : decode cX10_bench 15 = .ok (.istore_n 1, 1) := by decide +kernel
theorem dX10_bench_16 : decode cX10_bench 16 = .ok (.aload_n 0, 1) := by decide +kernel
theorem dX10_bench_17 : decode cX10_bench 17 = .ok (.getfield 12, 3) := by decide +kernel
theorem dX10_bench_20 : decode cX10_bench 20 = .ok (.iconst 0, 1) := by decide +kernel
theorem dX10_bench_21 : decode cX10_bench 21 = .ok (.putfield 92, 3) := by decide +kernel
theorem dX10_bench_24 : decode cX10_bench 24 = .ok (.iload_n 1, 1) := by decide +kernel
theorem dX10_bench_25 : decode cX10_bench 25 = .ok (.ifCond .ne 5, 3) := by decide +kernel
theorem dX10_bench_28 : decode cX10_bench 28 = .ok (.iconst (-1), 1) := by decide +kernel
theorem dX10_bench_29 : decode cX10_bench 29 = .ok (.ireturn, 1) := by decide +kernel
theorem dX10_bench_30 : decode cX10_bench 30 = .ok (.aload_n 0, 1) := by decide +kernel
theorem dX10_bench_31 : decode cX10_bench 31 = .ok (.getfield 19, 3) := by decide +kernel
theorem dX10_bench_34 : decode cX10_bench 34 = .ok (.astore_n 2, 1) := by decide +kernel
theorem dX10_bench_35 : decode cX10_bench 35 = .ok (.aload_n 0, 1) := by decide +kernel
theorem dX10_bench_36 : decode cX10_bench 36 = .ok (.aload_n 0, 1) := by decide +kernel
theorem dX10_bench_37 : decode cX10_bench 37 = .ok (.getfield 23, 3) := by decide +kernel
theorem dX10_bench_40 : decode cX10_bench 40 = .ok (.putfield 19, 3) := by decide +kernel
theorem dX10_bench_43 : decode cX10_bench 43 = .ok (.aload_n 0, 1) := by decide +kernel
theorem dX10_bench_44 : decode cX10_bench 44 = .ok (.aload_n 2, 1) := by decide +kernel
theorem dX10_bench_45 : decode cX10_bench 45 = .ok (.putfield 23, 3) := by decide +kernel
theorem dX10_bench_48 : decode cX10_bench 48 = .ok (.aload_n 0, 1) := by decide +kernel
theorem dX10_bench_49 : decode cX10_bench 49 = .ok (.invokevirtual 99, 3) := by decide +kernel
theorem dX10_bench_52 : decode cX10_bench 52 = .ok (.aload_n 0, 1) := by decide +kernel
theorem dX10_bench_53 : decode cX10_bench 53 = .ok (.getfield 19, 3) := by decide +kernel
theorem dX10_bench_56 : decode cX10_bench 56 = .ok (.getfield 102, 3) := by decide +kernel
theorem dX10_bench_59 : decode cX10_bench 59 = .ok (.getfield 106, 3) := by decide +kernel
theorem dX10_bench_62 : decode cX10_bench 62 = .ok (.ireturn, 1) := by decide +kernel
theorem dX10_fault_0 : decode cX10_fault 0 = .ok (.iload_n 1, 1) := by decide +kernel
theorem dX10_fault_1 : decode cX10_fault 1 = .ok (.lookupswitch 43 #[(0, 27), (1, 35)], 27) := by decide +kernel
theorem dX10_fault_28 : decode cX10_fault 28 = .ok (.aload_n 0, 1) := by decide +kernel
theorem dX10_fault_29 : decode cX10_fault 29 = .ok (.getfield 31, 3) := by decide +kernel
theorem dX10_fault_32 : decode cX10_fault 32 = .ok (.getfield 111, 3) := by decide +kernel
theorem dX10_fault_35 : decode cX10_fault 35 = .ok (.ireturn, 1) := by decide +kernel
theorem dX10_fault_36 : decode cX10_fault 36 = .ok (.aload_n 0, 1) := by decide +kernel
theorem dX10_fault_37 : decode cX10_fault 37 = .ok (.getfield 31, 3) := by decide +kernel
theorem dX10_fault_40 : decode cX10_fault 40 = .ok (.getfield 114, 3) := by decide +kernel
theorem dX10_fault_43 : decode cX10_fault 43 = .ok (.ireturn, 1) := by decide +kernel
theorem dX10_fault_44 : decode cX10_fault 44 = .ok (.iconst (-1), 1) := by decide +kernel
theorem dX10_fault_45 : decode cX10_fault 45 = .ok (.ireturn, 1) := by decide +kernel
theorem dX10_startAnew_0 : decode cX10_startAnew 0 = .ok (.aload_n 0, 1) := by decide +kernel
theorem dX10_startAnew_1 : decode cX10_startAnew 1 = .ok (.getfield 38, 3) := by decide +kernel
theorem dX10_startAnew_4 : decode cX10_startAnew 4 = .ok (.aload_n 0, 1) := by decide +kernel
theorem dX10_startAnew_5 : decode cX10_startAnew 5 = .ok (.getfield 19, 3) := by decide +kernel
theorem dX10_startAnew_8 : decode cX10_startAnew 8 = .ok (.invokevirtual 117, 3) := by decide +kernel
theorem dX10_startAnew_11 : decode cX10_startAnew 11 = .ok (.aload_n 0, 1) := by decide +kernel
theorem dX10_startAnew_12 : decode cX10_startAnew 12 = .ok (.getfield 45, 3) := by decide +kernel
theorem dX10_startAnew_15 : decode cX10_startAnew 15 = .ok (.iconst 0, 1) := by decide +kernel
theorem dX10_startAnew_16 : decode cX10_startAnew 16 = .ok (.putfield 120, 3) := by decide +kernel
theorem dX10_startAnew_19 : decode cX10_startAnew 19 = .ok (.aload_n 0, 1) := by decide +kernel
theorem dX10_startAnew_20 : decode cX10_startAnew 20 = .ok (.getfield 54, 3) := by decide +kernel
theorem dX10_startAnew_23 : decode cX10_startAnew 23 = .ok (.aload_n 0, 1) := by decide +kernel
theorem dX10_startAnew_24 : decode cX10_startAnew 24 = .ok (.getfield 19, 3) := by decide +kernel
theorem dX10_startAnew_27 : decode cX10_startAnew 27 = .ok (.invokevirtual 121, 3) := by decide +kernel
theorem dX10_startAnew_30 : decode cX10_startAnew 30 = .ok (.aload_n 0, 1) := by decide +kernel
theorem dX10_startAnew_31 : decode cX10_startAnew 31 = .ok (.getfield 61, 3) := by decide +kernel
theorem dX10_startAnew_34 : decode cX10_startAnew 34 = .ok (.iconst 0, 1) := by decide +kernel
theorem dX10_startAnew_35 : decode cX10_startAnew 35 = .ok (.invokevirtual 124, 3) := by decide +kernel
theorem dX10_startAnew_38 : decode cX10_startAnew 38 = .ok (.iconst 0, 1) := by decide +kernel
theorem dX10_startAnew_39 : decode cX10_startAnew 39 = .ok (.istore_n 1, 1) := by decide +kernel
theorem dX10_startAnew_40 : decode cX10_startAnew 40 = .ok (.iload_n 1, 1) := by decide +kernel
theorem dX10_startAnew_41 : decode cX10_startAnew 41 = .ok (.iconst 3, 1) := by decide +kernel
theorem dX10_startAnew_42 : decode cX10_startAnew 42 = .ok (.if_icmp .ge 19, 3) := by decide +kernel
theorem dX10_startAnew_45 : decode cX10_startAnew 45 = .ok (.aload_n 0, 1) := by decide +kernel
theorem dX10_startAnew_46 : decode cX10_startAnew 46 = .ok (.getfield 65, 3) := by decide +kernel
theorem dX10_startAnew_49 : decode cX10_startAnew 49 = .ok (.iload_n 1, 1) := by decide +kernel
theorem dX10_startAnew_50 : decode cX10_startAnew 50 = .ok (.aaload, 1) := by decide +kernel
theorem dX10_startAnew_51 : decode cX10_startAnew 51 = .ok (.iconst 0, 1) := by decide +kernel
theorem dX10_startAnew_52 : decode cX10_startAnew 52 = .ok (.putfield 127, 3) := by decide +kernel
theorem dX10_startAnew_55 : decode cX10_startAnew 55 = .ok (.iinc 1 1, 3) := by decide +kernel
theorem dX10_startAnew_58 : decode cX10_startAnew 58 = .ok (.goto (-18), 3) := by decide +kernel
theorem dX10_startAnew_61 : decode cX10_startAnew 61 = .ok (.aload_n 0, 1) := by decide +kernel
theorem dX10_startAnew_62 : decode cX10_startAnew 62 = .ok (.iconst 0, 1) := by decide +kernel
theorem dX10_startAnew_63 : decode cX10_startAnew 63 = .ok (.putfield 76, 3) := by decide +kernel
theorem dX10_startAnew_66 : decode cX10_startAnew 66 = .ok (.return_, 1) := by decide +kernel
theorem dX10_throwsBack_0 : decode cX10_throwsBack 0 = .ok (.aload_n 0, 1) := by decide +kernel
theorem dX10_throwsBack_1 : decode cX10_throwsBack 1 = .ok (.iload_n 1, 1) := by decide +kernel
theorem dX10_throwsBack_2 : decode cX10_throwsBack 2 = .ok (.invokevirtual 130, 3) := by decide +kernel
theorem dX10_throwsBack_5 : decode cX10_throwsBack 5 = .ok (.astore_n 3, 1) := by decide +kernel
theorem dX10_throwsBack_6 : decode cX10_throwsBack 6 = .ok (.aload_n 3, 1) := by decide +kernel
theorem dX10_throwsBack_7 : decode cX10_throwsBack 7 = .ok (.ifnull 18, 3) := by decide +kernel
theorem dX10_throwsBack_10 : decode cX10_throwsBack 10 = .ok (.iload_n 2, 1) := by decide +kernel
theorem dX10_throwsBack_11 : decode cX10_throwsBack 11 = .ok (.ifCond .lt 14, 3) := by decide +kernel
theorem dX10_throwsBack_14 : decode cX10_throwsBack 14 = .ok (.iload_n 2, 1) := by decide +kernel
theorem dX10_throwsBack_15 : decode cX10_throwsBack 15 = .ok (.aload_n 0, 1) := by decide +kernel
theorem dX10_throwsBack_16 : decode cX10_throwsBack 16 = .ok (.getfield 19, 3) := by decide +kernel
theorem dX10_throwsBack_19 : decode cX10_throwsBack 19 = .ok (.getfield 134, 3) := by decide +kernel
theorem dX10_throwsBack_22 : decode cX10_throwsBack 22 = .ok (.if_icmp .lt 7, 3) := by decide +kernel
theorem dX10_throwsBack_25 : decode cX10_throwsBack 25 = .ok (.iconst (-1), 1) := by decide +kernel
theorem dX10_throwsBack_26 : decode cX10_throwsBack 26 = .ok (.goto 6, 3) := by decide +kernel
theorem dX10_throwsBack_29 : decode cX10_throwsBack 29 = .ok (.aload_n 3, 1) := by decide +kernel
theorem dX10_throwsBack_30 : decode cX10_throwsBack 30 = .ok (.iload_n 2, 1) := by decide +kernel
theorem dX10_throwsBack_31 : decode cX10_throwsBack 31 = .ok (.iaload, 1) := by decide +kernel
theorem dX10_throwsBack_32 : decode cX10_throwsBack 32 = .ok (.ireturn, 1) := by decide +kernel
theorem dX10_seen_0 : decode cX10_seen 0 = .ok (.aload_n 0, 1) := by decide +kernel
theorem dX10_seen_1 : decode cX10_seen 1 = .ok (.iload_n 1, 1) := by decide +kernel
theorem dX10_seen_2 : decode cX10_seen 2 = .ok (.invokevirtual 130, 3) := by decide +kernel
theorem dX10_seen_5 : decode cX10_seen 5 = .ok (.astore 4, 2) := by decide +kernel
theorem dX10_seen_7 : decode cX10_seen 7 = .ok (.aload 4, 2) := by decide +kernel
theorem dX10_seen_9 : decode cX10_seen 9 = .ok (.ifnull 31, 3) := by decide +kernel
theorem dX10_seen_12 : decode cX10_seen 12 = .ok (.aload_n 0, 1) := by decide +kernel
theorem dX10_seen_13 : decode cX10_seen 13 = .ok (.getfield 19, 3) := by decide +kernel
theorem dX10_seen_16 : decode cX10_seen 16 = .ok (.getfield 137, 3) := by decide +kernel
theorem dX10_seen_19 : decode cX10_seen 19 = .ok (.iload_n 2, 1) := by decide +kernel
theorem dX10_seen_20 : decode cX10_seen 20 = .ok (.invokevirtual 140, 3) := by decide +kernel
theorem dX10_seen_23 : decode cX10_seen 23 = .ok (.ifCond .eq 17, 3) := by decide +kernel
theorem dX10_seen_26 : decode cX10_seen 26 = .ok (.aload_n 0, 1) := by decide +kernel
theorem dX10_seen_27 : decode cX10_seen 27 = .ok (.getfield 19, 3) := by decide +kernel
theorem dX10_seen_30 : decode cX10_seen 30 = .ok (.getfield 143, 3) := by decide +kernel
theorem dX10_seen_33 : decode cX10_seen 33 = .ok (.iload_n 3, 1) := by decide +kernel
theorem dX10_seen_34 : decode cX10_seen 34 = .ok (.invokevirtual 140, 3) := by decide +kernel
theorem dX10_seen_37 : decode cX10_seen 37 = .ok (.ifCond .ne 7, 3) := by decide +kernel
theorem dX10_seen_40 : decode cX10_seen 40 = .ok (.ldc2_w 146, 3) := by decide +kernel
theorem dX10_seen_43 : decode cX10_seen 43 = .ok (.lreturn, 1) := by decide +kernel
theorem dX10_seen_44 : decode cX10_seen 44 = .ok (.aload_n 0, 1) := by decide +kernel
theorem dX10_seen_45 : decode cX10_seen 45 = .ok (.getfield 19, 3) := by decide +kernel
theorem dX10_seen_48 : decode cX10_seen 48 = .ok (.aload 4, 2) := by decide +kernel
theorem dX10_seen_50 : decode cX10_seen 50 = .ok (.iload_n 2, 1) := by decide +kernel
theorem dX10_seen_51 : decode cX10_seen 51 = .ok (.iload_n 3, 1) := by decide +kernel
theorem dX10_seen_52 : decode cX10_seen 52 = .ok (.invokevirtual 148, 3) := by decide +kernel
theorem dX10_seen_55 : decode cX10_seen 55 = .ok (.lreturn, 1) := by decide +kernel
theorem dX10_apart_0 : decode cX10_apart 0 = .ok (.aload_n 0, 1) := by decide +kernel
theorem dX10_apart_1 : decode cX10_apart 1 = .ok (.iload_n 1, 1) := by decide +kernel
theorem dX10_apart_2 : decode cX10_apart 2 = .ok (.invokevirtual 130, 3) := by decide +kernel
theorem dX10_apart_5 : decode cX10_apart 5 = .ok (.astore 5, 2) := by decide +kernel
theorem dX10_apart_7 : decode cX10_apart 7 = .ok (.aload_n 0, 1) := by decide +kernel
theorem dX10_apart_8 : decode cX10_apart 8 = .ok (.iload_n 2, 1) := by decide +kernel
theorem dX10_apart_9 : decode cX10_apart 9 = .ok (.invokevirtual 130, 3) := by decide +kernel
theorem dX10_apart_12 : decode cX10_apart 12 = .ok (.astore 6, 2) := by decide +kernel
theorem dX10_apart_14 : decode cX10_apart 14 = .ok (.aload 5, 2) := by decide +kernel
theorem dX10_apart_16 : decode cX10_apart 16 = .ok (.ifnull 22, 3) := by decide +kernel
theorem dX10_apart_19 : decode cX10_apart 19 = .ok (.aload 6, 2) := by decide +kernel
theorem dX10_apart_21 : decode cX10_apart 21 = .ok (.ifnull 17, 3) := by decide +kernel
theorem dX10_apart_24 : decode cX10_apart 24 = .ok (.aload_n 0, 1) := by decide +kernel
theorem dX10_apart_25 : decode cX10_apart 25 = .ok (.getfield 19, 3) := by decide +kernel
theorem dX10_apart_28 : decode cX10_apart 28 = .ok (.getfield 137, 3) := by decide +kernel
theorem dX10_apart_31 : decode cX10_apart 31 = .ok (.iload_n 3, 1) := by decide +kernel
theorem dX10_apart_32 : decode cX10_apart 32 = .ok (.invokevirtual 140, 3) := by decide +kernel
theorem dX10_apart_35 : decode cX10_apart 35 = .ok (.ifCond .ne 7, 3) := by decide +kernel
theorem dX10_apart_38 : decode cX10_apart 38 = .ok (.ldc2_w 146, 3) := by decide +kernel
theorem dX10_apart_41 : decode cX10_apart 41 = .ok (.lreturn, 1) := by decide +kernel
theorem dX10_apart_42 : decode cX10_apart 42 = .ok (.aload_n 0, 1) := by decide +kernel
theorem dX10_apart_43 : decode cX10_apart 43 = .ok (.getfield 19, 3) := by decide +kernel
theorem dX10_apart_46 : decode cX10_apart 46 = .ok (.aload 5, 2) := by decide +kernel
theorem dX10_apart_48 : decode cX10_apart 48 = .ok (.aload 6, 2) := by decide +kernel
theorem dX10_apart_50 : decode cX10_apart 50 = .ok (.iload_n 3, 1) := by decide +kernel
theorem dX10_apart_51 : decode cX10_apart 51 = .ok (.iload 4, 2) := by decide +kernel
theorem dX10_apart_53 : decode cX10_apart 53 = .ok (.invokevirtual 152, 3) := by decide +kernel
theorem dX10_apart_56 : decode cX10_apart 56 = .ok (.lreturn, 1) := by decide +kernel
theorem dX10_alike_0 : decode cX10_alike 0 = .ok (.aload_n 0, 1) := by decide +kernel
theorem dX10_alike_1 : decode cX10_alike 1 = .ok (.iload_n 1, 1) := by decide +kernel
theorem dX10_alike_2 : decode cX10_alike 2 = .ok (.invokevirtual 130, 3) := by decide +kernel
theorem dX10_alike_5 : decode cX10_alike 5 = .ok (.astore 4, 2) := by decide +kernel
theorem dX10_alike_7 : decode cX10_alike 7 = .ok (.aload_n 0, 1) := by decide +kernel
theorem dX10_alike_8 : decode cX10_alike 8 = .ok (.iload_n 2, 1) := by decide +kernel
theorem dX10_alike_9 : decode cX10_alike 9 = .ok (.invokevirtual 130, 3) := by decide +kernel
theorem dX10_alike_12 : decode cX10_alike 12 = .ok (.astore 5, 2) := by decide +kernel
theorem dX10_alike_14 : decode cX10_alike 14 = .ok (.aload 4, 2) := by decide +kernel
theorem dX10_alike_16 : decode cX10_alike 16 = .ok (.ifnull 8, 3) := by decide +kernel
theorem dX10_alike_19 : decode cX10_alike 19 = .ok (.aload 5, 2) := by decide +kernel
theorem dX10_alike_21 : decode cX10_alike 21 = .ok (.ifnonnull 5, 3) := by decide +kernel
theorem dX10_alike_24 : decode cX10_alike 24 = .ok (.iconst (-1), 1) := by decide +kernel
theorem dX10_alike_25 : decode cX10_alike 25 = .ok (.ireturn, 1) := by decide +kernel
theorem dX10_alike_26 : decode cX10_alike 26 = .ok (.iconst 0, 1) := by decide +kernel
theorem dX10_alike_27 : decode cX10_alike 27 = .ok (.istore 6, 2) := by decide +kernel
theorem dX10_alike_29 : decode cX10_alike 29 = .ok (.iconst 0, 1) := by decide +kernel
theorem dX10_alike_30 : decode cX10_alike 30 = .ok (.istore 7, 2) := by decide +kernel
theorem dX10_alike_32 : decode cX10_alike 32 = .ok (.iload 7, 2) := by decide +kernel
theorem dX10_alike_34 : decode cX10_alike 34 = .ok (.aload_n 0, 1) := by decide +kernel
theorem dX10_alike_35 : decode cX10_alike 35 = .ok (.getfield 19, 3) := by decide +kernel
theorem dX10_alike_38 : decode cX10_alike 38 = .ok (.getfield 137, 3) := by decide +kernel
theorem dX10_alike_41 : decode cX10_alike 41 = .ok (.getfield 106, 3) := by decide +kernel
theorem dX10_alike_44 : decode cX10_alike 44 = .ok (.if_icmp .ge 35, 3) := by decide +kernel
theorem dX10_alike_47 : decode cX10_alike 47 = .ok (.aload_n 0, 1) := by decide +kernel
theorem dX10_alike_48 : decode cX10_alike 48 = .ok (.getfield 19, 3) := by decide +kernel
theorem dX10_alike_51 : decode cX10_alike 51 = .ok (.aload 4, 2) := by decide +kernel
theorem dX10_alike_53 : decode cX10_alike 53 = .ok (.aload 5, 2) := by decide +kernel
theorem dX10_alike_55 : decode cX10_alike 55 = .ok (.iload 7, 2) := by decide +kernel
theorem dX10_alike_57 : decode cX10_alike 57 = .ok (.iload_n 3, 1) := by decide +kernel
theorem dX10_alike_58 : decode cX10_alike 58 = .ok (.invokevirtual 156, 3) := by decide +kernel
theorem dX10_alike_61 : decode cX10_alike 61 = .ok (.ifCond .eq 12, 3) := by decide +kernel
theorem dX10_alike_64 : decode cX10_alike 64 = .ok (.iload 6, 2) := by decide +kernel
theorem dX10_alike_66 : decode cX10_alike 66 = .ok (.iconst 1, 1) := by decide +kernel
theorem dX10_alike_67 : decode cX10_alike 67 = .ok (.iload 7, 2) := by decide +kernel
theorem dX10_alike_69 : decode cX10_alike 69 = .ok (.ishl, 1) := by decide +kernel
theorem dX10_alike_70 : decode cX10_alike 70 = .ok (.ior, 1) := by decide +kernel
theorem dX10_alike_71 : decode cX10_alike 71 = .ok (.istore 6, 2) := by decide +kernel
theorem dX10_alike_73 : decode cX10_alike 73 = .ok (.iinc 7 1, 3) := by decide +kernel
theorem dX10_alike_76 : decode cX10_alike 76 = .ok (.goto (-44), 3) := by decide +kernel
theorem dX10_alike_79 : decode cX10_alike 79 = .ok (.iload 6, 2) := by decide +kernel
theorem dX10_alike_81 : decode cX10_alike 81 = .ok (.ireturn, 1) := by decide +kernel
theorem dX10_cost_0 : decode cX10_cost 0 = .ok (.iload_n 1, 1) := by decide +kernel
theorem dX10_cost_1 : decode cX10_cost 1 = .ok (.iconst (-1), 1) := by decide +kernel
theorem dX10_cost_2 : decode cX10_cost 2 = .ok (.if_icmp .ne 18, 3) := by decide +kernel
theorem dX10_cost_5 : decode cX10_cost 5 = .ok (.aload_n 0, 1) := by decide +kernel
theorem dX10_cost_6 : decode cX10_cost 6 = .ok (.getfield 19, 3) := by decide +kernel
theorem dX10_cost_9 : decode cX10_cost 9 = .ok (.aload_n 0, 1) := by decide +kernel
theorem dX10_cost_10 : decode cX10_cost 10 = .ok (.getfield 61, 3) := by decide +kernel
theorem dX10_cost_13 : decode cX10_cost 13 = .ok (.getfield 160, 3) := by decide +kernel
theorem dX10_cost_16 : decode cX10_cost 16 = .ok (.invokevirtual 163, 3) := by decide +kernel
theorem dX10_cost_19 : decode cX10_cost 19 = .ok (.ireturn, 1) := by decide +kernel
theorem dX10_cost_20 : decode cX10_cost 20 = .ok (.aload_n 0, 1) := by decide +kernel
theorem dX10_cost_21 : decode cX10_cost 21 = .ok (.getfield 19, 3) := by decide +kernel
theorem dX10_cost_24 : decode cX10_cost 24 = .ok (.getfield 102, 3) := by decide +kernel
theorem dX10_cost_27 : decode cX10_cost 27 = .ok (.iload_n 1, 1) := by decide +kernel
theorem dX10_cost_28 : decode cX10_cost 28 = .ok (.invokevirtual 140, 3) := by decide +kernel
theorem dX10_cost_31 : decode cX10_cost 31 = .ok (.ifCond .eq 25, 3) := by decide +kernel
theorem dX10_cost_34 : decode cX10_cost 34 = .ok (.aload_n 0, 1) := by decide +kernel
theorem dX10_cost_35 : decode cX10_cost 35 = .ok (.getfield 19, 3) := by decide +kernel
theorem dX10_cost_38 : decode cX10_cost 38 = .ok (.aload_n 0, 1) := by decide +kernel
theorem dX10_cost_39 : decode cX10_cost 39 = .ok (.getfield 19, 3) := by decide +kernel
theorem dX10_cost_42 : decode cX10_cost 42 = .ok (.getfield 102, 3) := by decide +kernel
theorem dX10_cost_45 : decode cX10_cost 45 = .ok (.getfield 167, 3) := by decide +kernel
theorem dX10_cost_48 : decode cX10_cost 48 = .ok (.iload_n 1, 1) := by decide +kernel
theorem dX10_cost_49 : decode cX10_cost 49 = .ok (.aaload, 1) := by decide +kernel
theorem dX10_cost_50 : decode cX10_cost 50 = .ok (.invokevirtual 163, 3) := by decide +kernel
theorem dX10_cost_53 : decode cX10_cost 53 = .ok (.goto 5, 3) := by decide +kernel
theorem dX10_cost_56 : decode cX10_cost 56 = .ok (.bipush (-2), 2) := by decide +kernel
theorem dX10_cost_58 : decode cX10_cost 58 = .ok (.ireturn, 1) := by decide +kernel
theorem dX10_canBeLookedAt_0 : decode cX10_canBeLookedAt 0 = .ok (.iload_n 1, 1) := by decide +kernel
theorem dX10_canBeLookedAt_1 : decode cX10_canBeLookedAt 1 = .ok (.iconst (-1), 1) := by decide +kernel
theorem dX10_canBeLookedAt_2 : decode cX10_canBeLookedAt 2 = .ok (.if_icmp .ne 24, 3) := by decide +kernel
theorem dX10_canBeLookedAt_5 : decode cX10_canBeLookedAt 5 = .ok (.aload_n 0, 1) := by decide +kernel
theorem dX10_canBeLookedAt_6 : decode cX10_canBeLookedAt 6 = .ok (.getfield 19, 3) := by decide +kernel
theorem dX10_canBeLookedAt_9 : decode cX10_canBeLookedAt 9 = .ok (.getfield 171, 3) := by decide +kernel
theorem dX10_canBeLookedAt_12 : decode cX10_canBeLookedAt 12 = .ok (.getfield 106, 3) := by decide +kernel
theorem dX10_canBeLookedAt_15 : decode cX10_canBeLookedAt 15 = .ok (.ifCond .le 7, 3) := by decide +kernel
theorem dX10_canBeLookedAt_18 : decode cX10_canBeLookedAt 18 = .ok (.iconst 1, 1) := by decide +kernel
theorem dX10_canBeLookedAt_19 : decode cX10_canBeLookedAt 19 = .ok (.goto 18, 3) := by decide +kernel
theorem dX10_canBeLookedAt_22 : decode cX10_canBeLookedAt 22 = .ok (.iconst 0, 1) := by decide +kernel
theorem dX10_canBeLookedAt_23 : decode cX10_canBeLookedAt 23 = .ok (.goto 14, 3) := by decide +kernel
theorem dX10_canBeLookedAt_26 : decode cX10_canBeLookedAt 26 = .ok (.aload_n 0, 1) := by decide +kernel
theorem dX10_canBeLookedAt_27 : decode cX10_canBeLookedAt 27 = .ok (.getfield 19, 3) := by decide +kernel
theorem dX10_canBeLookedAt_30 : decode cX10_canBeLookedAt 30 = .ok (.getfield 102, 3) := by decide +kernel
theorem dX10_canBeLookedAt_33 : decode cX10_canBeLookedAt 33 = .ok (.iload_n 1, 1) := by decide +kernel
theorem dX10_canBeLookedAt_34 : decode cX10_canBeLookedAt 34 = .ok (.invokevirtual 140, 3) := by decide +kernel
theorem dX10_canBeLookedAt_37 : decode cX10_canBeLookedAt 37 = .ok (.ireturn, 1) := by decide +kernel
theorem dX10_rowOf_0 : decode cX10_rowOf 0 = .ok (.aload_n 0, 1) := by decide +kernel
theorem dX10_rowOf_1 : decode cX10_rowOf 1 = .ok (.iload_n 1, 1) := by decide +kernel
theorem dX10_rowOf_2 : decode cX10_rowOf 2 = .ok (.invokevirtual 174, 3) := by decide +kernel
theorem dX10_rowOf_5 : decode cX10_rowOf 5 = .ok (.ifCond .ne 5, 3) := by decide +kernel
theorem dX10_rowOf_8 : decode cX10_rowOf 8 = .ok (.aconst_null, 1) := by decide +kernel
theorem dX10_rowOf_9 : decode cX10_rowOf 9 = .ok (.areturn, 1) := by decide +kernel
theorem dX10_rowOf_10 : decode cX10_rowOf 10 = .ok (.iload_n 1, 1) := by decide +kernel
theorem dX10_rowOf_11 : decode cX10_rowOf 11 = .ok (.iconst (-1), 1) := by decide +kernel
theorem dX10_rowOf_12 : decode cX10_rowOf 12 = .ok (.if_icmp .eq 13, 3) := by decide +kernel
theorem dX10_rowOf_15 : decode cX10_rowOf 15 = .ok (.aload_n 0, 1) := by decide +kernel
theorem dX10_rowOf_16 : decode cX10_rowOf 16 = .ok (.getfield 38, 3) := by decide +kernel
theorem dX10_rowOf_19 : decode cX10_rowOf 19 = .ok (.getfield 177, 3) := by decide +kernel
theorem dX10_rowOf_22 : decode cX10_rowOf 22 = .ok (.iload_n 1, 1) := by decide +kernel
theorem dX10_rowOf_23 : decode cX10_rowOf 23 = .ok (.aaload, 1) := by decide +kernel
theorem dX10_rowOf_24 : decode cX10_rowOf 24 = .ok (.areturn, 1) := by decide +kernel
theorem dX10_rowOf_25 : decode cX10_rowOf 25 = .ok (.aload_n 0, 1) := by decide +kernel
theorem dX10_rowOf_26 : decode cX10_rowOf 26 = .ok (.getfield 19, 3) := by decide +kernel
theorem dX10_rowOf_29 : decode cX10_rowOf 29 = .ok (.aload_n 0, 1) := by decide +kernel
theorem dX10_rowOf_30 : decode cX10_rowOf 30 = .ok (.getfield 61, 3) := by decide +kernel
theorem dX10_rowOf_33 : decode cX10_rowOf 33 = .ok (.getfield 178, 3) := by decide +kernel
theorem dX10_rowOf_36 : decode cX10_rowOf 36 = .ok (.aload_n 0, 1) := by decide +kernel
theorem dX10_rowOf_37 : decode cX10_rowOf 37 = .ok (.getfield 61, 3) := by decide +kernel
theorem dX10_rowOf_40 : decode cX10_rowOf 40 = .ok (.getfield 160, 3) := by decide +kernel
theorem dX10_rowOf_43 : decode cX10_rowOf 43 = .ok (.aload_n 0, 1) := by decide +kernel
theorem dX10_rowOf_44 : decode cX10_rowOf 44 = .ok (.getfield 69, 3) := by decide +kernel
theorem dX10_rowOf_47 : decode cX10_rowOf 47 = .ok (.invokevirtual 181, 3) := by decide +kernel
theorem dX10_rowOf_50 : decode cX10_rowOf 50 = .ok (.aload_n 0, 1) := by decide +kernel
theorem dX10_rowOf_51 : decode cX10_rowOf 51 = .ok (.getfield 69, 3) := by decide +kernel
theorem dX10_rowOf_54 : decode cX10_rowOf 54 = .ok (.areturn, 1) := by decide +kernel
theorem dX10_ask_0 : decode cX10_ask 0 = .ok (.aload_n 0, 1) := by decide +kernel
theorem dX10_ask_1 : decode cX10_ask 1 = .ok (.getfield 19, 3) := by decide +kernel
theorem dX10_ask_4 : decode cX10_ask 4 = .ok (.getfield 102, 3) := by decide +kernel
theorem dX10_ask_7 : decode cX10_ask 7 = .ok (.iload_n 1, 1) := by decide +kernel
theorem dX10_ask_8 : decode cX10_ask 8 = .ok (.invokevirtual 140, 3) := by decide +kernel
theorem dX10_ask_11 : decode cX10_ask 11 = .ok (.ifCond .eq 17, 3) := by decide +kernel
theorem dX10_ask_14 : decode cX10_ask 14 = .ok (.aload_n 0, 1) := by decide +kernel
theorem dX10_ask_15 : decode cX10_ask 15 = .ok (.getfield 19, 3) := by decide +kernel
theorem dX10_ask_18 : decode cX10_ask 18 = .ok (.getfield 171, 3) := by decide +kernel
theorem dX10_ask_21 : decode cX10_ask 21 = .ok (.iload_n 2, 1) := by decide +kernel
theorem dX10_ask_22 : decode cX10_ask 22 = .ok (.invokevirtual 140, 3) := by decide +kernel
theorem dX10_ask_25 : decode cX10_ask 25 = .ok (.ifCond .ne 5, 3) := by decide +kernel
theorem dX10_ask_28 : decode cX10_ask 28 = .ok (.iconst 0, 1) := by decide +kernel
theorem dX10_ask_29 : decode cX10_ask 29 = .ok (.ireturn, 1) := by decide +kernel
theorem dX10_ask_30 : decode cX10_ask 30 = .ok (.iload_n 3, 1) := by decide +kernel
theorem dX10_ask_31 : decode cX10_ask 31 = .ok (.ifCond .lt 26, 3) := by decide +kernel
theorem dX10_ask_34 : decode cX10_ask 34 = .ok (.iload_n 3, 1) := by decide +kernel
theorem dX10_ask_35 : decode cX10_ask 35 = .ok (.aload_n 0, 1) := by decide +kernel
theorem dX10_ask_36 : decode cX10_ask 36 = .ok (.getfield 19, 3) := by decide +kernel
theorem dX10_ask_39 : decode cX10_ask 39 = .ok (.getfield 185, 3) := by decide +kernel
theorem dX10_ask_42 : decode cX10_ask 42 = .ok (.if_icmp .gt 15, 3) := by decide +kernel
theorem dX10_ask_45 : decode cX10_ask 45 = .ok (.iload 4, 2) := by decide +kernel
theorem dX10_ask_47 : decode cX10_ask 47 = .ok (.ifCond .lt 10, 3) := by decide +kernel
theorem dX10_ask_50 : decode cX10_ask 50 = .ok (.iload 4, 2) := by decide +kernel
theorem dX10_ask_52 : decode cX10_ask 52 = .ok (.bipush 8, 2) := by decide +kernel
theorem dX10_ask_54 : decode cX10_ask 54 = .ok (.if_icmp .le 5, 3) := by decide +kernel
theorem dX10_ask_57 : decode cX10_ask 57 = .ok (.iconst 0, 1) := by decide +kernel
theorem dX10_ask_58 : decode cX10_ask 58 = .ok (.ireturn, 1) := by decide +kernel
theorem dX10_ask_59 : decode cX10_ask 59 = .ok (.aload_n 0, 1) := by decide +kernel
theorem dX10_ask_60 : decode cX10_ask 60 = .ok (.getfield 54, 3) := by decide +kernel
theorem dX10_ask_63 : decode cX10_ask 63 = .ok (.iload_n 1, 1) := by decide +kernel
theorem dX10_ask_64 : decode cX10_ask 64 = .ok (.iload_n 2, 1) := by decide +kernel
theorem dX10_ask_65 : decode cX10_ask 65 = .ok (.iload_n 3, 1) := by decide +kernel
theorem dX10_ask_66 : decode cX10_ask 66 = .ok (.iload 4, 2) := by decide +kernel
theorem dX10_ask_68 : decode cX10_ask 68 = .ok (.invokevirtual 188, 3) := by decide +kernel
theorem dX10_ask_71 : decode cX10_ask 71 = .ok (.iconst 1, 1) := by decide +kernel
theorem dX10_ask_72 : decode cX10_ask 72 = .ok (.ireturn, 1) := by decide +kernel
theorem dX10_mixes_0 : decode cX10_mixes 0 = .ok (.aload_n 0, 1) := by decide +kernel
theorem dX10_mixes_1 : decode cX10_mixes 1 = .ok (.getfield 54, 3) := by decide +kernel
theorem dX10_mixes_4 : decode cX10_mixes 4 = .ok (.getfield 192, 3) := by decide +kernel
theorem dX10_mixes_7 : decode cX10_mixes 7 = .ok (.ifCond .eq 13, 3) := by decide +kernel
theorem dX10_mixes_10 : decode cX10_mixes 10 = .ok (.aload_n 0, 1) := by decide +kernel
theorem dX10_mixes_11 : decode cX10_mixes 11 = .ok (.getfield 54, 3) := by decide +kernel
theorem dX10_mixes_14 : decode cX10_mixes 14 = .ok (.getfield 195, 3) := by decide +kernel
theorem dX10_mixes_17 : decode cX10_mixes 17 = .ok (.goto 4, 3) := by decide +kernel
theorem dX10_mixes_20 : decode cX10_mixes 20 = .ok (.iconst (-1), 1) := by decide +kernel
theorem dX10_mixes_21 : decode cX10_mixes 21 = .ok (.ireturn, 1) := by decide +kernel
theorem dX10_match_0 : decode cX10_match 0 = .ok (.aload_n 0, 1) := by decide +kernel
theorem dX10_match_1 : decode cX10_match 1 = .ok (.getfield 54, 3) := by decide +kernel
theorem dX10_match_4 : decode cX10_match 4 = .ok (.iload_n 1, 1) := by decide +kernel
theorem dX10_match_5 : decode cX10_match 5 = .ok (.iload_n 2, 1) := by decide +kernel
theorem dX10_match_6 : decode cX10_match 6 = .ok (.invokevirtual 196, 3) := by decide +kernel
theorem dX10_match_9 : decode cX10_match 9 = .ok (.ireturn, 1) := by decide +kernel
theorem dX10_nearest_0 : decode cX10_nearest 0 = .ok (.aload_n 0, 1) := by decide +kernel
theorem dX10_nearest_1 : decode cX10_nearest 1 = .ok (.getfield 54, 3) := by decide +kernel
theorem dX10_nearest_4 : decode cX10_nearest 4 = .ok (.iload_n 1, 1) := by decide +kernel
theorem dX10_nearest_5 : decode cX10_nearest 5 = .ok (.iload_n 2, 1) := by decide +kernel
theorem dX10_nearest_6 : decode cX10_nearest 6 = .ok (.invokevirtual 200, 3) := by decide +kernel
theorem dX10_nearest_9 : decode cX10_nearest 9 = .ok (.lreturn, 1) := by decide +kernel
theorem dX10_best_0 : decode cX10_best 0 = .ok (.aload_n 0, 1) := by decide +kernel
theorem dX10_best_1 : decode cX10_best 1 = .ok (.getfield 54, 3) := by decide +kernel
theorem dX10_best_4 : decode cX10_best 4 = .ok (.iload_n 1, 1) := by decide +kernel
theorem dX10_best_5 : decode cX10_best 5 = .ok (.iload_n 2, 1) := by decide +kernel
theorem dX10_best_6 : decode cX10_best 6 = .ok (.invokevirtual 204, 3) := by decide +kernel
theorem dX10_best_9 : decode cX10_best 9 = .ok (.ireturn, 1) := by decide +kernel
theorem dX10_pick_0 : decode cX10_pick 0 = .ok (.iload_n 1, 1) := by decide +kernel
theorem dX10_pick_1 : decode cX10_pick 1 = .ok (.ifCond .lt 14, 3) := by decide +kernel
theorem dX10_pick_4 : decode cX10_pick 4 = .ok (.iload_n 1, 1) := by decide +kernel
theorem dX10_pick_5 : decode cX10_pick 5 = .ok (.aload_n 0, 1) := by decide +kernel
theorem dX10_pick_6 : decode cX10_pick 6 = .ok (.getfield 54, 3) := by decide +kernel
theorem dX10_pick_9 : decode cX10_pick 9 = .ok (.getfield 207, 3) := by decide +kernel
theorem dX10_pick_12 : decode cX10_pick 12 = .ok (.if_icmp .lt 5, 3) := by decide +kernel
theorem dX10_pick_15 : decode cX10_pick 15 = .ok (.iconst (-1), 1) := by decide +kernel
theorem dX10_pick_16 : decode cX10_pick 16 = .ok (.ireturn, 1) := by decide +kernel
theorem dX10_pick_17 : decode cX10_pick 17 = .ok (.aload_n 0, 1) := by decide +kernel
theorem dX10_pick_18 : decode cX10_pick 18 = .ok (.getfield 54, 3) := by decide +kernel
theorem dX10_pick_21 : decode cX10_pick 21 = .ok (.iload_n 1, 1) := by decide +kernel
theorem dX10_pick_22 : decode cX10_pick 22 = .ok (.invokevirtual 210, 3) := by decide +kernel
theorem dX10_pick_25 : decode cX10_pick 25 = .ok (.aload_n 0, 1) := by decide +kernel
theorem dX10_pick_26 : decode cX10_pick 26 = .ok (.getfield 19, 3) := by decide +kernel
theorem dX10_pick_29 : decode cX10_pick 29 = .ok (.aload_n 0, 1) := by decide +kernel
theorem dX10_pick_30 : decode cX10_pick 30 = .ok (.getfield 54, 3) := by decide +kernel
theorem dX10_pick_33 : decode cX10_pick 33 = .ok (.getfield 213, 3) := by decide +kernel
theorem dX10_pick_36 : decode cX10_pick 36 = .ok (.invokevirtual 163, 3) := by decide +kernel
theorem dX10_pick_39 : decode cX10_pick 39 = .ok (.ireturn, 1) := by decide +kernel
theorem dX10_trick_0 : decode cX10_trick 0 = .ok (.aload_n 0, 1) := by decide +kernel
theorem dX10_trick_1 : decode cX10_trick 1 = .ok (.getfield 54, 3) := by decide +kernel
theorem dX10_trick_4 : decode cX10_trick 4 = .ok (.iload_n 1, 1) := by decide +kernel
theorem dX10_trick_5 : decode cX10_trick 5 = .ok (.iload_n 2, 1) := by decide +kernel
theorem dX10_trick_6 : decode cX10_trick 6 = .ok (.iload_n 3, 1) := by decide +kernel
theorem dX10_trick_7 : decode cX10_trick 7 = .ok (.invokevirtual 216, 3) := by decide +kernel
theorem dX10_trick_10 : decode cX10_trick 10 = .ok (.lreturn, 1) := by decide +kernel
theorem dX10_parts_0 : decode cX10_parts 0 = .ok (.aload_n 0, 1) := by decide +kernel
theorem dX10_parts_1 : decode cX10_parts 1 = .ok (.getfield 54, 3) := by decide +kernel
theorem dX10_parts_4 : decode cX10_parts 4 = .ok (.getfield 220, 3) := by decide +kernel
theorem dX10_parts_7 : decode cX10_parts 7 = .ok (.ifCond .eq 29, 3) := by decide +kernel
theorem dX10_parts_10 : decode cX10_parts 10 = .ok (.aload_n 0, 1) := by decide +kernel
theorem dX10_parts_11 : decode cX10_parts 11 = .ok (.getfield 19, 3) := by decide +kernel
theorem dX10_parts_14 : decode cX10_parts 14 = .ok (.getfield 223, 3) := by decide +kernel
theorem dX10_parts_17 : decode cX10_parts 17 = .ok (.iload_n 1, 1) := by decide +kernel
theorem dX10_parts_18 : decode cX10_parts 18 = .ok (.invokevirtual 140, 3) := by decide +kernel
theorem dX10_parts_21 : decode cX10_parts 21 = .ok (.ifCond .eq 15, 3) := by decide +kernel
theorem dX10_parts_24 : decode cX10_parts 24 = .ok (.aload_n 0, 1) := by decide +kernel
theorem dX10_parts_25 : decode cX10_parts 25 = .ok (.getfield 54, 3) := by decide +kernel
theorem dX10_parts_28 : decode cX10_parts 28 = .ok (.getfield 213, 3) := by decide +kernel
theorem dX10_parts_31 : decode cX10_parts 31 = .ok (.iload_n 1, 1) := by decide +kernel
theorem dX10_parts_32 : decode cX10_parts 32 = .ok (.iaload, 1) := by decide +kernel
theorem dX10_parts_33 : decode cX10_parts 33 = .ok (.goto 4, 3) := by decide +kernel
theorem dX10_parts_36 : decode cX10_parts 36 = .ok (.iconst (-1), 1) := by decide +kernel
theorem dX10_parts_37 : decode cX10_parts 37 = .ok (.ireturn, 1) := by decide +kernel
theorem dX10_betray_0 : decode cX10_betray 0 = .ok (.aload_n 0, 1) := by decide +kernel
theorem dX10_betray_1 : decode cX10_betray 1 = .ok (.iload_n 1, 1) := by decide +kernel
theorem dX10_betray_2 : decode cX10_betray 2 = .ok (.invokevirtual 130, 3) := by decide +kernel
theorem dX10_betray_5 : decode cX10_betray 5 = .ok (.astore 4, 2) := by decide +kernel
theorem dX10_betray_7 : decode cX10_betray 7 = .ok (.aload_n 0, 1) := by decide +kernel
theorem dX10_betray_8 : decode cX10_betray 8 = .ok (.iload_n 2, 1) := by decide +kernel
theorem dX10_betray_9 : decode cX10_betray 9 = .ok (.invokevirtual 130, 3) := by decide +kernel
theorem dX10_betray_12 : decode cX10_betray 12 = .ok (.astore 5, 2) := by decide +kernel
theorem dX10_betray_14 : decode cX10_betray 14 = .ok (.aload_n 0, 1) := by decide +kernel
theorem dX10_betray_15 : decode cX10_betray 15 = .ok (.getfield 19, 3) := by decide +kernel
theorem dX10_betray_18 : decode cX10_betray 18 = .ok (.getfield 137, 3) := by decide +kernel
theorem dX10_betray_21 : decode cX10_betray 21 = .ok (.getfield 106, 3) := by decide +kernel
theorem dX10_betray_24 : decode cX10_betray 24 = .ok (.istore 6, 2) := by decide +kernel
theorem dX10_betray_26 : decode cX10_betray 26 = .ok (.aload 4, 2) := by decide +kernel
theorem dX10_betray_28 : decode cX10_betray 28 = .ok (.ifnull 13, 3) := by decide +kernel
theorem dX10_betray_31 : decode cX10_betray 31 = .ok (.aload 5, 2) := by decide +kernel
theorem dX10_betray_33 : decode cX10_betray 33 = .ok (.ifnull 8, 3) := by decide +kernel
theorem dX10_betray_36 : decode cX10_betray 36 = .ok (.iload 6, 2) := by decide +kernel
theorem dX10_betray_38 : decode cX10_betray 38 = .ok (.ifCond .ne 7, 3) := by decide +kernel
theorem dX10_betray_41 : decode cX10_betray 41 = .ok (.ldc2_w 146, 3) := by decide +kernel
theorem dX10_betray_44 : decode cX10_betray 44 = .ok (.lreturn, 1) := by decide +kernel
theorem dX10_betray_45 : decode cX10_betray 45 = .ok (.aload_n 0, 1) := by decide +kernel
theorem dX10_betray_46 : decode cX10_betray 46 = .ok (.getfield 19, 3) := by decide +kernel
theorem dX10_betray_49 : decode cX10_betray 49 = .ok (.aload 4, 2) := by decide +kernel
theorem dX10_betray_51 : decode cX10_betray 51 = .ok (.aload 5, 2) := by decide +kernel
theorem dX10_betray_53 : decode cX10_betray 53 = .ok (.iload_n 3, 1) := by decide +kernel
theorem dX10_betray_54 : decode cX10_betray 54 = .ok (.invokevirtual 226, 3) := by decide +kernel
theorem dX10_betray_57 : decode cX10_betray 57 = .ok (.lstore 7, 2) := by decide +kernel
theorem dX10_betray_59 : decode cX10_betray 59 = .ok (.iconst 0, 1) := by decide +kernel
theorem dX10_betray_60 : decode cX10_betray 60 = .ok (.istore 9, 2) := by decide +kernel
theorem dX10_betray_62 : decode cX10_betray 62 = .ok (.iconst 0, 1) := by decide +kernel
theorem dX10_betray_63 : decode cX10_betray 63 = .ok (.istore 10, 2) := by decide +kernel
theorem dX10_betray_65 : decode cX10_betray 65 = .ok (.iload 10, 2) := by decide +kernel
theorem dX10_betray_67 : decode cX10_betray 67 = .ok (.iload 6, 2) := by decide +kernel
theorem dX10_betray_69 : decode cX10_betray 69 = .ok (.if_icmp .ge 33, 3) := by decide +kernel
theorem dX10_betray_72 : decode cX10_betray 72 = .ok (.aload_n 0, 1) := by decide +kernel
theorem dX10_betray_73 : decode cX10_betray 73 = .ok (.getfield 19, 3) := by decide +kernel
theorem dX10_betray_76 : decode cX10_betray 76 = .ok (.aload 4, 2) := by decide +kernel
theorem dX10_betray_78 : decode cX10_betray 78 = .ok (.aload 5, 2) := by decide +kernel
theorem dX10_betray_80 : decode cX10_betray 80 = .ok (.iload 10, 2) := by decide +kernel
theorem dX10_betray_82 : decode cX10_betray 82 = .ok (.iload_n 3, 1) := by decide +kernel
theorem dX10_betray_83 : decode cX10_betray 83 = .ok (.invokevirtual 152, 3) := by decide +kernel
theorem dX10_betray_86 : decode cX10_betray 86 = .ok (.lload 7, 2) := by decide +kernel
theorem dX10_betray_88 : decode cX10_betray 88 = .ok (.lcmp, 1) := by decide +kernel
theorem dX10_betray_89 : decode cX10_betray 89 = .ok (.ifCond .ne 7, 3) := by decide +kernel
theorem dX10_betray_92 : decode cX10_betray 92 = .ok (.iload 10, 2) := by decide +kernel
theorem dX10_betray_94 : decode cX10_betray 94 = .ok (.istore 9, 2) := by decide +kernel
theorem dX10_betray_96 : decode cX10_betray 96 = .ok (.iinc 10 1, 3) := by decide +kernel
theorem dX10_betray_99 : decode cX10_betray 99 = .ok (.goto (-34), 3) := by decide +kernel
theorem dX10_betray_102 : decode cX10_betray 102 = .ok (.aload_n 0, 1) := by decide +kernel
theorem dX10_betray_103 : decode cX10_betray 103 = .ok (.getfield 73, 3) := by decide +kernel
theorem dX10_betray_106 : decode cX10_betray 106 = .ok (.iconst 0, 1) := by decide +kernel
theorem dX10_betray_107 : decode cX10_betray 107 = .ok (.invokestatic 230, 3) := by decide +kernel
theorem dX10_betray_110 : decode cX10_betray 110 = .ok (.aload_n 0, 1) := by decide +kernel
theorem dX10_betray_111 : decode cX10_betray 111 = .ok (.getfield 73, 3) := by decide +kernel
theorem dX10_betray_114 : decode cX10_betray 114 = .ok (.iload 9, 2) := by decide +kernel
theorem dX10_betray_116 : decode cX10_betray 116 = .ok (.bipush 10, 2) := by decide +kernel
theorem dX10_betray_118 : decode cX10_betray 118 = .ok (.iastore, 1) := by decide +kernel
theorem dX10_betray_119 : decode cX10_betray 119 = .ok (.aload_n 0, 1) := by decide +kernel
theorem dX10_betray_120 : decode cX10_betray 120 = .ok (.iconst 1, 1) := by decide +kernel
theorem dX10_betray_121 : decode cX10_betray 121 = .ok (.putfield 76, 3) := by decide +kernel
theorem dX10_betray_124 : decode cX10_betray 124 = .ok (.lload 7, 2) := by decide +kernel
theorem dX10_betray_126 : decode cX10_betray 126 = .ok (.ldc2_w 235, 3) := by decide +kernel
theorem dX10_betray_129 : decode cX10_betray 129 = .ok (.lmul, 1) := by decide +kernel
theorem dX10_betray_130 : decode cX10_betray 130 = .ok (.lreturn, 1) := by decide +kernel
theorem dX10_weight_0 : decode cX10_weight 0 = .ok (.aload_n 0, 1) := by decide +kernel
theorem dX10_weight_1 : decode cX10_weight 1 = .ok (.getfield 76, 3) := by decide +kernel
theorem dX10_weight_4 : decode cX10_weight 4 = .ok (.ifCond .eq 26, 3) := by decide +kernel
theorem dX10_weight_7 : decode cX10_weight 7 = .ok (.aload_n 0, 1) := by decide +kernel
theorem dX10_weight_8 : decode cX10_weight 8 = .ok (.getfield 19, 3) := by decide +kernel
theorem dX10_weight_11 : decode cX10_weight 11 = .ok (.getfield 137, 3) := by decide +kernel
theorem dX10_weight_14 : decode cX10_weight 14 = .ok (.iload_n 1, 1) := by decide +kernel
theorem dX10_weight_15 : decode cX10_weight 15 = .ok (.invokevirtual 140, 3) := by decide +kernel
theorem dX10_weight_18 : decode cX10_weight 18 = .ok (.ifCond .eq 12, 3) := by decide +kernel
theorem dX10_weight_21 : decode cX10_weight 21 = .ok (.aload_n 0, 1) := by decide +kernel
theorem dX10_weight_22 : decode cX10_weight 22 = .ok (.getfield 73, 3) := by decide +kernel
theorem dX10_weight_25 : decode cX10_weight 25 = .ok (.iload_n 1, 1) := by decide +kernel
theorem dX10_weight_26 : decode cX10_weight 26 = .ok (.iaload, 1) := by decide +kernel
theorem dX10_weight_27 : decode cX10_weight 27 = .ok (.goto 4, 3) := by decide +kernel
theorem dX10_weight_30 : decode cX10_weight 30 = .ok (.iconst (-1), 1) := by decide +kernel
theorem dX10_weight_31 : decode cX10_weight 31 = .ok (.ireturn, 1) := by decide +kernel
theorem dX10_lamp_0 : decode cX10_lamp 0 = .ok (.aload_n 0, 1) := by decide +kernel
theorem dX10_lamp_1 : decode cX10_lamp 1 = .ok (.iload_n 1, 1) := by decide +kernel
theorem dX10_lamp_2 : decode cX10_lamp 2 = .ok (.invokevirtual 130, 3) := by decide +kernel
theorem dX10_lamp_5 : decode cX10_lamp 5 = .ok (.astore 4, 2) := by decide +kernel
theorem dX10_lamp_7 : decode cX10_lamp 7 = .ok (.aload_n 0, 1) := by decide +kernel
theorem dX10_lamp_8 : decode cX10_lamp 8 = .ok (.iload_n 2, 1) := by decide +kernel
theorem dX10_lamp_9 : decode cX10_lamp 9 = .ok (.invokevirtual 130, 3) := by decide +kernel
theorem dX10_lamp_12 : decode cX10_lamp 12 = .ok (.astore 5, 2) := by decide +kernel
theorem dX10_lamp_14 : decode cX10_lamp 14 = .ok (.aload 4, 2) := by decide +kernel
theorem dX10_lamp_16 : decode cX10_lamp 16 = .ok (.ifnull 8, 3) := by decide +kernel
theorem dX10_lamp_19 : decode cX10_lamp 19 = .ok (.aload 5, 2) := by decide +kernel
theorem dX10_lamp_21 : decode cX10_lamp 21 = .ok (.ifnonnull 5, 3) := by decide +kernel
theorem dX10_lamp_24 : decode cX10_lamp 24 = .ok (.iconst (-1), 1) := by decide +kernel
theorem dX10_lamp_25 : decode cX10_lamp 25 = .ok (.ireturn, 1) := by decide +kernel
theorem dX10_lamp_26 : decode cX10_lamp 26 = .ok (.aload_n 0, 1) := by decide +kernel
theorem dX10_lamp_27 : decode cX10_lamp 27 = .ok (.getfield 19, 3) := by decide +kernel
theorem dX10_lamp_30 : decode cX10_lamp 30 = .ok (.aload 4, 2) := by decide +kernel
theorem dX10_lamp_32 : decode cX10_lamp 32 = .ok (.aload 5, 2) := by decide +kernel
theorem dX10_lamp_34 : decode cX10_lamp 34 = .ok (.iload_n 3, 1) := by decide +kernel
theorem dX10_lamp_35 : decode cX10_lamp 35 = .ok (.invokevirtual 226, 3) := by decide +kernel
theorem dX10_lamp_38 : decode cX10_lamp 38 = .ok (.lstore 6, 2) := by decide +kernel
theorem dX10_lamp_40 : decode cX10_lamp 40 = .ok (.iconst 0, 1) := by decide +kernel
theorem dX10_lamp_41 : decode cX10_lamp 41 = .ok (.istore 8, 2) := by decide +kernel
theorem dX10_lamp_43 : decode cX10_lamp 43 = .ok (.iload 8, 2) := by decide +kernel
theorem dX10_lamp_45 : decode cX10_lamp 45 = .ok (.aload_n 0, 1) := by decide +kernel
theorem dX10_lamp_46 : decode cX10_lamp 46 = .ok (.getfield 19, 3) := by decide +kernel
theorem dX10_lamp_49 : decode cX10_lamp 49 = .ok (.getfield 137, 3) := by decide +kernel
theorem dX10_lamp_52 : decode cX10_lamp 52 = .ok (.getfield 106, 3) := by decide +kernel
theorem dX10_lamp_55 : decode cX10_lamp 55 = .ok (.if_icmp .ge 32, 3) := by decide +kernel
theorem dX10_lamp_58 : decode cX10_lamp 58 = .ok (.aload_n 0, 1) := by decide +kernel
theorem dX10_lamp_59 : decode cX10_lamp 59 = .ok (.getfield 19, 3) := by decide +kernel
theorem dX10_lamp_62 : decode cX10_lamp 62 = .ok (.aload 4, 2) := by decide +kernel
theorem dX10_lamp_64 : decode cX10_lamp 64 = .ok (.aload 5, 2) := by decide +kernel
theorem dX10_lamp_66 : decode cX10_lamp 66 = .ok (.iload 8, 2) := by decide +kernel
theorem dX10_lamp_68 : decode cX10_lamp 68 = .ok (.iload_n 3, 1) := by decide +kernel
theorem dX10_lamp_69 : decode cX10_lamp 69 = .ok (.invokevirtual 152, 3) := by decide +kernel
theorem dX10_lamp_72 : decode cX10_lamp 72 = .ok (.lload 6, 2) := by decide +kernel
theorem dX10_lamp_74 : decode cX10_lamp 74 = .ok (.lcmp, 1) := by decide +kernel
theorem dX10_lamp_75 : decode cX10_lamp 75 = .ok (.ifCond .ne 6, 3) := by decide +kernel
theorem dX10_lamp_78 : decode cX10_lamp 78 = .ok (.iload 8, 2) := by decide +kernel
theorem dX10_lamp_80 : decode cX10_lamp 80 = .ok (.ireturn, 1) := by decide +kernel
theorem dX10_lamp_81 : decode cX10_lamp 81 = .ok (.iinc 8 1, 3) := by decide +kernel
theorem dX10_lamp_84 : decode cX10_lamp 84 = .ok (.goto (-41), 3) := by decide +kernel
theorem dX10_lamp_87 : decode cX10_lamp 87 = .ok (.iconst (-1), 1) := by decide +kernel
theorem dX10_lamp_88 : decode cX10_lamp 88 = .ok (.ireturn, 1) := by decide +kernel
theorem dX10_set_0 : decode cX10_set 0 = .ok (.aload_n 0, 1) := by decide +kernel
theorem dX10_set_1 : decode cX10_set 1 = .ok (.getfield 19, 3) := by decide +kernel
theorem dX10_set_4 : decode cX10_set 4 = .ok (.getfield 171, 3) := by decide +kernel
theorem dX10_set_7 : decode cX10_set 7 = .ok (.iload_n 1, 1) := by decide +kernel
theorem dX10_set_8 : decode cX10_set 8 = .ok (.invokevirtual 140, 3) := by decide +kernel
theorem dX10_set_11 : decode cX10_set 11 = .ok (.ifCond .ne 5, 3) := by decide +kernel
theorem dX10_set_14 : decode cX10_set 14 = .ok (.iconst 0, 1) := by decide +kernel
theorem dX10_set_15 : decode cX10_set 15 = .ok (.ireturn, 1) := by decide +kernel
theorem dX10_set_16 : decode cX10_set 16 = .ok (.aload_n 0, 1) := by decide +kernel
theorem dX10_set_17 : decode cX10_set 17 = .ok (.getfield 61, 3) := by decide +kernel
theorem dX10_set_20 : decode cX10_set 20 = .ok (.iload_n 1, 1) := by decide +kernel
theorem dX10_set_21 : decode cX10_set 21 = .ok (.invokevirtual 124, 3) := by decide +kernel
theorem dX10_set_24 : decode cX10_set 24 = .ok (.iconst 1, 1) := by decide +kernel
theorem dX10_set_25 : decode cX10_set 25 = .ok (.ireturn, 1) := by decide +kernel
theorem dX10_drop_0 : decode cX10_drop 0 = .ok (.aload_n 0, 1) := by decide +kernel
theorem dX10_drop_1 : decode cX10_drop 1 = .ok (.getfield 19, 3) := by decide +kernel
theorem dX10_drop_4 : decode cX10_drop 4 = .ok (.getfield 223, 3) := by decide +kernel
theorem dX10_drop_7 : decode cX10_drop 7 = .ok (.iload_n 1, 1) := by decide +kernel
theorem dX10_drop_8 : decode cX10_drop 8 = .ok (.invokevirtual 140, 3) := by decide +kernel
theorem dX10_drop_11 : decode cX10_drop 11 = .ok (.ifCond .eq 27, 3) := by decide +kernel
theorem dX10_drop_14 : decode cX10_drop 14 = .ok (.aload_n 0, 1) := by decide +kernel
theorem dX10_drop_15 : decode cX10_drop 15 = .ok (.getfield 19, 3) := by decide +kernel
theorem dX10_drop_18 : decode cX10_drop 18 = .ok (.getfield 171, 3) := by decide +kernel
theorem dX10_drop_21 : decode cX10_drop 21 = .ok (.getfield 106, 3) := by decide +kernel
theorem dX10_drop_24 : decode cX10_drop 24 = .ok (.ifCond .eq 14, 3) := by decide +kernel
theorem dX10_drop_27 : decode cX10_drop 27 = .ok (.iload_n 2, 1) := by decide +kernel
theorem dX10_drop_28 : decode cX10_drop 28 = .ok (.iconst 1, 1) := by decide +kernel
theorem dX10_drop_29 : decode cX10_drop 29 = .ok (.if_icmp .lt 9, 3) := by decide +kernel
theorem dX10_drop_32 : decode cX10_drop 32 = .ok (.iload_n 2, 1) := by decide +kernel
theorem dX10_drop_33 : decode cX10_drop 33 = .ok (.bipush 24, 2) := by decide +kernel
theorem dX10_drop_35 : decode cX10_drop 35 = .ok (.if_icmp .le 5, 3) := by decide +kernel
theorem dX10_drop_38 : decode cX10_drop 38 = .ok (.iconst (-1), 1) := by decide +kernel
theorem dX10_drop_39 : decode cX10_drop 39 = .ok (.ireturn, 1) := by decide +kernel
theorem dX10_drop_40 : decode cX10_drop 40 = .ok (.aload_n 0, 1) := by decide +kernel
theorem dX10_drop_41 : decode cX10_drop 41 = .ok (.getfield 61, 3) := by decide +kernel
theorem dX10_drop_44 : decode cX10_drop 44 = .ok (.invokevirtual 237, 3) := by decide +kernel
theorem dX10_drop_47 : decode cX10_drop 47 = .ok (.iload_n 2, 1) := by decide +kernel
theorem dX10_drop_48 : decode cX10_drop 48 = .ok (.iadd, 1) := by decide +kernel
theorem dX10_drop_49 : decode cX10_drop 49 = .ok (.aload_n 0, 1) := by decide +kernel
theorem dX10_drop_50 : decode cX10_drop 50 = .ok (.getfield 19, 3) := by decide +kernel
theorem dX10_drop_53 : decode cX10_drop 53 = .ok (.getfield 185, 3) := by decide +kernel
theorem dX10_drop_56 : decode cX10_drop 56 = .ok (.if_icmp .le 5, 3) := by decide +kernel
theorem dX10_drop_59 : decode cX10_drop 59 = .ok (.iconst (-1), 1) := by decide +kernel
theorem dX10_drop_60 : decode cX10_drop 60 = .ok (.ireturn, 1) := by decide +kernel
theorem dX10_drop_61 : decode cX10_drop 61 = .ok (.aload_n 0, 1) := by decide +kernel
theorem dX10_drop_62 : decode cX10_drop 62 = .ok (.getfield 61, 3) := by decide +kernel
theorem dX10_drop_65 : decode cX10_drop 65 = .ok (.getfield 160, 3) := by decide +kernel
theorem dX10_drop_68 : decode cX10_drop 68 = .ok (.iload_n 1, 1) := by decide +kernel
theorem dX10_drop_69 : decode cX10_drop 69 = .ok (.dup2, 1) := by decide +kernel
theorem dX10_drop_70 : decode cX10_drop 70 = .ok (.iaload, 1) := by decide +kernel
theorem dX10_drop_71 : decode cX10_drop 71 = .ok (.iload_n 2, 1) := by decide +kernel
theorem dX10_drop_72 : decode cX10_drop 72 = .ok (.iadd, 1) := by decide +kernel
theorem dX10_drop_73 : decode cX10_drop 73 = .ok (.iastore, 1) := by decide +kernel
theorem dX10_drop_74 : decode cX10_drop 74 = .ok (.aload_n 0, 1) := by decide +kernel
theorem dX10_drop_75 : decode cX10_drop 75 = .ok (.getfield 19, 3) := by decide +kernel
theorem dX10_drop_78 : decode cX10_drop 78 = .ok (.getfield 241, 3) := by decide +kernel
theorem dX10_drop_81 : decode cX10_drop 81 = .ok (.ifCond .eq 24, 3) := by decide +kernel
theorem dX10_drop_84 : decode cX10_drop 84 = .ok (.aload_n 0, 1) := by decide +kernel
theorem dX10_drop_85 : decode cX10_drop 85 = .ok (.getfield 61, 3) := by decide +kernel
theorem dX10_drop_88 : decode cX10_drop 88 = .ok (.invokevirtual 244, 3) := by decide +kernel
theorem dX10_drop_91 : decode cX10_drop 91 = .ok (.aload_n 0, 1) := by decide +kernel
theorem dX10_drop_92 : decode cX10_drop 92 = .ok (.getfield 19, 3) := by decide +kernel
theorem dX10_drop_95 : decode cX10_drop 95 = .ok (.getfield 241, 3) := by decide +kernel
theorem dX10_drop_98 : decode cX10_drop 98 = .ok (.if_icmp .ge 7, 3) := by decide +kernel
theorem dX10_drop_101 : decode cX10_drop 101 = .ok (.iconst 1, 1) := by decide +kernel
theorem dX10_drop_102 : decode cX10_drop 102 = .ok (.goto 4, 3) := by decide +kernel
theorem dX10_drop_105 : decode cX10_drop 105 = .ok (.iconst 0, 1) := by decide +kernel
theorem dX10_drop_106 : decode cX10_drop 106 = .ok (.istore_n 3, 1) := by decide +kernel
theorem dX10_drop_107 : decode cX10_drop 107 = .ok (.iload_n 3, 1) := by decide +kernel
theorem dX10_drop_108 : decode cX10_drop 108 = .ok (.ifCond .eq 20, 3) := by decide +kernel
theorem dX10_drop_111 : decode cX10_drop 111 = .ok (.aload_n 0, 1) := by decide +kernel
theorem dX10_drop_112 : decode cX10_drop 112 = .ok (.getfield 61, 3) := by decide +kernel
theorem dX10_drop_115 : decode cX10_drop 115 = .ok (.invokevirtual 237, 3) := by decide +kernel
theorem dX10_drop_118 : decode cX10_drop 118 = .ok (.aload_n 0, 1) := by decide +kernel
theorem dX10_drop_119 : decode cX10_drop 119 = .ok (.getfield 19, 3) := by decide +kernel
theorem dX10_drop_122 : decode cX10_drop 122 = .ok (.getfield 185, 3) := by decide +kernel
theorem dX10_drop_125 : decode cX10_drop 125 = .ok (.if_icmp .lt 5, 3) := by decide +kernel
theorem dX10_drop_128 : decode cX10_drop 128 = .ok (.iload_n 2, 1) := by decide +kernel
theorem dX10_drop_129 : decode cX10_drop 129 = .ok (.ireturn, 1) := by decide +kernel
theorem dX10_drop_130 : decode cX10_drop 130 = .ok (.aload_n 0, 1) := by decide +kernel
theorem dX10_drop_131 : decode cX10_drop 131 = .ok (.getfield 61, 3) := by decide +kernel
theorem dX10_drop_134 : decode cX10_drop 134 = .ok (.getfield 160, 3) := by decide +kernel
theorem dX10_drop_137 : decode cX10_drop 137 = .ok (.iload_n 1, 1) := by decide +kernel
theorem dX10_drop_138 : decode cX10_drop 138 = .ok (.dup2, 1) := by decide +kernel
theorem dX10_drop_139 : decode cX10_drop 139 = .ok (.iaload, 1) := by decide +kernel
theorem dX10_drop_140 : decode cX10_drop 140 = .ok (.iconst 1, 1) := by decide +kernel
theorem dX10_drop_141 : decode cX10_drop 141 = .ok (.iadd, 1) := by decide +kernel
theorem dX10_drop_142 : decode cX10_drop 142 = .ok (.iastore, 1) := by decide +kernel
theorem dX10_drop_143 : decode cX10_drop 143 = .ok (.iload_n 2, 1) := by decide +kernel
theorem dX10_drop_144 : decode cX10_drop 144 = .ok (.iconst 1, 1) := by decide +kernel
theorem dX10_drop_145 : decode cX10_drop 145 = .ok (.iadd, 1) := by decide +kernel
theorem dX10_drop_146 : decode cX10_drop 146 = .ok (.ireturn, 1) := by decide +kernel
theorem dX10_days_0 : decode cX10_days 0 = .ok (.iload_n 1, 1) := by decide +kernel
theorem dX10_days_1 : decode cX10_days 1 = .ok (.ifCond .lt 10, 3) := by decide +kernel
theorem dX10_days_4 : decode cX10_days 4 = .ok (.iload_n 1, 1) := by decide +kernel
theorem dX10_days_5 : decode cX10_days 5 = .ok (.sipush 1000, 3) := by decide +kernel
theorem dX10_days_8 : decode cX10_days 8 = .ok (.if_icmp .le 5, 3) := by decide +kernel
theorem dX10_days_11 : decode cX10_days 11 = .ok (.iconst (-1), 1) := by decide +kernel
theorem dX10_days_12 : decode cX10_days 12 = .ok (.ireturn, 1) := by decide +kernel
theorem dX10_days_13 : decode cX10_days 13 = .ok (.iconst 0, 1) := by decide +kernel
theorem dX10_days_14 : decode cX10_days 14 = .ok (.istore_n 2, 1) := by decide +kernel
theorem dX10_days_15 : decode cX10_days 15 = .ok (.iconst 0, 1) := by decide +kernel
theorem dX10_days_16 : decode cX10_days 16 = .ok (.istore_n 3, 1) := by decide +kernel
theorem dX10_days_17 : decode cX10_days 17 = .ok (.iload_n 3, 1) := by decide +kernel
theorem dX10_days_18 : decode cX10_days 18 = .ok (.iload_n 1, 1) := by decide +kernel
theorem dX10_days_19 : decode cX10_days 19 = .ok (.if_icmp .ge 23, 3) := by decide +kernel
theorem dX10_days_22 : decode cX10_days 22 = .ok (.iload_n 2, 1) := by decide +kernel
theorem dX10_days_23 : decode cX10_days 23 = .ok (.aload_n 0, 1) := by decide +kernel
theorem dX10_days_24 : decode cX10_days 24 = .ok (.getfield 61, 3) := by decide +kernel
theorem dX10_days_27 : decode cX10_days 27 = .ok (.aload_n 0, 1) := by decide +kernel
theorem dX10_days_28 : decode cX10_days 28 = .ok (.getfield 19, 3) := by decide +kernel
theorem dX10_days_31 : decode cX10_days 31 = .ok (.invokevirtual 247, 3) := by decide +kernel
theorem dX10_days_34 : decode cX10_days 34 = .ok (.iadd, 1) := by decide +kernel
theorem dX10_days_35 : decode cX10_days 35 = .ok (.istore_n 2, 1) := by decide +kernel
theorem dX10_days_36 : decode cX10_days 36 = .ok (.iinc 3 1, 3) := by decide +kernel
theorem dX10_days_39 : decode cX10_days 39 = .ok (.goto (-22), 3) := by decide +kernel
theorem dX10_days_42 : decode cX10_days 42 = .ok (.iload_n 2, 1) := by decide +kernel
theorem dX10_days_43 : decode cX10_days 43 = .ok (.ireturn, 1) := by decide +kernel
theorem dX10_vat_0 : decode cX10_vat 0 = .ok (.aload_n 0, 1) := by decide +kernel
theorem dX10_vat_1 : decode cX10_vat 1 = .ok (.getfield 19, 3) := by decide +kernel
theorem dX10_vat_4 : decode cX10_vat 4 = .ok (.getfield 223, 3) := by decide +kernel
theorem dX10_vat_7 : decode cX10_vat 7 = .ok (.iload_n 1, 1) := by decide +kernel
theorem dX10_vat_8 : decode cX10_vat 8 = .ok (.invokevirtual 140, 3) := by decide +kernel
theorem dX10_vat_11 : decode cX10_vat 11 = .ok (.ifCond .eq 15, 3) := by decide +kernel
theorem dX10_vat_14 : decode cX10_vat 14 = .ok (.aload_n 0, 1) := by decide +kernel
theorem dX10_vat_15 : decode cX10_vat 15 = .ok (.getfield 61, 3) := by decide +kernel
theorem dX10_vat_18 : decode cX10_vat 18 = .ok (.getfield 160, 3) := by decide +kernel
theorem dX10_vat_21 : decode cX10_vat 21 = .ok (.iload_n 1, 1) := by decide +kernel
theorem dX10_vat_22 : decode cX10_vat 22 = .ok (.iaload, 1) := by decide +kernel
theorem dX10_vat_23 : decode cX10_vat 23 = .ok (.goto 4, 3) := by decide +kernel
theorem dX10_vat_26 : decode cX10_vat 26 = .ok (.iconst (-1), 1) := by decide +kernel
theorem dX10_vat_27 : decode cX10_vat 27 = .ok (.ireturn, 1) := by decide +kernel
theorem dX10_seed_0 : decode cX10_seed 0 = .ok (.aload_n 0, 1) := by decide +kernel
theorem dX10_seed_1 : decode cX10_seed 1 = .ok (.getfield 61, 3) := by decide +kernel
theorem dX10_seed_4 : decode cX10_seed 4 = .ok (.getfield 251, 3) := by decide +kernel
theorem dX10_seed_7 : decode cX10_seed 7 = .ok (.istore_n 2, 1) := by decide +kernel
theorem dX10_seed_8 : decode cX10_seed 8 = .ok (.aload_n 0, 1) := by decide +kernel
theorem dX10_seed_9 : decode cX10_seed 9 = .ok (.getfield 61, 3) := by decide +kernel
theorem dX10_seed_12 : decode cX10_seed 12 = .ok (.iload_n 1, 1) := by decide +kernel
theorem dX10_seed_13 : decode cX10_seed 13 = .ok (.putfield 251, 3) := by decide +kernel
theorem dX10_seed_16 : decode cX10_seed 16 = .ok (.iload_n 2, 1) := by decide +kernel
theorem dX10_seed_17 : decode cX10_seed 17 = .ok (.ireturn, 1) := by decide +kernel
theorem dX10_image_0 : decode cX10_image 0 = .ok (.iload_n 1, 1) := by decide +kernel
theorem dX10_image_1 : decode cX10_image 1 = .ok (.ifCond .lt 8, 3) := by decide +kernel
theorem dX10_image_4 : decode cX10_image 4 = .ok (.iload_n 1, 1) := by decide +kernel
theorem dX10_image_5 : decode cX10_image 5 = .ok (.iconst 3, 1) := by decide +kernel
theorem dX10_image_6 : decode cX10_image 6 = .ok (.if_icmp .lt 5, 3) := by decide +kernel
theorem dX10_image_9 : decode cX10_image 9 = .ok (.iconst (-1), 1) := by decide +kernel
theorem dX10_image_10 : decode cX10_image 10 = .ok (.ireturn, 1) := by decide +kernel
theorem dX10_image_11 : decode cX10_image 11 = .ok (.aload_n 0, 1) := by decide +kernel
theorem dX10_image_12 : decode cX10_image 12 = .ok (.getfield 65, 3) := by decide +kernel
theorem dX10_image_15 : decode cX10_image 15 = .ok (.iload_n 1, 1) := by decide +kernel
theorem dX10_image_16 : decode cX10_image 16 = .ok (.aaload, 1) := by decide +kernel
theorem dX10_image_17 : decode cX10_image 17 = .ok (.aload_n 0, 1) := by decide +kernel
theorem dX10_image_18 : decode cX10_image 18 = .ok (.getfield 61, 3) := by decide +kernel
theorem dX10_image_21 : decode cX10_image 21 = .ok (.invokevirtual 254, 3) := by decide +kernel
theorem dX10_image_24 : decode cX10_image 24 = .ok (.aload_n 0, 1) := by decide +kernel
theorem dX10_image_25 : decode cX10_image 25 = .ok (.getfield 65, 3) := by decide +kernel
theorem dX10_image_28 : decode cX10_image 28 = .ok (.iload_n 1, 1) := by decide +kernel
theorem dX10_image_29 : decode cX10_image 29 = .ok (.aaload, 1) := by decide +kernel
theorem dX10_image_30 : decode cX10_image 30 = .ok (.iconst 1, 1) := by decide +kernel
theorem dX10_image_31 : decode cX10_image 31 = .ok (.putfield 127, 3) := by decide +kernel
theorem dX10_image_34 : decode cX10_image 34 = .ok (.aload_n 0, 1) := by decide +kernel
theorem dX10_image_35 : decode cX10_image 35 = .ok (.getfield 61, 3) := by decide +kernel
theorem dX10_image_38 : decode cX10_image 38 = .ok (.invokevirtual 237, 3) := by decide +kernel
theorem dX10_image_41 : decode cX10_image 41 = .ok (.ireturn, 1) := by decide +kernel
theorem dX10_back_0 : decode cX10_back 0 = .ok (.iload_n 1, 1) := by decide +kernel
theorem dX10_back_1 : decode cX10_back 1 = .ok (.ifCond .lt 20, 3) := by decide +kernel
theorem dX10_back_4 : decode cX10_back 4 = .ok (.iload_n 1, 1) := by decide +kernel
theorem dX10_back_5 : decode cX10_back 5 = .ok (.iconst 3, 1) := by decide +kernel
theorem dX10_back_6 : decode cX10_back 6 = .ok (.if_icmp .ge 15, 3) := by decide +kernel
theorem dX10_back_9 : decode cX10_back 9 = .ok (.aload_n 0, 1) := by decide +kernel
theorem dX10_back_10 : decode cX10_back 10 = .ok (.getfield 65, 3) := by decide +kernel
theorem dX10_back_13 : decode cX10_back 13 = .ok (.iload_n 1, 1) := by decide +kernel
theorem dX10_back_14 : decode cX10_back 14 = .ok (.aaload, 1) := by decide +kernel
theorem dX10_back_15 : decode cX10_back 15 = .ok (.getfield 127, 3) := by decide +kernel
theorem dX10_back_18 : decode cX10_back 18 = .ok (.ifCond .ne 5, 3) := by decide +kernel
theorem dX10_back_21 : decode cX10_back 21 = .ok (.iconst (-1), 1) := by decide +kernel
theorem dX10_back_22 : decode cX10_back 22 = .ok (.ireturn, 1) := by decide +kernel
theorem dX10_back_23 : decode cX10_back 23 = .ok (.aload_n 0, 1) := by decide +kernel
theorem dX10_back_24 : decode cX10_back 24 = .ok (.getfield 61, 3) := by decide +kernel
theorem dX10_back_27 : decode cX10_back 27 = .ok (.aload_n 0, 1) := by decide +kernel
theorem dX10_back_28 : decode cX10_back 28 = .ok (.getfield 65, 3) := by decide +kernel
theorem dX10_back_31 : decode cX10_back 31 = .ok (.iload_n 1, 1) := by decide +kernel
theorem dX10_back_32 : decode cX10_back 32 = .ok (.aaload, 1) := by decide +kernel
theorem dX10_back_33 : decode cX10_back 33 = .ok (.invokevirtual 254, 3) := by decide +kernel
theorem dX10_back_36 : decode cX10_back 36 = .ok (.aload_n 0, 1) := by decide +kernel
theorem dX10_back_37 : decode cX10_back 37 = .ok (.getfield 61, 3) := by decide +kernel
theorem dX10_back_40 : decode cX10_back 40 = .ok (.invokevirtual 237, 3) := by decide +kernel
theorem dX10_back_43 : decode cX10_back 43 = .ok (.ireturn, 1) := by decide +kernel
theorem dX10_old_0 : decode cX10_old 0 = .ok (.aload_n 0, 1) := by decide +kernel
theorem dX10_old_1 : decode cX10_old 1 = .ok (.getfield 38, 3) := by decide +kernel
theorem dX10_old_4 : decode cX10_old 4 = .ok (.getfield 258, 3) := by decide +kernel
theorem dX10_old_7 : decode cX10_old 7 = .ok (.ireturn, 1) := by decide +kernel
theorem dX10_oldOne_0 : decode cX10_oldOne 0 = .ok (.iload_n 1, 1) := by decide +kernel
theorem dX10_oldOne_1 : decode cX10_oldOne 1 = .ok (.ifCond .lt 14, 3) := by decide +kernel
theorem dX10_oldOne_4 : decode cX10_oldOne 4 = .ok (.iload_n 1, 1) := by decide +kernel
theorem dX10_oldOne_5 : decode cX10_oldOne 5 = .ok (.aload_n 0, 1) := by decide +kernel
theorem dX10_oldOne_6 : decode cX10_oldOne 6 = .ok (.getfield 38, 3) := by decide +kernel
theorem dX10_oldOne_9 : decode cX10_oldOne 9 = .ok (.getfield 258, 3) := by decide +kernel
theorem dX10_oldOne_12 : decode cX10_oldOne 12 = .ok (.if_icmp .lt 6, 3) := by decide +kernel
theorem dX10_oldOne_15 : decode cX10_oldOne 15 = .ok (.bipush (-2), 2) := by decide +kernel
theorem dX10_oldOne_17 : decode cX10_oldOne 17 = .ok (.ireturn, 1) := by decide +kernel
theorem dX10_oldOne_18 : decode cX10_oldOne 18 = .ok (.iload_n 2, 1) := by decide +kernel
theorem dX10_oldOne_19 : decode cX10_oldOne 19 = .ok (.lookupswitch 45 #[(0, 25), (1, 35)], 25) := by decide +kernel
theorem dX10_oldOne_44 : decode cX10_oldOne 44 = .ok (.aload_n 0, 1) := by decide +kernel
theorem dX10_oldOne_45 : decode cX10_oldOne 45 = .ok (.getfield 38, 3) := by decide +kernel
theorem dX10_oldOne_48 : decode cX10_oldOne 48 = .ok (.getfield 259, 3) := by decide +kernel
theorem dX10_oldOne_51 : decode cX10_oldOne 51 = .ok (.iload_n 1, 1) := by decide +kernel
theorem dX10_oldOne_52 : decode cX10_oldOne 52 = .ok (.iaload, 1) := by decide +kernel
theorem dX10_oldOne_53 : decode cX10_oldOne 53 = .ok (.ireturn, 1) := by decide +kernel
theorem dX10_oldOne_54 : decode cX10_oldOne 54 = .ok (.aload_n 0, 1) := by decide +kernel
theorem dX10_oldOne_55 : decode cX10_oldOne 55 = .ok (.getfield 38, 3) := by decide +kernel
theorem dX10_oldOne_58 : decode cX10_oldOne 58 = .ok (.getfield 261, 3) := by decide +kernel
theorem dX10_oldOne_61 : decode cX10_oldOne 61 = .ok (.iload_n 1, 1) := by decide +kernel
theorem dX10_oldOne_62 : decode cX10_oldOne 62 = .ok (.iaload, 1) := by decide +kernel
theorem dX10_oldOne_63 : decode cX10_oldOne 63 = .ok (.ireturn, 1) := by decide +kernel
theorem dX10_oldOne_64 : decode cX10_oldOne 64 = .ok (.bipush (-2), 2) := by decide +kernel
theorem dX10_oldOne_66 : decode cX10_oldOne 66 = .ok (.ireturn, 1) := by decide +kernel
theorem dX10_look_0 : decode cX10_look 0 = .ok (.aload_n 0, 1) := by decide +kernel
theorem dX10_look_1 : decode cX10_look 1 = .ok (.getfield 19, 3) := by decide +kernel
theorem dX10_look_4 : decode cX10_look 4 = .ok (.getfield 137, 3) := by decide +kernel
theorem dX10_look_7 : decode cX10_look 7 = .ok (.iload_n 1, 1) := by decide +kernel
theorem dX10_look_8 : decode cX10_look 8 = .ok (.invokevirtual 140, 3) := by decide +kernel
theorem dX10_look_11 : decode cX10_look 11 = .ok (.ifCond .eq 27, 3) := by decide +kernel
theorem dX10_look_14 : decode cX10_look 14 = .ok (.aload_n 0, 1) := by decide +kernel
theorem dX10_look_15 : decode cX10_look 15 = .ok (.getfield 19, 3) := by decide +kernel
theorem dX10_look_18 : decode cX10_look 18 = .ok (.getfield 143, 3) := by decide +kernel
theorem dX10_look_21 : decode cX10_look 21 = .ok (.iload_n 2, 1) := by decide +kernel
theorem dX10_look_22 : decode cX10_look 22 = .ok (.invokevirtual 140, 3) := by decide +kernel
theorem dX10_look_25 : decode cX10_look 25 = .ok (.ifCond .eq 13, 3) := by decide +kernel
theorem dX10_look_28 : decode cX10_look 28 = .ok (.aload_n 0, 1) := by decide +kernel
theorem dX10_look_29 : decode cX10_look 29 = .ok (.getfield 45, 3) := by decide +kernel
theorem dX10_look_32 : decode cX10_look 32 = .ok (.invokevirtual 264, 3) := by decide +kernel
theorem dX10_look_35 : decode cX10_look 35 = .ok (.ifCond .eq 5, 3) := by decide +kernel
theorem dX10_look_38 : decode cX10_look 38 = .ok (.iconst (-1), 1) := by decide +kernel
theorem dX10_look_39 : decode cX10_look 39 = .ok (.ireturn, 1) := by decide +kernel
theorem dX10_look_40 : decode cX10_look 40 = .ok (.iload_n 3, 1) := by decide +kernel
theorem dX10_look_41 : decode cX10_look 41 = .ok (.ifCond .lt 23, 3) := by decide +kernel
theorem dX10_look_44 : decode cX10_look 44 = .ok (.iload_n 3, 1) := by decide +kernel
theorem dX10_look_45 : decode cX10_look 45 = .ok (.ldc_w 268, 3) := by decide +kernel
theorem dX10_look_48 : decode cX10_look 48 = .ok (.if_icmp .gt 16, 3) := by decide +kernel
theorem dX10_look_51 : decode cX10_look 51 = .ok (.iload 4, 2) := by decide +kernel
theorem dX10_look_53 : decode cX10_look 53 = .ok (.ifCond .lt 11, 3) := by decide +kernel
theorem dX10_look_56 : decode cX10_look 56 = .ok (.iload 4, 2) := by decide +kernel
theorem dX10_look_58 : decode cX10_look 58 = .ok (.sipush 9999, 3) := by decide +kernel
theorem dX10_look_61 : decode cX10_look 61 = .ok (.if_icmp .le 5, 3) := by decide +kernel
theorem dX10_look_64 : decode cX10_look 64 = .ok (.iconst (-1), 1) := by decide +kernel
theorem dX10_look_65 : decode cX10_look 65 = .ok (.ireturn, 1) := by decide +kernel
theorem dX10_look_66 : decode cX10_look 66 = .ok (.aload_n 0, 1) := by decide +kernel
theorem dX10_look_67 : decode cX10_look 67 = .ok (.getfield 45, 3) := by decide +kernel
theorem dX10_look_70 : decode cX10_look 70 = .ok (.iload_n 1, 1) := by decide +kernel
theorem dX10_look_71 : decode cX10_look 71 = .ok (.iload_n 2, 1) := by decide +kernel
theorem dX10_look_72 : decode cX10_look 72 = .ok (.iload_n 3, 1) := by decide +kernel
theorem dX10_look_73 : decode cX10_look 73 = .ok (.iload 4, 2) := by decide +kernel
theorem dX10_look_75 : decode cX10_look 75 = .ok (.aload_n 0, 1) := by decide +kernel
theorem dX10_look_76 : decode cX10_look 76 = .ok (.getfield 80, 3) := by decide +kernel
theorem dX10_look_79 : decode cX10_look 79 = .ok (.invokevirtual 269, 3) := by decide +kernel
theorem dX10_look_82 : decode cX10_look 82 = .ok (.ireturn, 1) := by decide +kernel
theorem dX10_untell_0 : decode cX10_untell 0 = .ok (.aload_n 0, 1) := by decide +kernel
theorem dX10_untell_1 : decode cX10_untell 1 = .ok (.getfield 45, 3) := by decide +kernel
theorem dX10_untell_4 : decode cX10_untell 4 = .ok (.iload_n 1, 1) := by decide +kernel
theorem dX10_untell_5 : decode cX10_untell 5 = .ok (.aload_n 0, 1) := by decide +kernel
theorem dX10_untell_6 : decode cX10_untell 6 = .ok (.getfield 80, 3) := by decide +kernel
theorem dX10_untell_9 : decode cX10_untell 9 = .ok (.invokevirtual 273, 3) := by decide +kernel
theorem dX10_untell_12 : decode cX10_untell 12 = .ok (.ireturn, 1) := by decide +kernel
theorem dX10_later_0 : decode cX10_later 0 = .ok (.iload_n 1, 1) := by decide +kernel
theorem dX10_later_1 : decode cX10_later 1 = .ok (.ifCond .lt 22, 3) := by decide +kernel
theorem dX10_later_4 : decode cX10_later 4 = .ok (.iload_n 1, 1) := by decide +kernel
theorem dX10_later_5 : decode cX10_later 5 = .ok (.sipush 1000, 3) := by decide +kernel
theorem dX10_later_8 : decode cX10_later 8 = .ok (.if_icmp .gt 15, 3) := by decide +kernel
theorem dX10_later_11 : decode cX10_later 11 = .ok (.aload_n 0, 1) := by decide +kernel
theorem dX10_later_12 : decode cX10_later 12 = .ok (.getfield 80, 3) := by decide +kernel
theorem dX10_later_15 : decode cX10_later 15 = .ok (.iload_n 1, 1) := by decide +kernel
theorem dX10_later_16 : decode cX10_later 16 = .ok (.iadd, 1) := by decide +kernel
theorem dX10_later_17 : decode cX10_later 17 = .ok (.ldc_w 277, 3) := by decide +kernel
theorem dX10_later_20 : decode cX10_later 20 = .ok (.if_icmp .le 5, 3) := by decide +kernel
theorem dX10_later_23 : decode cX10_later 23 = .ok (.iconst (-1), 1) := by decide +kernel
theorem dX10_later_24 : decode cX10_later 24 = .ok (.ireturn, 1) := by decide +kernel
theorem dX10_later_25 : decode cX10_later 25 = .ok (.aload_n 0, 1) := by decide +kernel
theorem dX10_later_26 : decode cX10_later 26 = .ok (.dup, 1) := by decide +kernel
theorem dX10_later_27 : decode cX10_later 27 = .ok (.getfield 80, 3) := by decide +kernel
theorem dX10_later_30 : decode cX10_later 30 = .ok (.iload_n 1, 1) := by decide +kernel
theorem dX10_later_31 : decode cX10_later 31 = .ok (.iadd, 1) := by decide +kernel
theorem dX10_later_32 : decode cX10_later 32 = .ok (.putfield 80, 3) := by decide +kernel
theorem dX10_later_35 : decode cX10_later 35 = .ok (.aload_n 0, 1) := by decide +kernel
theorem dX10_later_36 : decode cX10_later 36 = .ok (.getfield 80, 3) := by decide +kernel
theorem dX10_later_39 : decode cX10_later 39 = .ok (.ireturn, 1) := by decide +kernel
theorem dX10_agree_0 : decode cX10_agree 0 = .ok (.aload_n 0, 1) := by decide +kernel
theorem dX10_agree_1 : decode cX10_agree 1 = .ok (.getfield 45, 3) := by decide +kernel
theorem dX10_agree_4 : decode cX10_agree 4 = .ok (.aload_n 0, 1) := by decide +kernel
theorem dX10_agree_5 : decode cX10_agree 5 = .ok (.getfield 19, 3) := by decide +kernel
theorem dX10_agree_8 : decode cX10_agree 8 = .ok (.aload_n 0, 1) := by decide +kernel
theorem dX10_agree_9 : decode cX10_agree 9 = .ok (.getfield 38, 3) := by decide +kernel
theorem dX10_agree_12 : decode cX10_agree 12 = .ok (.iload_n 1, 1) := by decide +kernel
theorem dX10_agree_13 : decode cX10_agree 13 = .ok (.invokevirtual 278, 3) := by decide +kernel
theorem dX10_agree_16 : decode cX10_agree 16 = .ok (.ireturn, 1) := by decide +kernel
theorem dX10_agrees_0 : decode cX10_agrees 0 = .ok (.aload_n 0, 1) := by decide +kernel
theorem dX10_agrees_1 : decode cX10_agrees 1 = .ok (.getfield 45, 3) := by decide +kernel
theorem dX10_agrees_4 : decode cX10_agrees 4 = .ok (.aload_n 0, 1) := by decide +kernel
theorem dX10_agrees_5 : decode cX10_agrees 5 = .ok (.getfield 19, 3) := by decide +kernel
theorem dX10_agrees_8 : decode cX10_agrees 8 = .ok (.aload_n 0, 1) := by decide +kernel
theorem dX10_agrees_9 : decode cX10_agrees 9 = .ok (.getfield 38, 3) := by decide +kernel
theorem dX10_agrees_12 : decode cX10_agrees 12 = .ok (.iload_n 2, 1) := by decide +kernel
theorem dX10_agrees_13 : decode cX10_agrees 13 = .ok (.invokevirtual 278, 3) := by decide +kernel
theorem dX10_agrees_16 : decode cX10_agrees 16 = .ok (.istore_n 3, 1) := by decide +kernel
theorem dX10_agrees_17 : decode cX10_agrees 17 = .ok (.iload_n 1, 1) := by decide +kernel
theorem dX10_agrees_18 : decode cX10_agrees 18 = .ok (.ifCond .lt 8, 3) := by decide +kernel
theorem dX10_agrees_21 : decode cX10_agrees 21 = .ok (.iload_n 1, 1) := by decide +kernel
theorem dX10_agrees_22 : decode cX10_agrees 22 = .ok (.iload_n 3, 1) := by decide +kernel
theorem dX10_agrees_23 : decode cX10_agrees 23 = .ok (.if_icmp .lt 7, 3) := by decide +kernel
theorem dX10_agrees_26 : decode cX10_agrees 26 = .ok (.iconst (-1), 1) := by decide +kernel
theorem dX10_agrees_27 : decode cX10_agrees 27 = .ok (.goto 12, 3) := by decide +kernel
theorem dX10_agrees_30 : decode cX10_agrees 30 = .ok (.aload_n 0, 1) := by decide +kernel
theorem dX10_agrees_31 : decode cX10_agrees 31 = .ok (.getfield 45, 3) := by decide +kernel
theorem dX10_agrees_34 : decode cX10_agrees 34 = .ok (.getfield 282, 3) := by decide +kernel
theorem dX10_agrees_37 : decode cX10_agrees 37 = .ok (.iload_n 1, 1) := by decide +kernel
theorem dX10_agrees_38 : decode cX10_agrees 38 = .ok (.iaload, 1) := by decide +kernel
theorem dX10_agrees_39 : decode cX10_agrees 39 = .ok (.ireturn, 1) := by decide +kernel
theorem dX10_next_0 : decode cX10_next 0 = .ok (.iload_n 1, 1) := by decide +kernel
theorem dX10_next_1 : decode cX10_next 1 = .ok (.ifCond .lt 27, 3) := by decide +kernel
theorem dX10_next_4 : decode cX10_next 4 = .ok (.iload_n 1, 1) := by decide +kernel
theorem dX10_next_5 : decode cX10_next 5 = .ok (.iconst 2, 1) := by decide +kernel
theorem dX10_next_6 : decode cX10_next 6 = .ok (.if_icmp .gt 22, 3) := by decide +kernel
theorem dX10_next_9 : decode cX10_next 9 = .ok (.aload_n 0, 1) := by decide +kernel
theorem dX10_next_10 : decode cX10_next 10 = .ok (.getfield 45, 3) := by decide +kernel
theorem dX10_next_13 : decode cX10_next 13 = .ok (.aload_n 0, 1) := by decide +kernel
theorem dX10_next_14 : decode cX10_next 14 = .ok (.getfield 19, 3) := by decide +kernel
theorem dX10_next_17 : decode cX10_next 17 = .ok (.aload_n 0, 1) := by decide +kernel
theorem dX10_next_18 : decode cX10_next 18 = .ok (.getfield 38, 3) := by decide +kernel
theorem dX10_next_21 : decode cX10_next 21 = .ok (.iload_n 2, 1) := by decide +kernel
theorem dX10_next_22 : decode cX10_next 22 = .ok (.invokevirtual 278, 3) := by decide +kernel
theorem dX10_next_25 : decode cX10_next 25 = .ok (.ifCond .ne 5, 3) := by decide +kernel
theorem dX10_next_28 : decode cX10_next 28 = .ok (.iconst (-1), 1) := by decide +kernel
theorem dX10_next_29 : decode cX10_next 29 = .ok (.ireturn, 1) := by decide +kernel
theorem dX10_next_30 : decode cX10_next 30 = .ok (.aload_n 0, 1) := by decide +kernel
theorem dX10_next_31 : decode cX10_next 31 = .ok (.getfield 19, 3) := by decide +kernel
theorem dX10_next_34 : decode cX10_next 34 = .ok (.getfield 137, 3) := by decide +kernel
theorem dX10_next_37 : decode cX10_next 37 = .ok (.getfield 106, 3) := by decide +kernel
theorem dX10_next_40 : decode cX10_next 40 = .ok (.ifCond .eq 16, 3) := by decide +kernel
theorem dX10_next_43 : decode cX10_next 43 = .ok (.aload_n 0, 1) := by decide +kernel
theorem dX10_next_44 : decode cX10_next 44 = .ok (.getfield 19, 3) := by decide +kernel
theorem dX10_next_47 : decode cX10_next 47 = .ok (.getfield 143, 3) := by decide +kernel
theorem dX10_next_50 : decode cX10_next 50 = .ok (.getfield 106, 3) := by decide +kernel
theorem dX10_next_53 : decode cX10_next 53 = .ok (.ifCond .ne 5, 3) := by decide +kernel
theorem dX10_next_56 : decode cX10_next 56 = .ok (.iconst (-1), 1) := by decide +kernel
theorem dX10_next_57 : decode cX10_next 57 = .ok (.ireturn, 1) := by decide +kernel
theorem dX10_next_58 : decode cX10_next 58 = .ok (.aload_n 0, 1) := by decide +kernel
theorem dX10_next_59 : decode cX10_next 59 = .ok (.getfield 45, 3) := by decide +kernel
theorem dX10_next_62 : decode cX10_next 62 = .ok (.aload_n 0, 1) := by decide +kernel
theorem dX10_next_63 : decode cX10_next 63 = .ok (.getfield 19, 3) := by decide +kernel
theorem dX10_next_66 : decode cX10_next 66 = .ok (.aload_n 0, 1) := by decide +kernel
theorem dX10_next_67 : decode cX10_next 67 = .ok (.getfield 38, 3) := by decide +kernel
theorem dX10_next_70 : decode cX10_next 70 = .ok (.invokevirtual 285, 3) := by decide +kernel
theorem dX10_next_73 : decode cX10_next 73 = .ok (.iload_n 1, 1) := by decide +kernel
theorem dX10_next_74 : decode cX10_next 74 = .ok (.lookupswitch 42 #[(0, 26), (1, 34)], 26) := by decide +kernel
theorem dX10_next_100 : decode cX10_next 100 = .ok (.aload_n 0, 1) := by decide +kernel
theorem dX10_next_101 : decode cX10_next 101 = .ok (.getfield 45, 3) := by decide +kernel
theorem dX10_next_104 : decode cX10_next 104 = .ok (.getfield 288, 3) := by decide +kernel
theorem dX10_next_107 : decode cX10_next 107 = .ok (.ireturn, 1) := by decide +kernel
theorem dX10_next_108 : decode cX10_next 108 = .ok (.aload_n 0, 1) := by decide +kernel
theorem dX10_next_109 : decode cX10_next 109 = .ok (.getfield 45, 3) := by decide +kernel
theorem dX10_next_112 : decode cX10_next 112 = .ok (.getfield 291, 3) := by decide +kernel
theorem dX10_next_115 : decode cX10_next 115 = .ok (.ireturn, 1) := by decide +kernel
theorem dX10_next_116 : decode cX10_next 116 = .ok (.aload_n 0, 1) := by decide +kernel
theorem dX10_next_117 : decode cX10_next 117 = .ok (.getfield 45, 3) := by decide +kernel
theorem dX10_next_120 : decode cX10_next 120 = .ok (.getfield 294, 3) := by decide +kernel
theorem dX10_next_123 : decode cX10_next 123 = .ok (.ireturn, 1) := by decide +kernel
theorem dX10_about_0 : decode cX10_about 0 = .ok (.iload_n 1, 1) := by decide +kernel
theorem dX10_about_1 : decode cX10_about 1 = .ok (.tableswitch 171 0 11 #[63, 71, 82, 93, 104, 115, 126, 134, 139, 147, 155, 163], 63) := by decide +kernel
theorem dX10_about_64 : decode cX10_about 64 = .ok (.aload_n 0, 1) := by decide +kernel
theorem dX10_about_65 : decode cX10_about 65 = .ok (.getfield 19, 3) := by decide +kernel
theorem dX10_about_68 : decode cX10_about 68 = .ok (.getfield 134, 3) := by decide +kernel
theorem dX10_about_71 : decode cX10_about 71 = .ok (.ireturn, 1) := by decide +kernel
theorem dX10_about_72 : decode cX10_about 72 = .ok (.aload_n 0, 1) := by decide +kernel
theorem dX10_about_73 : decode cX10_about 73 = .ok (.getfield 19, 3) := by decide +kernel
theorem dX10_about_76 : decode cX10_about 76 = .ok (.getfield 223, 3) := by decide +kernel
theorem dX10_about_79 : decode cX10_about 79 = .ok (.getfield 106, 3) := by decide +kernel
theorem dX10_about_82 : decode cX10_about 82 = .ok (.ireturn, 1) := by decide +kernel
theorem dX10_about_83 : decode cX10_about 83 = .ok (.aload_n 0, 1) := by decide +kernel
theorem dX10_about_84 : decode cX10_about 84 = .ok (.getfield 19, 3) := by decide +kernel
theorem dX10_about_87 : decode cX10_about 87 = .ok (.getfield 171, 3) := by decide +kernel
theorem dX10_about_90 : decode cX10_about 90 = .ok (.getfield 106, 3) := by decide +kernel
theorem dX10_about_93 : decode cX10_about 93 = .ok (.ireturn, 1) := by decide +kernel
theorem dX10_about_94 : decode cX10_about 94 = .ok (.aload_n 0, 1) := by decide +kernel
theorem dX10_about_95 : decode cX10_about 95 = .ok (.getfield 19, 3) := by decide +kernel
theorem dX10_about_98 : decode cX10_about 98 = .ok (.getfield 137, 3) := by decide +kernel
theorem dX10_about_101 : decode cX10_about 101 = .ok (.getfield 106, 3) := by decide +kernel
theorem dX10_about_104 : decode cX10_about 104 = .ok (.ireturn, 1) := by decide +kernel
theorem dX10_about_105 : decode cX10_about 105 = .ok (.aload_n 0, 1) := by decide +kernel
theorem dX10_about_106 : decode cX10_about 106 = .ok (.getfield 19, 3) := by decide +kernel
theorem dX10_about_109 : decode cX10_about 109 = .ok (.getfield 143, 3) := by decide +kernel
theorem dX10_about_112 : decode cX10_about 112 = .ok (.getfield 106, 3) := by decide +kernel
theorem dX10_about_115 : decode cX10_about 115 = .ok (.ireturn, 1) := by decide +kernel
theorem dX10_about_116 : decode cX10_about 116 = .ok (.aload_n 0, 1) := by decide +kernel
theorem dX10_about_117 : decode cX10_about 117 = .ok (.getfield 19, 3) := by decide +kernel
theorem dX10_about_120 : decode cX10_about 120 = .ok (.getfield 102, 3) := by decide +kernel
theorem dX10_about_123 : decode cX10_about 123 = .ok (.getfield 106, 3) := by decide +kernel
theorem dX10_about_126 : decode cX10_about 126 = .ok (.ireturn, 1) := by decide +kernel
theorem dX10_about_127 : decode cX10_about 127 = .ok (.aload_n 0, 1) := by decide +kernel
theorem dX10_about_128 : decode cX10_about 128 = .ok (.getfield 45, 3) := by decide +kernel
theorem dX10_about_131 : decode cX10_about 131 = .ok (.getfield 120, 3) := by decide +kernel
theorem dX10_about_134 : decode cX10_about 134 = .ok (.ireturn, 1) := by decide +kernel
theorem dX10_about_135 : decode cX10_about 135 = .ok (.aload_n 0, 1) := by decide +kernel
theorem dX10_about_136 : decode cX10_about 136 = .ok (.getfield 80, 3) := by decide +kernel
theorem dX10_about_139 : decode cX10_about 139 = .ok (.ireturn, 1) := by decide +kernel
theorem dX10_about_140 : decode cX10_about 140 = .ok (.aload_n 0, 1) := by decide +kernel
theorem dX10_about_141 : decode cX10_about 141 = .ok (.getfield 12, 3) := by decide +kernel
theorem dX10_about_144 : decode cX10_about 144 = .ok (.getfield 92, 3) := by decide +kernel
theorem dX10_about_147 : decode cX10_about 147 = .ok (.ireturn, 1) := by decide +kernel
theorem dX10_about_148 : decode cX10_about 148 = .ok (.aload_n 0, 1) := by decide +kernel
theorem dX10_about_149 : decode cX10_about 149 = .ok (.getfield 61, 3) := by decide +kernel
theorem dX10_about_152 : decode cX10_about 152 = .ok (.getfield 251, 3) := by decide +kernel
theorem dX10_about_155 : decode cX10_about 155 = .ok (.ireturn, 1) := by decide +kernel
theorem dX10_about_156 : decode cX10_about 156 = .ok (.aload_n 0, 1) := by decide +kernel
theorem dX10_about_157 : decode cX10_about 157 = .ok (.getfield 61, 3) := by decide +kernel
theorem dX10_about_160 : decode cX10_about 160 = .ok (.getfield 297, 3) := by decide +kernel
theorem dX10_about_163 : decode cX10_about 163 = .ok (.ireturn, 1) := by decide +kernel
theorem dX10_about_164 : decode cX10_about 164 = .ok (.aload_n 0, 1) := by decide +kernel
theorem dX10_about_165 : decode cX10_about 165 = .ok (.getfield 61, 3) := by decide +kernel
theorem dX10_about_168 : decode cX10_about 168 = .ok (.getfield 178, 3) := by decide +kernel
theorem dX10_about_171 : decode cX10_about 171 = .ok (.ireturn, 1) := by decide +kernel
theorem dX10_about_172 : decode cX10_about 172 = .ok (.iconst (-1), 1) := by decide +kernel
theorem dX10_about_173 : decode cX10_about 173 = .ok (.ireturn, 1) := by decide +kernel

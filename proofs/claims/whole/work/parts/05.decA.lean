theorem dX0_init_0 : decode cX0_init 0 = .ok (.aload_n 0, 1) := by decide +kernel
theorem dX0_init_1 : decode cX0_init 1 = .ok (.invokespecial 3, 3) := by decide +kernel
theorem dX0_init_4 : decode cX0_init 4 = .ok (.aload_n 0, 1) := by decide +kernel
theorem dX0_init_5 : decode cX0_init 5 = .ok (.new 9, 3) := by decide +kernel
theorem dX0_init_8 : decode cX0_init 8 = .ok (.dup, 1) := by decide +kernel
theorem dX0_init_9 : decode cX0_init 9 = .ok (.sipush 1000, 3) := by decide +kernel
theorem dX0_init_12 : decode cX0_init 12 = .ok (.invokespecial 11, 3) := by decide +kernel
theorem dX0_init_15 : decode cX0_init 15 = .ok (.putfield 14, 3) := by decide +kernel
theorem dX0_init_18 : decode cX0_init 18 = .ok (.aload_n 0, 1) := by decide +kernel
theorem dX0_init_19 : decode cX0_init 19 = .ok (.new 9, 3) := by decide +kernel
theorem dX0_init_22 : decode cX0_init 22 = .ok (.dup, 1) := by decide +kernel
theorem dX0_init_23 : decode cX0_init 23 = .ok (.sipush 1000, 3) := by decide +kernel
theorem dX0_init_26 : decode cX0_init 26 = .ok (.invokespecial 11, 3) := by decide +kernel
theorem dX0_init_29 : decode cX0_init 29 = .ok (.putfield 20, 3) := by decide +kernel
theorem dX0_init_32 : decode cX0_init 32 = .ok (.aload_n 0, 1) := by decide +kernel
theorem dX0_init_33 : decode cX0_init 33 = .ok (.aload_n 1, 1) := by decide +kernel
theorem dX0_init_34 : decode cX0_init 34 = .ok (.putfield 23, 3) := by decide +kernel
theorem dX0_init_37 : decode cX0_init 37 = .ok (.aload_n 0, 1) := by decide +kernel
theorem dX0_init_38 : decode cX0_init 38 = .ok (.aload_n 2, 1) := by decide +kernel
theorem dX0_init_39 : decode cX0_init 39 = .ok (.putfield 27, 3) := by decide +kernel
theorem dX0_init_42 : decode cX0_init 42 = .ok (.return_, 1) := by decide +kernel
theorem dX0_bestPrice_0 : decode cX0_bestPrice 0 = .ok (.aload_n 0, 1) := by decide +kernel
theorem dX0_bestPrice_1 : decode cX0_bestPrice 1 = .ok (.getfield 14, 3) := by decide +kernel
theorem dX0_bestPrice_4 : decode cX0_bestPrice 4 = .ok (.iconst (-1), 1) := by decide +kernel
theorem dX0_bestPrice_5 : decode cX0_bestPrice 5 = .ok (.invokevirtual 31, 3) := by decide +kernel
theorem dX0_bestPrice_8 : decode cX0_bestPrice 8 = .ok (.aload_n 0, 1) := by decide +kernel
theorem dX0_bestPrice_9 : decode cX0_bestPrice 9 = .ok (.getfield 20, 3) := by decide +kernel
theorem dX0_bestPrice_12 : decode cX0_bestPrice 12 = .ok (.iconst 0, 1) := by decide +kernel
theorem dX0_bestPrice_13 : decode cX0_bestPrice 13 = .ok (.invokevirtual 31, 3) := by decide +kernel
theorem dX0_bestPrice_16 : decode cX0_bestPrice 16 = .ok (.aload_n 0, 1) := by decide +kernel
theorem dX0_bestPrice_17 : decode cX0_bestPrice 17 = .ok (.getfield 14, 3) := by decide +kernel
theorem dX0_bestPrice_20 : decode cX0_bestPrice 20 = .ok (.iconst 0, 1) := by decide +kernel
theorem dX0_bestPrice_21 : decode cX0_bestPrice 21 = .ok (.iconst 0, 1) := by decide +kernel
theorem dX0_bestPrice_22 : decode cX0_bestPrice 22 = .ok (.invokevirtual 34, 3) := by decide +kernel
theorem dX0_bestPrice_25 : decode cX0_bestPrice 25 = .ok (.iconst 0, 1) := by decide +kernel
theorem dX0_bestPrice_26 : decode cX0_bestPrice 26 = .ok (.istore_n 2, 1) := by decide +kernel
theorem dX0_bestPrice_27 : decode cX0_bestPrice 27 = .ok (.iconst 0, 1) := by decide +kernel
theorem dX0_bestPrice_28 : decode cX0_bestPrice 28 = .ok (.istore_n 3, 1) := by decide +kernel
theorem dX0_bestPrice_29 : decode cX0_bestPrice 29 = .ok (.iload_n 3, 1) := by decide +kernel
theorem dX0_bestPrice_30 : decode cX0_bestPrice 30 = .ok (.aload_n 0, 1) := by decide +kernel
theorem dX0_bestPrice_31 : decode cX0_bestPrice 31 = .ok (.getfield 23, 3) := by decide +kernel
theorem dX0_bestPrice_34 : decode cX0_bestPrice 34 = .ok (.getfield 38, 3) := by decide +kernel
theorem dX0_bestPrice_37 : decode cX0_bestPrice 37 = .ok (.if_icmp .ge 42, 3) := by decide +kernel
theorem dX0_bestPrice_40 : decode cX0_bestPrice 40 = .ok (.aload_n 0, 1) := by decide +kernel
theorem dX0_bestPrice_41 : decode cX0_bestPrice 41 = .ok (.getfield 27, 3) := by decide +kernel
theorem dX0_bestPrice_44 : decode cX0_bestPrice 44 = .ok (.iload_n 3, 1) := by decide +kernel
theorem dX0_bestPrice_45 : decode cX0_bestPrice 45 = .ok (.invokevirtual 44, 3) := by decide +kernel
theorem dX0_bestPrice_48 : decode cX0_bestPrice 48 = .ok (.ifCond .eq 25, 3) := by decide +kernel
theorem dX0_bestPrice_51 : decode cX0_bestPrice 51 = .ok (.iload_n 1, 1) := by decide +kernel
theorem dX0_bestPrice_52 : decode cX0_bestPrice 52 = .ok (.iload_n 2, 1) := by decide +kernel
theorem dX0_bestPrice_53 : decode cX0_bestPrice 53 = .ok (.aload_n 0, 1) := by decide +kernel
theorem dX0_bestPrice_54 : decode cX0_bestPrice 54 = .ok (.getfield 23, 3) := by decide +kernel
theorem dX0_bestPrice_57 : decode cX0_bestPrice 57 = .ok (.iload_n 3, 1) := by decide +kernel
theorem dX0_bestPrice_58 : decode cX0_bestPrice 58 = .ok (.iconst 1, 1) := by decide +kernel
theorem dX0_bestPrice_59 : decode cX0_bestPrice 59 = .ok (.invokevirtual 50, 3) := by decide +kernel
theorem dX0_bestPrice_62 : decode cX0_bestPrice 62 = .ok (.iadd, 1) := by decide +kernel
theorem dX0_bestPrice_63 : decode cX0_bestPrice 63 = .ok (.invokestatic 54, 3) := by decide +kernel
theorem dX0_bestPrice_66 : decode cX0_bestPrice 66 = .ok (.istore_n 2, 1) := by decide +kernel
theorem dX0_bestPrice_67 : decode cX0_bestPrice 67 = .ok (.aload_n 0, 1) := by decide +kernel
theorem dX0_bestPrice_68 : decode cX0_bestPrice 68 = .ok (.iload_n 3, 1) := by decide +kernel
theorem dX0_bestPrice_69 : decode cX0_bestPrice 69 = .ok (.iload_n 2, 1) := by decide +kernel
theorem dX0_bestPrice_70 : decode cX0_bestPrice 70 = .ok (.invokevirtual 59, 3) := by decide +kernel
theorem dX0_bestPrice_73 : decode cX0_bestPrice 73 = .ok (.iinc 3 1, 3) := by decide +kernel
theorem dX0_bestPrice_76 : decode cX0_bestPrice 76 = .ok (.goto (-47), 3) := by decide +kernel
theorem dX0_bestPrice_79 : decode cX0_bestPrice 79 = .ok (.iconst 0, 1) := by decide +kernel
theorem dX0_bestPrice_80 : decode cX0_bestPrice 80 = .ok (.istore_n 3, 1) := by decide +kernel
theorem dX0_bestPrice_81 : decode cX0_bestPrice 81 = .ok (.iconst 1, 1) := by decide +kernel
theorem dX0_bestPrice_82 : decode cX0_bestPrice 82 = .ok (.istore 4, 2) := by decide +kernel
theorem dX0_bestPrice_84 : decode cX0_bestPrice 84 = .ok (.iload 4, 2) := by decide +kernel
theorem dX0_bestPrice_86 : decode cX0_bestPrice 86 = .ok (.iload_n 2, 1) := by decide +kernel
theorem dX0_bestPrice_87 : decode cX0_bestPrice 87 = .ok (.if_icmp .gt 32, 3) := by decide +kernel
theorem dX0_bestPrice_90 : decode cX0_bestPrice 90 = .ok (.aload_n 0, 1) := by decide +kernel
theorem dX0_bestPrice_91 : decode cX0_bestPrice 91 = .ok (.getfield 14, 3) := by decide +kernel
theorem dX0_bestPrice_94 : decode cX0_bestPrice 94 = .ok (.iload 4, 2) := by decide +kernel
theorem dX0_bestPrice_96 : decode cX0_bestPrice 96 = .ok (.invokevirtual 62, 3) := by decide +kernel
theorem dX0_bestPrice_99 : decode cX0_bestPrice 99 = .ok (.aload_n 0, 1) := by decide +kernel
theorem dX0_bestPrice_100 : decode cX0_bestPrice 100 = .ok (.getfield 14, 3) := by decide +kernel
theorem dX0_bestPrice_103 : decode cX0_bestPrice 103 = .ok (.iload_n 3, 1) := by decide +kernel
theorem dX0_bestPrice_104 : decode cX0_bestPrice 104 = .ok (.invokevirtual 62, 3) := by decide +kernel
theorem dX0_bestPrice_107 : decode cX0_bestPrice 107 = .ok (.if_icmp .le 6, 3) := by decide +kernel
theorem dX0_bestPrice_110 : decode cX0_bestPrice 110 = .ok (.iload 4, 2) := by decide +kernel
theorem dX0_bestPrice_112 : decode cX0_bestPrice 112 = .ok (.istore_n 3, 1) := by decide +kernel
theorem dX0_bestPrice_113 : decode cX0_bestPrice 113 = .ok (.iinc 4 1, 3) := by decide +kernel
theorem dX0_bestPrice_116 : decode cX0_bestPrice 116 = .ok (.goto (-32), 3) := by decide +kernel
theorem dX0_bestPrice_119 : decode cX0_bestPrice 119 = .ok (.iload_n 3, 1) := by decide +kernel
theorem dX0_bestPrice_120 : decode cX0_bestPrice 120 = .ok (.ireturn, 1) := by decide +kernel
theorem dX0_offer_0 : decode cX0_offer 0 = .ok (.aload_n 0, 1) := by decide +kernel
theorem dX0_offer_1 : decode cX0_offer 1 = .ok (.getfield 23, 3) := by decide +kernel
theorem dX0_offer_4 : decode cX0_offer 4 = .ok (.iload_n 1, 1) := by decide +kernel
theorem dX0_offer_5 : decode cX0_offer 5 = .ok (.iconst 1, 1) := by decide +kernel
theorem dX0_offer_6 : decode cX0_offer 6 = .ok (.invokevirtual 50, 3) := by decide +kernel
theorem dX0_offer_9 : decode cX0_offer 9 = .ok (.istore_n 3, 1) := by decide +kernel
theorem dX0_offer_10 : decode cX0_offer 10 = .ok (.aload_n 0, 1) := by decide +kernel
theorem dX0_offer_11 : decode cX0_offer 11 = .ok (.getfield 23, 3) := by decide +kernel
theorem dX0_offer_14 : decode cX0_offer 14 = .ok (.iload_n 1, 1) := by decide +kernel
theorem dX0_offer_15 : decode cX0_offer 15 = .ok (.iconst 2, 1) := by decide +kernel
theorem dX0_offer_16 : decode cX0_offer 16 = .ok (.invokevirtual 50, 3) := by decide +kernel
theorem dX0_offer_19 : decode cX0_offer 19 = .ok (.istore 4, 2) := by decide +kernel
theorem dX0_offer_21 : decode cX0_offer 21 = .ok (.iload_n 2, 1) := by decide +kernel
theorem dX0_offer_22 : decode cX0_offer 22 = .ok (.istore 5, 2) := by decide +kernel
theorem dX0_offer_24 : decode cX0_offer 24 = .ok (.iload 5, 2) := by decide +kernel
theorem dX0_offer_26 : decode cX0_offer 26 = .ok (.iload_n 3, 1) := by decide +kernel
theorem dX0_offer_27 : decode cX0_offer 27 = .ok (.if_icmp .lt 95, 3) := by decide +kernel
theorem dX0_offer_30 : decode cX0_offer 30 = .ok (.iload 5, 2) := by decide +kernel
theorem dX0_offer_32 : decode cX0_offer 32 = .ok (.iload_n 3, 1) := by decide +kernel
theorem dX0_offer_33 : decode cX0_offer 33 = .ok (.isub, 1) := by decide +kernel
theorem dX0_offer_34 : decode cX0_offer 34 = .ok (.istore 6, 2) := by decide +kernel
theorem dX0_offer_36 : decode cX0_offer 36 = .ok (.aload_n 0, 1) := by decide +kernel
theorem dX0_offer_37 : decode cX0_offer 37 = .ok (.getfield 14, 3) := by decide +kernel
theorem dX0_offer_40 : decode cX0_offer 40 = .ok (.iload 6, 2) := by decide +kernel
theorem dX0_offer_42 : decode cX0_offer 42 = .ok (.invokevirtual 62, 3) := by decide +kernel
theorem dX0_offer_45 : decode cX0_offer 45 = .ok (.iconst (-1), 1) := by decide +kernel
theorem dX0_offer_46 : decode cX0_offer 46 = .ok (.if_icmp .eq 70, 3) := by decide +kernel
theorem dX0_offer_49 : decode cX0_offer 49 = .ok (.aload_n 0, 1) := by decide +kernel
theorem dX0_offer_50 : decode cX0_offer 50 = .ok (.getfield 14, 3) := by decide +kernel
theorem dX0_offer_53 : decode cX0_offer 53 = .ok (.iload 6, 2) := by decide +kernel
theorem dX0_offer_55 : decode cX0_offer 55 = .ok (.invokevirtual 62, 3) := by decide +kernel
theorem dX0_offer_58 : decode cX0_offer 58 = .ok (.iload 4, 2) := by decide +kernel
theorem dX0_offer_60 : decode cX0_offer 60 = .ok (.iadd, 1) := by decide +kernel
theorem dX0_offer_61 : decode cX0_offer 61 = .ok (.aload_n 0, 1) := by decide +kernel
theorem dX0_offer_62 : decode cX0_offer 62 = .ok (.getfield 14, 3) := by decide +kernel
theorem dX0_offer_65 : decode cX0_offer 65 = .ok (.iload 5, 2) := by decide +kernel
theorem dX0_offer_67 : decode cX0_offer 67 = .ok (.invokevirtual 62, 3) := by decide +kernel
theorem dX0_offer_70 : decode cX0_offer 70 = .ok (.if_icmp .le 46, 3) := by decide +kernel
theorem dX0_offer_73 : decode cX0_offer 73 = .ok (.aload_n 0, 1) := by decide +kernel
theorem dX0_offer_74 : decode cX0_offer 74 = .ok (.getfield 14, 3) := by decide +kernel
theorem dX0_offer_77 : decode cX0_offer 77 = .ok (.iload 5, 2) := by decide +kernel
theorem dX0_offer_79 : decode cX0_offer 79 = .ok (.aload_n 0, 1) := by decide +kernel
theorem dX0_offer_80 : decode cX0_offer 80 = .ok (.getfield 14, 3) := by decide +kernel
theorem dX0_offer_83 : decode cX0_offer 83 = .ok (.iload 6, 2) := by decide +kernel
theorem dX0_offer_85 : decode cX0_offer 85 = .ok (.invokevirtual 62, 3) := by decide +kernel
theorem dX0_offer_88 : decode cX0_offer 88 = .ok (.iload 4, 2) := by decide +kernel
theorem dX0_offer_90 : decode cX0_offer 90 = .ok (.iadd, 1) := by decide +kernel
theorem dX0_offer_91 : decode cX0_offer 91 = .ok (.invokevirtual 34, 3) := by decide +kernel
theorem dX0_offer_94 : decode cX0_offer 94 = .ok (.aload_n 0, 1) := by decide +kernel
theorem dX0_offer_95 : decode cX0_offer 95 = .ok (.getfield 20, 3) := by decide +kernel
theorem dX0_offer_98 : decode cX0_offer 98 = .ok (.iload 5, 2) := by decide +kernel
theorem dX0_offer_100 : decode cX0_offer 100 = .ok (.aload_n 0, 1) := by decide +kernel
theorem dX0_offer_101 : decode cX0_offer 101 = .ok (.getfield 20, 3) := by decide +kernel
theorem dX0_offer_104 : decode cX0_offer 104 = .ok (.iload 6, 2) := by decide +kernel
theorem dX0_offer_106 : decode cX0_offer 106 = .ok (.invokevirtual 62, 3) := by decide +kernel
theorem dX0_offer_109 : decode cX0_offer 109 = .ok (.iconst 1, 1) := by decide +kernel
theorem dX0_offer_110 : decode cX0_offer 110 = .ok (.iload_n 1, 1) := by decide +kernel
theorem dX0_offer_111 : decode cX0_offer 111 = .ok (.ishl, 1) := by decide +kernel
theorem dX0_offer_112 : decode cX0_offer 112 = .ok (.ior, 1) := by decide +kernel
theorem dX0_offer_113 : decode cX0_offer 113 = .ok (.invokevirtual 34, 3) := by decide +kernel
theorem dX0_offer_116 : decode cX0_offer 116 = .ok (.iinc 5 (-1), 3) := by decide +kernel
theorem dX0_offer_119 : decode cX0_offer 119 = .ok (.goto (-95), 3) := by decide +kernel
theorem dX0_offer_122 : decode cX0_offer 122 = .ok (.return_, 1) := by decide +kernel
theorem dX1_init_0 : decode cX1_init 0 = .ok (.aload_n 0, 1) := by decide +kernel
theorem dX1_init_1 : decode cX1_init 1 = .ok (.invokespecial 3, 3) := by decide +kernel
theorem dX1_init_4 : decode cX1_init 4 = .ok (.aload_n 0, 1) := by decide +kernel
theorem dX1_init_5 : decode cX1_init 5 = .ok (.new 9, 3) := by decide +kernel
theorem dX1_init_8 : decode cX1_init 8 = .ok (.dup, 1) := by decide +kernel
theorem dX1_init_9 : decode cX1_init 9 = .ok (.invokespecial 11, 3) := by decide +kernel
theorem dX1_init_12 : decode cX1_init 12 = .ok (.putfield 12, 3) := by decide +kernel
theorem dX1_init_15 : decode cX1_init 15 = .ok (.aload_n 0, 1) := by decide +kernel
theorem dX1_init_16 : decode cX1_init 16 = .ok (.new 18, 3) := by decide +kernel
theorem dX1_init_19 : decode cX1_init 19 = .ok (.dup, 1) := by decide +kernel
theorem dX1_init_20 : decode cX1_init 20 = .ok (.bipush 6, 2) := by decide +kernel
theorem dX1_init_22 : decode cX1_init 22 = .ok (.invokespecial 20, 3) := by decide +kernel
theorem dX1_init_25 : decode cX1_init 25 = .ok (.putfield 23, 3) := by decide +kernel
theorem dX1_init_28 : decode cX1_init 28 = .ok (.aload_n 0, 1) := by decide +kernel
theorem dX1_init_29 : decode cX1_init 29 = .ok (.new 18, 3) := by decide +kernel
theorem dX1_init_32 : decode cX1_init 32 = .ok (.dup, 1) := by decide +kernel
theorem dX1_init_33 : decode cX1_init 33 = .ok (.bipush 6, 2) := by decide +kernel
theorem dX1_init_35 : decode cX1_init 35 = .ok (.invokespecial 20, 3) := by decide +kernel
theorem dX1_init_38 : decode cX1_init 38 = .ok (.putfield 27, 3) := by decide +kernel
theorem dX1_init_41 : decode cX1_init 41 = .ok (.aload_n 0, 1) := by decide +kernel
theorem dX1_init_42 : decode cX1_init 42 = .ok (.new 18, 3) := by decide +kernel
theorem dX1_init_45 : decode cX1_init 45 = .ok (.dup, 1) := by decide +kernel
theorem dX1_init_46 : decode cX1_init 46 = .ok (.bipush 6, 2) := by decide +kernel
theorem dX1_init_48 : decode cX1_init 48 = .ok (.invokespecial 20, 3) := by decide +kernel
theorem dX1_init_51 : decode cX1_init 51 = .ok (.putfield 30, 3) := by decide +kernel
theorem dX1_init_54 : decode cX1_init 54 = .ok (.aload_n 0, 1) := by decide +kernel
theorem dX1_init_55 : decode cX1_init 55 = .ok (.new 18, 3) := by decide +kernel
theorem dX1_init_58 : decode cX1_init 58 = .ok (.dup, 1) := by decide +kernel
theorem dX1_init_59 : decode cX1_init 59 = .ok (.bipush 6, 2) := by decide +kernel
theorem dX1_init_61 : decode cX1_init 61 = .ok (.invokespecial 20, 3) := by decide +kernel
theorem dX1_init_64 : decode cX1_init 64 = .ok (.putfield 33, 3) := by decide +kernel
theorem dX1_init_67 : decode cX1_init 67 = .ok (.aload_n 0, 1) := by decide +kernel
theorem dX1_init_68 : decode cX1_init 68 = .ok (.iconst 0, 1) := by decide +kernel
theorem dX1_init_69 : decode cX1_init 69 = .ok (.putfield 36, 3) := by decide +kernel
theorem dX1_init_72 : decode cX1_init 72 = .ok (.aload_n 0, 1) := by decide +kernel
theorem dX1_init_73 : decode cX1_init 73 = .ok (.new 18, 3) := by decide +kernel
theorem dX1_init_76 : decode cX1_init 76 = .ok (.dup, 1) := by decide +kernel
theorem dX1_init_77 : decode cX1_init 77 = .ok (.bipush 6, 2) := by decide +kernel
theorem dX1_init_79 : decode cX1_init 79 = .ok (.invokespecial 20, 3) := by decide +kernel
theorem dX1_init_82 : decode cX1_init 82 = .ok (.putfield 40, 3) := by decide +kernel
theorem dX1_init_85 : decode cX1_init 85 = .ok (.aload_n 0, 1) := by decide +kernel
theorem dX1_init_86 : decode cX1_init 86 = .ok (.new 18, 3) := by decide +kernel
theorem dX1_init_89 : decode cX1_init 89 = .ok (.dup, 1) := by decide +kernel
theorem dX1_init_90 : decode cX1_init 90 = .ok (.bipush 6, 2) := by decide +kernel
theorem dX1_init_92 : decode cX1_init 92 = .ok (.invokespecial 20, 3) := by decide +kernel
theorem dX1_init_95 : decode cX1_init 95 = .ok (.putfield 43, 3) := by decide +kernel
theorem dX1_init_98 : decode cX1_init 98 = .ok (.aload_n 0, 1) := by decide +kernel
theorem dX1_init_99 : decode cX1_init 99 = .ok (.new 18, 3) := by decide +kernel
theorem dX1_init_102 : decode cX1_init 102 = .ok (.dup, 1) := by decide +kernel
theorem dX1_init_103 : decode cX1_init 103 = .ok (.bipush 24, 2) := by decide +kernel
theorem dX1_init_105 : decode cX1_init 105 = .ok (.invokespecial 20, 3) := by decide +kernel
theorem dX1_init_108 : decode cX1_init 108 = .ok (.putfield 46, 3) := by decide +kernel
theorem dX1_init_111 : decode cX1_init 111 = .ok (.aload_n 0, 1) := by decide +kernel
theorem dX1_init_112 : decode cX1_init 112 = .ok (.iconst 0, 1) := by decide +kernel
theorem dX1_init_113 : decode cX1_init 113 = .ok (.putfield 49, 3) := by decide +kernel
theorem dX1_init_116 : decode cX1_init 116 = .ok (.aload_n 0, 1) := by decide +kernel
theorem dX1_init_117 : decode cX1_init 117 = .ok (.iconst 0, 1) := by decide +kernel
theorem dX1_init_118 : decode cX1_init 118 = .ok (.putfield 52, 3) := by decide +kernel
theorem dX1_init_121 : decode cX1_init 121 = .ok (.aload_n 0, 1) := by decide +kernel
theorem dX1_init_122 : decode cX1_init 122 = .ok (.iconst 0, 1) := by decide +kernel
theorem dX1_init_123 : decode cX1_init 123 = .ok (.putfield 55, 3) := by decide +kernel
theorem dX1_init_126 : decode cX1_init 126 = .ok (.aload_n 0, 1) := by decide +kernel
theorem dX1_init_127 : decode cX1_init 127 = .ok (.iconst 0, 1) := by decide +kernel
theorem dX1_init_128 : decode cX1_init 128 = .ok (.putfield 58, 3) := by decide +kernel
theorem dX1_init_131 : decode cX1_init 131 = .ok (.aload_n 0, 1) := by decide +kernel
theorem dX1_init_132 : decode cX1_init 132 = .ok (.iconst 0, 1) := by decide +kernel
theorem dX1_init_133 : decode cX1_init 133 = .ok (.putfield 62, 3) := by decide +kernel
theorem dX1_init_136 : decode cX1_init 136 = .ok (.aload_n 0, 1) := by decide +kernel
theorem dX1_init_137 : decode cX1_init 137 = .ok (.aload_n 1, 1) := by decide +kernel
theorem dX1_init_138 : decode cX1_init 138 = .ok (.putfield 65, 3) := by decide +kernel
theorem dX1_init_141 : decode cX1_init 141 = .ok (.aload_n 0, 1) := by decide +kernel
theorem dX1_init_142 : decode cX1_init 142 = .ok (.aload_n 2, 1) := by decide +kernel
theorem dX1_init_143 : decode cX1_init 143 = .ok (.putfield 69, 3) := by decide +kernel
theorem dX1_init_146 : decode cX1_init 146 = .ok (.return_, 1) := by decide +kernel
theorem dX1_go_0 : decode cX1_go 0 = .ok (.aload_n 0, 1) := by decide +kernel
theorem dX1_go_1 : decode cX1_go 1 = .ok (.iload_n 1, 1) := by decide +kernel
theorem dX1_go_2 : decode cX1_go 2 = .ok (.putfield 55, 3) := by decide +kernel
theorem dX1_go_5 : decode cX1_go 5 = .ok (.aload_n 0, 1) := by decide +kernel
theorem dX1_go_6 : decode cX1_go 6 = .ok (.iload_n 2, 1) := by decide +kernel
theorem dX1_go_7 : decode cX1_go 7 = .ok (.putfield 49, 3) := by decide +kernel
theorem dX1_go_10 : decode cX1_go 10 = .ok (.aload_n 0, 1) := by decide +kernel
theorem dX1_go_11 : decode cX1_go 11 = .ok (.iload_n 3, 1) := by decide +kernel
theorem dX1_go_12 : decode cX1_go 12 = .ok (.putfield 58, 3) := by decide +kernel
theorem dX1_go_15 : decode cX1_go 15 = .ok (.aload_n 0, 1) := by decide +kernel
theorem dX1_go_16 : decode cX1_go 16 = .ok (.invokevirtual 72, 3) := by decide +kernel
theorem dX1_go_19 : decode cX1_go 19 = .ok (.iconst 0, 1) := by decide +kernel
theorem dX1_go_20 : decode cX1_go 20 = .ok (.istore 4, 2) := by decide +kernel
theorem dX1_go_22 : decode cX1_go 22 = .ok (.iload 4, 2) := by decide +kernel
theorem dX1_go_24 : decode cX1_go 24 = .ok (.sipush 3600, 3) := by decide +kernel
theorem dX1_go_27 : decode cX1_go 27 = .ok (.if_icmp .ge 90, 3) := by decide +kernel
theorem dX1_go_30 : decode cX1_go 30 = .ok (.aload_n 0, 1) := by decide +kernel
theorem dX1_go_31 : decode cX1_go 31 = .ok (.getfield 52, 3) := by decide +kernel
theorem dX1_go_34 : decode cX1_go 34 = .ok (.ifCond .le 83, 3) := by decide +kernel
theorem dX1_go_37 : decode cX1_go 37 = .ok (.aload_n 0, 1) := by decide +kernel
theorem dX1_go_38 : decode cX1_go 38 = .ok (.iconst 0, 1) := by decide +kernel
theorem dX1_go_39 : decode cX1_go 39 = .ok (.putfield 62, 3) := by decide +kernel
theorem dX1_go_42 : decode cX1_go 42 = .ok (.iconst 0, 1) := by decide +kernel
theorem dX1_go_43 : decode cX1_go 43 = .ok (.istore 5, 2) := by decide +kernel
theorem dX1_go_45 : decode cX1_go 45 = .ok (.iload 5, 2) := by decide +kernel
theorem dX1_go_47 : decode cX1_go 47 = .ok (.aload_n 0, 1) := by decide +kernel
theorem dX1_go_48 : decode cX1_go 48 = .ok (.getfield 65, 3) := by decide +kernel
theorem dX1_go_51 : decode cX1_go 51 = .ok (.getfield 75, 3) := by decide +kernel
theorem dX1_go_54 : decode cX1_go 54 = .ok (.if_icmp .ge 17, 3) := by decide +kernel
theorem dX1_go_57 : decode cX1_go 57 = .ok (.aload_n 0, 1) := by decide +kernel
theorem dX1_go_58 : decode cX1_go 58 = .ok (.iload 5, 2) := by decide +kernel
theorem dX1_go_60 : decode cX1_go 60 = .ok (.iload 4, 2) := by decide +kernel
theorem dX1_go_62 : decode cX1_go 62 = .ok (.invokevirtual 80, 3) := by decide +kernel
theorem dX1_go_65 : decode cX1_go 65 = .ok (.iinc 5 1, 3) := by decide +kernel
theorem dX1_go_68 : decode cX1_go 68 = .ok (.goto (-23), 3) := by decide +kernel
theorem dX1_go_71 : decode cX1_go 71 = .ok (.iload 4, 2) := by decide +kernel
theorem dX1_go_73 : decode cX1_go 73 = .ok (.iconst 1, 1) := by decide +kernel
theorem dX1_go_74 : decode cX1_go 74 = .ok (.iadd, 1) := by decide +kernel
theorem dX1_go_75 : decode cX1_go 75 = .ok (.istore 5, 2) := by decide +kernel
theorem dX1_go_77 : decode cX1_go 77 = .ok (.aload_n 0, 1) := by decide +kernel
theorem dX1_go_78 : decode cX1_go 78 = .ok (.getfield 62, 3) := by decide +kernel
theorem dX1_go_81 : decode cX1_go 81 = .ok (.ifCond .ne 29, 3) := by decide +kernel
theorem dX1_go_84 : decode cX1_go 84 = .ok (.iload 5, 2) := by decide +kernel
theorem dX1_go_86 : decode cX1_go 86 = .ok (.aload_n 0, 1) := by decide +kernel
theorem dX1_go_87 : decode cX1_go 87 = .ok (.iload 4, 2) := by decide +kernel
theorem dX1_go_89 : decode cX1_go 89 = .ok (.invokevirtual 84, 3) := by decide +kernel
theorem dX1_go_92 : decode cX1_go 92 = .ok (.invokestatic 88, 3) := by decide +kernel
theorem dX1_go_95 : decode cX1_go 95 = .ok (.istore 5, 2) := by decide +kernel
theorem dX1_go_97 : decode cX1_go 97 = .ok (.aload_n 0, 1) := by decide +kernel
theorem dX1_go_98 : decode cX1_go 98 = .ok (.iload 4, 2) := by decide +kernel
theorem dX1_go_100 : decode cX1_go 100 = .ok (.iload 5, 2) := by decide +kernel
theorem dX1_go_102 : decode cX1_go 102 = .ok (.iload 4, 2) := by decide +kernel
theorem dX1_go_104 : decode cX1_go 104 = .ok (.isub, 1) := by decide +kernel
theorem dX1_go_105 : decode cX1_go 105 = .ok (.iconst 1, 1) := by decide +kernel
theorem dX1_go_106 : decode cX1_go 106 = .ok (.isub, 1) := by decide +kernel
theorem dX1_go_107 : decode cX1_go 107 = .ok (.invokevirtual 94, 3) := by decide +kernel
theorem dX1_go_110 : decode cX1_go 110 = .ok (.iload 5, 2) := by decide +kernel
theorem dX1_go_112 : decode cX1_go 112 = .ok (.istore 4, 2) := by decide +kernel
theorem dX1_go_114 : decode cX1_go 114 = .ok (.goto (-92), 3) := by decide +kernel
theorem dX1_go_117 : decode cX1_go 117 = .ok (.return_, 1) := by decide +kernel
theorem dX1_nextDone_0 : decode cX1_nextDone 0 = .ok (.sipush 3600, 3) := by decide +kernel
theorem dX1_nextDone_3 : decode cX1_nextDone 3 = .ok (.istore_n 2, 1) := by decide +kernel
theorem dX1_nextDone_4 : decode cX1_nextDone 4 = .ok (.iconst 0, 1) := by decide +kernel
theorem dX1_nextDone_5 : decode cX1_nextDone 5 = .ok (.istore_n 3, 1) := by decide +kernel
theorem dX1_nextDone_6 : decode cX1_nextDone 6 = .ok (.iload_n 3, 1) := by decide +kernel
theorem dX1_nextDone_7 : decode cX1_nextDone 7 = .ok (.aload_n 0, 1) := by decide +kernel
theorem dX1_nextDone_8 : decode cX1_nextDone 8 = .ok (.getfield 65, 3) := by decide +kernel
theorem dX1_nextDone_11 : decode cX1_nextDone 11 = .ok (.getfield 75, 3) := by decide +kernel
theorem dX1_nextDone_14 : decode cX1_nextDone 14 = .ok (.if_icmp .ge 45, 3) := by decide +kernel
theorem dX1_nextDone_17 : decode cX1_nextDone 17 = .ok (.aload_n 0, 1) := by decide +kernel
theorem dX1_nextDone_18 : decode cX1_nextDone 18 = .ok (.getfield 43, 3) := by decide +kernel
theorem dX1_nextDone_21 : decode cX1_nextDone 21 = .ok (.iload_n 3, 1) := by decide +kernel
theorem dX1_nextDone_22 : decode cX1_nextDone 22 = .ok (.invokevirtual 97, 3) := by decide +kernel
theorem dX1_nextDone_25 : decode cX1_nextDone 25 = .ok (.istore 4, 2) := by decide +kernel
theorem dX1_nextDone_27 : decode cX1_nextDone 27 = .ok (.aload_n 0, 1) := by decide +kernel
theorem dX1_nextDone_28 : decode cX1_nextDone 28 = .ok (.getfield 40, 3) := by decide +kernel
theorem dX1_nextDone_31 : decode cX1_nextDone 31 = .ok (.iload_n 3, 1) := by decide +kernel
theorem dX1_nextDone_32 : decode cX1_nextDone 32 = .ok (.invokevirtual 97, 3) := by decide +kernel
theorem dX1_nextDone_35 : decode cX1_nextDone 35 = .ok (.bipush (-2), 2) := by decide +kernel
theorem dX1_nextDone_37 : decode cX1_nextDone 37 = .ok (.if_icmp .eq 16, 3) := by decide +kernel
theorem dX1_nextDone_40 : decode cX1_nextDone 40 = .ok (.iload 4, 2) := by decide +kernel
theorem dX1_nextDone_42 : decode cX1_nextDone 42 = .ok (.iload_n 1, 1) := by decide +kernel
theorem dX1_nextDone_43 : decode cX1_nextDone 43 = .ok (.if_icmp .le 10, 3) := by decide +kernel
theorem dX1_nextDone_46 : decode cX1_nextDone 46 = .ok (.iload_n 2, 1) := by decide +kernel
theorem dX1_nextDone_47 : decode cX1_nextDone 47 = .ok (.iload 4, 2) := by decide +kernel
theorem dX1_nextDone_49 : decode cX1_nextDone 49 = .ok (.invokestatic 100, 3) := by decide +kernel
theorem dX1_nextDone_52 : decode cX1_nextDone 52 = .ok (.istore_n 2, 1) := by decide +kernel
theorem dX1_nextDone_53 : decode cX1_nextDone 53 = .ok (.iinc 3 1, 3) := by decide +kernel
theorem dX1_nextDone_56 : decode cX1_nextDone 56 = .ok (.goto (-50), 3) := by decide +kernel
theorem dX1_nextDone_59 : decode cX1_nextDone 59 = .ok (.iload_n 2, 1) := by decide +kernel
theorem dX1_nextDone_60 : decode cX1_nextDone 60 = .ok (.ireturn, 1) := by decide +kernel
theorem dX1_waitOn_0 : decode cX1_waitOn 0 = .ok (.iconst 0, 1) := by decide +kernel
theorem dX1_waitOn_1 : decode cX1_waitOn 1 = .ok (.istore_n 3, 1) := by decide +kernel
theorem dX1_waitOn_2 : decode cX1_waitOn 2 = .ok (.iload_n 3, 1) := by decide +kernel
theorem dX1_waitOn_3 : decode cX1_waitOn 3 = .ok (.aload_n 0, 1) := by decide +kernel
theorem dX1_waitOn_4 : decode cX1_waitOn 4 = .ok (.getfield 65, 3) := by decide +kernel
theorem dX1_waitOn_7 : decode cX1_waitOn 7 = .ok (.getfield 75, 3) := by decide +kernel
theorem dX1_waitOn_10 : decode cX1_waitOn 10 = .ok (.if_icmp .ge 43, 3) := by decide +kernel
theorem dX1_waitOn_13 : decode cX1_waitOn 13 = .ok (.aload_n 0, 1) := by decide +kernel
theorem dX1_waitOn_14 : decode cX1_waitOn 14 = .ok (.getfield 40, 3) := by decide +kernel
theorem dX1_waitOn_17 : decode cX1_waitOn 17 = .ok (.iload_n 3, 1) := by decide +kernel
theorem dX1_waitOn_18 : decode cX1_waitOn 18 = .ok (.invokevirtual 97, 3) := by decide +kernel
theorem dX1_waitOn_21 : decode cX1_waitOn 21 = .ok (.bipush (-2), 2) := by decide +kernel
theorem dX1_waitOn_23 : decode cX1_waitOn 23 = .ok (.if_icmp .eq 24, 3) := by decide +kernel
theorem dX1_waitOn_26 : decode cX1_waitOn 26 = .ok (.aload_n 0, 1) := by decide +kernel
theorem dX1_waitOn_27 : decode cX1_waitOn 27 = .ok (.getfield 43, 3) := by decide +kernel
theorem dX1_waitOn_30 : decode cX1_waitOn 30 = .ok (.iload_n 3, 1) := by decide +kernel
theorem dX1_waitOn_31 : decode cX1_waitOn 31 = .ok (.invokevirtual 97, 3) := by decide +kernel
theorem dX1_waitOn_34 : decode cX1_waitOn 34 = .ok (.iload_n 1, 1) := by decide +kernel
theorem dX1_waitOn_35 : decode cX1_waitOn 35 = .ok (.if_icmp .gt 12, 3) := by decide +kernel
theorem dX1_waitOn_38 : decode cX1_waitOn 38 = .ok (.aload_n 0, 1) := by decide +kernel
theorem dX1_waitOn_39 : decode cX1_waitOn 39 = .ok (.getfield 30, 3) := by decide +kernel
theorem dX1_waitOn_42 : decode cX1_waitOn 42 = .ok (.iload_n 3, 1) := by decide +kernel
theorem dX1_waitOn_43 : decode cX1_waitOn 43 = .ok (.iload_n 2, 1) := by decide +kernel
theorem dX1_waitOn_44 : decode cX1_waitOn 44 = .ok (.invokevirtual 103, 3) := by decide +kernel
theorem dX1_waitOn_47 : decode cX1_waitOn 47 = .ok (.iinc 3 1, 3) := by decide +kernel
theorem dX1_waitOn_50 : decode cX1_waitOn 50 = .ok (.goto (-48), 3) := by decide +kernel
theorem dX1_waitOn_53 : decode cX1_waitOn 53 = .ok (.return_, 1) := by decide +kernel
theorem dX1_begin_0 : decode cX1_begin 0 = .ok (.aload_n 0, 1) := by decide +kernel
theorem dX1_begin_1 : decode cX1_begin 1 = .ok (.getfield 12, 3) := by decide +kernel
theorem dX1_begin_4 : decode cX1_begin 4 = .ok (.aload_n 0, 1) := by decide +kernel
theorem dX1_begin_5 : decode cX1_begin 5 = .ok (.getfield 69, 3) := by decide +kernel
theorem dX1_begin_8 : decode cX1_begin 8 = .ok (.invokevirtual 106, 3) := by decide +kernel
theorem dX1_begin_11 : decode cX1_begin 11 = .ok (.aload_n 0, 1) := by decide +kernel
theorem dX1_begin_12 : decode cX1_begin 12 = .ok (.getfield 23, 3) := by decide +kernel
theorem dX1_begin_15 : decode cX1_begin 15 = .ok (.iconst 0, 1) := by decide +kernel
theorem dX1_begin_16 : decode cX1_begin 16 = .ok (.invokevirtual 110, 3) := by decide +kernel
theorem dX1_begin_19 : decode cX1_begin 19 = .ok (.aload_n 0, 1) := by decide +kernel
theorem dX1_begin_20 : decode cX1_begin 20 = .ok (.getfield 27, 3) := by decide +kernel
theorem dX1_begin_23 : decode cX1_begin 23 = .ok (.iconst 0, 1) := by decide +kernel
theorem dX1_begin_24 : decode cX1_begin 24 = .ok (.invokevirtual 110, 3) := by decide +kernel
theorem dX1_begin_27 : decode cX1_begin 27 = .ok (.aload_n 0, 1) := by decide +kernel
theorem dX1_begin_28 : decode cX1_begin 28 = .ok (.getfield 30, 3) := by decide +kernel
theorem dX1_begin_31 : decode cX1_begin 31 = .ok (.iconst 0, 1) := by decide +kernel
theorem dX1_begin_32 : decode cX1_begin 32 = .ok (.invokevirtual 110, 3) := by decide +kernel
theorem dX1_begin_35 : decode cX1_begin 35 = .ok (.aload_n 0, 1) := by decide +kernel
theorem dX1_begin_36 : decode cX1_begin 36 = .ok (.getfield 33, 3) := by decide +kernel
theorem dX1_begin_39 : decode cX1_begin 39 = .ok (.iconst (-1), 1) := by decide +kernel
theorem dX1_begin_40 : decode cX1_begin 40 = .ok (.invokevirtual 110, 3) := by decide +kernel
theorem dX1_begin_43 : decode cX1_begin 43 = .ok (.aload_n 0, 1) := by decide +kernel
theorem dX1_begin_44 : decode cX1_begin 44 = .ok (.iconst 0, 1) := by decide +kernel
theorem dX1_begin_45 : decode cX1_begin 45 = .ok (.putfield 36, 3) := by decide +kernel
theorem dX1_begin_48 : decode cX1_begin 48 = .ok (.aload_n 0, 1) := by decide +kernel
theorem dX1_begin_49 : decode cX1_begin 49 = .ok (.getfield 40, 3) := by decide +kernel
theorem dX1_begin_52 : decode cX1_begin 52 = .ok (.bipush (-3), 2) := by decide +kernel
theorem dX1_begin_54 : decode cX1_begin 54 = .ok (.invokevirtual 110, 3) := by decide +kernel
theorem dX1_begin_57 : decode cX1_begin 57 = .ok (.iconst 0, 1) := by decide +kernel
theorem dX1_begin_58 : decode cX1_begin 58 = .ok (.istore_n 1, 1) := by decide +kernel
theorem dX1_begin_59 : decode cX1_begin 59 = .ok (.iload_n 1, 1) := by decide +kernel
theorem dX1_begin_60 : decode cX1_begin 60 = .ok (.aload_n 0, 1) := by decide +kernel
theorem dX1_begin_61 : decode cX1_begin 61 = .ok (.getfield 65, 3) := by decide +kernel
theorem dX1_begin_64 : decode cX1_begin 64 = .ok (.getfield 75, 3) := by decide +kernel
theorem dX1_begin_67 : decode cX1_begin 67 = .ok (.if_icmp .ge 26, 3) := by decide +kernel
theorem dX1_begin_70 : decode cX1_begin 70 = .ok (.aload_n 0, 1) := by decide +kernel
theorem dX1_begin_71 : decode cX1_begin 71 = .ok (.getfield 43, 3) := by decide +kernel
theorem dX1_begin_74 : decode cX1_begin 74 = .ok (.iload_n 1, 1) := by decide +kernel
theorem dX1_begin_75 : decode cX1_begin 75 = .ok (.aload_n 0, 1) := by decide +kernel
theorem dX1_begin_76 : decode cX1_begin 76 = .ok (.getfield 65, 3) := by decide +kernel
theorem dX1_begin_79 : decode cX1_begin 79 = .ok (.iload_n 1, 1) := by decide +kernel
theorem dX1_begin_80 : decode cX1_begin 80 = .ok (.iconst 0, 1) := by decide +kernel
theorem dX1_begin_81 : decode cX1_begin 81 = .ok (.invokevirtual 113, 3) := by decide +kernel
theorem dX1_begin_84 : decode cX1_begin 84 = .ok (.invokevirtual 116, 3) := by decide +kernel
theorem dX1_begin_87 : decode cX1_begin 87 = .ok (.iinc 1 1, 3) := by decide +kernel
theorem dX1_begin_90 : decode cX1_begin 90 = .ok (.goto (-31), 3) := by decide +kernel
theorem dX1_begin_93 : decode cX1_begin 93 = .ok (.aload_n 0, 1) := by decide +kernel
theorem dX1_begin_94 : decode cX1_begin 94 = .ok (.aload_n 0, 1) := by decide +kernel
theorem dX1_begin_95 : decode cX1_begin 95 = .ok (.getfield 65, 3) := by decide +kernel
theorem dX1_begin_98 : decode cX1_begin 98 = .ok (.getfield 75, 3) := by decide +kernel
theorem dX1_begin_101 : decode cX1_begin 101 = .ok (.putfield 52, 3) := by decide +kernel
theorem dX1_begin_104 : decode cX1_begin 104 = .ok (.return_, 1) := by decide +kernel
theorem dX1_lastGone_0 : decode cX1_lastGone 0 = .ok (.aload_n 0, 1) := by decide +kernel
theorem dX1_lastGone_1 : decode cX1_lastGone 1 = .ok (.getfield 52, 3) := by decide +kernel
theorem dX1_lastGone_4 : decode cX1_lastGone 4 = .ok (.ifCond .le 5, 3) := by decide +kernel
theorem dX1_lastGone_7 : decode cX1_lastGone 7 = .ok (.iconst (-1), 1) := by decide +kernel
theorem dX1_lastGone_8 : decode cX1_lastGone 8 = .ok (.ireturn, 1) := by decide +kernel
theorem dX1_lastGone_9 : decode cX1_lastGone 9 = .ok (.iconst 0, 1) := by decide +kernel
theorem dX1_lastGone_10 : decode cX1_lastGone 10 = .ok (.istore_n 1, 1) := by decide +kernel
theorem dX1_lastGone_11 : decode cX1_lastGone 11 = .ok (.iconst 0, 1) := by decide +kernel
theorem dX1_lastGone_12 : decode cX1_lastGone 12 = .ok (.istore_n 2, 1) := by decide +kernel
theorem dX1_lastGone_13 : decode cX1_lastGone 13 = .ok (.iload_n 2, 1) := by decide +kernel
theorem dX1_lastGone_14 : decode cX1_lastGone 14 = .ok (.aload_n 0, 1) := by decide +kernel
theorem dX1_lastGone_15 : decode cX1_lastGone 15 = .ok (.getfield 65, 3) := by decide +kernel
theorem dX1_lastGone_18 : decode cX1_lastGone 18 = .ok (.getfield 75, 3) := by decide +kernel
theorem dX1_lastGone_21 : decode cX1_lastGone 21 = .ok (.if_icmp .ge 22, 3) := by decide +kernel
theorem dX1_lastGone_24 : decode cX1_lastGone 24 = .ok (.iload_n 1, 1) := by decide +kernel
theorem dX1_lastGone_25 : decode cX1_lastGone 25 = .ok (.aload_n 0, 1) := by decide +kernel
theorem dX1_lastGone_26 : decode cX1_lastGone 26 = .ok (.getfield 33, 3) := by decide +kernel
theorem dX1_lastGone_29 : decode cX1_lastGone 29 = .ok (.iload_n 2, 1) := by decide +kernel
theorem dX1_lastGone_30 : decode cX1_lastGone 30 = .ok (.invokevirtual 97, 3) := by decide +kernel
theorem dX1_lastGone_33 : decode cX1_lastGone 33 = .ok (.invokestatic 88, 3) := by decide +kernel
theorem dX1_lastGone_36 : decode cX1_lastGone 36 = .ok (.istore_n 1, 1) := by decide +kernel
theorem dX1_lastGone_37 : decode cX1_lastGone 37 = .ok (.iinc 2 1, 3) := by decide +kernel
theorem dX1_lastGone_40 : decode cX1_lastGone 40 = .ok (.goto (-27), 3) := by decide +kernel
theorem dX1_lastGone_43 : decode cX1_lastGone 43 = .ok (.iload_n 1, 1) := by decide +kernel
theorem dX1_lastGone_44 : decode cX1_lastGone 44 = .ok (.ireturn, 1) := by decide +kernel
theorem dX1_turn_0 : decode cX1_turn 0 = .ok (.aload_n 0, 1) := by decide +kernel
theorem dX1_turn_1 : decode cX1_turn 1 = .ok (.getfield 40, 3) := by decide +kernel
theorem dX1_turn_4 : decode cX1_turn 4 = .ok (.iload_n 1, 1) := by decide +kernel
theorem dX1_turn_5 : decode cX1_turn 5 = .ok (.invokevirtual 97, 3) := by decide +kernel
theorem dX1_turn_8 : decode cX1_turn 8 = .ok (.istore_n 3, 1) := by decide +kernel
theorem dX1_turn_9 : decode cX1_turn 9 = .ok (.iload_n 3, 1) := by decide +kernel
theorem dX1_turn_10 : decode cX1_turn 10 = .ok (.bipush (-2), 2) := by decide +kernel
theorem dX1_turn_12 : decode cX1_turn 12 = .ok (.if_icmp .eq 15, 3) := by decide +kernel
theorem dX1_turn_15 : decode cX1_turn 15 = .ok (.aload_n 0, 1) := by decide +kernel
theorem dX1_turn_16 : decode cX1_turn 16 = .ok (.getfield 43, 3) := by decide +kernel
theorem dX1_turn_19 : decode cX1_turn 19 = .ok (.iload_n 1, 1) := by decide +kernel
theorem dX1_turn_20 : decode cX1_turn 20 = .ok (.invokevirtual 97, 3) := by decide +kernel
theorem dX1_turn_23 : decode cX1_turn 23 = .ok (.iload_n 2, 1) := by decide +kernel
theorem dX1_turn_24 : decode cX1_turn 24 = .ok (.if_icmp .le 4, 3) := by decide +kernel
theorem dX1_turn_27 : decode cX1_turn 27 = .ok (.return_, 1) := by decide +kernel
theorem dX1_turn_28 : decode cX1_turn 28 = .ok (.aload_n 0, 1) := by decide +kernel
theorem dX1_turn_29 : decode cX1_turn 29 = .ok (.iload_n 1, 1) := by decide +kernel
theorem dX1_turn_30 : decode cX1_turn 30 = .ok (.invokevirtual 119, 3) := by decide +kernel
theorem dX1_turn_33 : decode cX1_turn 33 = .ok (.istore 4, 2) := by decide +kernel
theorem dX1_turn_35 : decode cX1_turn 35 = .ok (.aload_n 0, 1) := by decide +kernel
theorem dX1_turn_36 : decode cX1_turn 36 = .ok (.getfield 65, 3) := by decide +kernel
theorem dX1_turn_39 : decode cX1_turn 39 = .ok (.iload 4, 2) := by decide +kernel
theorem dX1_turn_41 : decode cX1_turn 41 = .ok (.invokevirtual 122, 3) := by decide +kernel
theorem dX1_turn_44 : decode cX1_turn 44 = .ok (.ifCond .ne 10, 3) := by decide +kernel
theorem dX1_turn_47 : decode cX1_turn 47 = .ok (.aload_n 0, 1) := by decide +kernel
theorem dX1_turn_48 : decode cX1_turn 48 = .ok (.iload_n 1, 1) := by decide +kernel
theorem dX1_turn_49 : decode cX1_turn 49 = .ok (.iload_n 2, 1) := by decide +kernel
theorem dX1_turn_50 : decode cX1_turn 50 = .ok (.invokevirtual 126, 3) := by decide +kernel
theorem dX1_turn_53 : decode cX1_turn 53 = .ok (.return_, 1) := by decide +kernel
theorem dX1_turn_54 : decode cX1_turn 54 = .ok (.aload_n 0, 1) := by decide +kernel
theorem dX1_turn_55 : decode cX1_turn 55 = .ok (.iload 4, 2) := by decide +kernel
theorem dX1_turn_57 : decode cX1_turn 57 = .ok (.invokevirtual 129, 3) := by decide +kernel
theorem dX1_turn_60 : decode cX1_turn 60 = .ok (.istore 5, 2) := by decide +kernel
theorem dX1_turn_62 : decode cX1_turn 62 = .ok (.iload 5, 2) := by decide +kernel
theorem dX1_turn_64 : decode cX1_turn 64 = .ok (.iconst (-1), 1) := by decide +kernel
theorem dX1_turn_65 : decode cX1_turn 65 = .ok (.if_icmp .ne 14, 3) := by decide +kernel
theorem dX1_turn_68 : decode cX1_turn 68 = .ok (.aload_n 0, 1) := by decide +kernel
theorem dX1_turn_69 : decode cX1_turn 69 = .ok (.iload_n 1, 1) := by decide +kernel
theorem dX1_turn_70 : decode cX1_turn 70 = .ok (.iload 4, 2) := by decide +kernel
theorem dX1_turn_72 : decode cX1_turn 72 = .ok (.iload_n 2, 1) := by decide +kernel
theorem dX1_turn_73 : decode cX1_turn 73 = .ok (.invokevirtual 132, 3) := by decide +kernel
theorem dX1_turn_76 : decode cX1_turn 76 = .ok (.goto 54, 3) := by decide +kernel
theorem dX1_turn_79 : decode cX1_turn 79 = .ok (.aload_n 0, 1) := by decide +kernel
theorem dX1_turn_80 : decode cX1_turn 80 = .ok (.getfield 43, 3) := by decide +kernel
theorem dX1_turn_83 : decode cX1_turn 83 = .ok (.iload 5, 2) := by decide +kernel
theorem dX1_turn_85 : decode cX1_turn 85 = .ok (.invokevirtual 97, 3) := by decide +kernel
theorem dX1_turn_88 : decode cX1_turn 88 = .ok (.iload_n 2, 1) := by decide +kernel
theorem dX1_turn_89 : decode cX1_turn 89 = .ok (.if_icmp .gt 32, 3) := by decide +kernel
theorem dX1_turn_92 : decode cX1_turn 92 = .ok (.aload_n 0, 1) := by decide +kernel
theorem dX1_turn_93 : decode cX1_turn 93 = .ok (.iload 5, 2) := by decide +kernel
theorem dX1_turn_95 : decode cX1_turn 95 = .ok (.invokevirtual 119, 3) := by decide +kernel
theorem dX1_turn_98 : decode cX1_turn 98 = .ok (.iload_n 3, 1) := by decide +kernel
theorem dX1_turn_99 : decode cX1_turn 99 = .ok (.if_icmp .ne 22, 3) := by decide +kernel
theorem dX1_turn_102 : decode cX1_turn 102 = .ok (.aload_n 0, 1) := by decide +kernel
theorem dX1_turn_103 : decode cX1_turn 103 = .ok (.iload_n 1, 1) := by decide +kernel
theorem dX1_turn_104 : decode cX1_turn 104 = .ok (.iload 4, 2) := by decide +kernel
theorem dX1_turn_106 : decode cX1_turn 106 = .ok (.iload_n 2, 1) := by decide +kernel
theorem dX1_turn_107 : decode cX1_turn 107 = .ok (.invokevirtual 132, 3) := by decide +kernel
theorem dX1_turn_110 : decode cX1_turn 110 = .ok (.aload_n 0, 1) := by decide +kernel
theorem dX1_turn_111 : decode cX1_turn 111 = .ok (.iload 5, 2) := by decide +kernel
theorem dX1_turn_113 : decode cX1_turn 113 = .ok (.iload_n 3, 1) := by decide +kernel
theorem dX1_turn_114 : decode cX1_turn 114 = .ok (.iload_n 2, 1) := by decide +kernel
theorem dX1_turn_115 : decode cX1_turn 115 = .ok (.invokevirtual 132, 3) := by decide +kernel
theorem dX1_turn_118 : decode cX1_turn 118 = .ok (.goto 12, 3) := by decide +kernel
theorem dX1_turn_121 : decode cX1_turn 121 = .ok (.aload_n 0, 1) := by decide +kernel
theorem dX1_turn_122 : decode cX1_turn 122 = .ok (.getfield 30, 3) := by decide +kernel
theorem dX1_turn_125 : decode cX1_turn 125 = .ok (.iload_n 1, 1) := by decide +kernel
theorem dX1_turn_126 : decode cX1_turn 126 = .ok (.iconst 1, 1) := by decide +kernel
theorem dX1_turn_127 : decode cX1_turn 127 = .ok (.invokevirtual 103, 3) := by decide +kernel
theorem dX1_turn_130 : decode cX1_turn 130 = .ok (.return_, 1) := by decide +kernel
theorem dX1_nextOf_0 : decode cX1_nextOf 0 = .ok (.aload_n 0, 1) := by decide +kernel
theorem dX1_nextOf_1 : decode cX1_nextOf 1 = .ok (.getfield 49, 3) := by decide +kernel
theorem dX1_nextOf_4 : decode cX1_nextOf 4 = .ok (.iload_n 1, 1) := by decide +kernel
theorem dX1_nextOf_5 : decode cX1_nextOf 5 = .ok (.invokestatic 136, 3) := by decide +kernel
theorem dX1_nextOf_8 : decode cX1_nextOf 8 = .ok (.istore_n 2, 1) := by decide +kernel
theorem dX1_nextOf_9 : decode cX1_nextOf 9 = .ok (.aload_n 0, 1) := by decide +kernel
theorem dX1_nextOf_10 : decode cX1_nextOf 10 = .ok (.getfield 40, 3) := by decide +kernel
theorem dX1_nextOf_13 : decode cX1_nextOf 13 = .ok (.iload_n 1, 1) := by decide +kernel
theorem dX1_nextOf_14 : decode cX1_nextOf 14 = .ok (.invokevirtual 97, 3) := by decide +kernel
theorem dX1_nextOf_17 : decode cX1_nextOf 17 = .ok (.istore_n 3, 1) := by decide +kernel
theorem dX1_nextOf_18 : decode cX1_nextOf 18 = .ok (.iload_n 3, 1) := by decide +kernel
theorem dX1_nextOf_19 : decode cX1_nextOf 19 = .ok (.bipush (-3), 2) := by decide +kernel
theorem dX1_nextOf_21 : decode cX1_nextOf 21 = .ok (.if_icmp .ne 21, 3) := by decide +kernel
theorem dX1_nextOf_24 : decode cX1_nextOf 24 = .ok (.iload_n 2, 1) := by decide +kernel
theorem dX1_nextOf_25 : decode cX1_nextOf 25 = .ok (.ifCond .eq 15, 3) := by decide +kernel
theorem dX1_nextOf_28 : decode cX1_nextOf 28 = .ok (.aload_n 0, 1) := by decide +kernel
theorem dX1_nextOf_29 : decode cX1_nextOf 29 = .ok (.getfield 65, 3) := by decide +kernel
theorem dX1_nextOf_32 : decode cX1_nextOf 32 = .ok (.getfield 140, 3) := by decide +kernel
theorem dX1_nextOf_35 : decode cX1_nextOf 35 = .ok (.iconst 1, 1) := by decide +kernel
theorem dX1_nextOf_36 : decode cX1_nextOf 36 = .ok (.isub, 1) := by decide +kernel
theorem dX1_nextOf_37 : decode cX1_nextOf 37 = .ok (.goto 4, 3) := by decide +kernel
theorem dX1_nextOf_40 : decode cX1_nextOf 40 = .ok (.iconst 0, 1) := by decide +kernel
theorem dX1_nextOf_41 : decode cX1_nextOf 41 = .ok (.ireturn, 1) := by decide +kernel
theorem dX1_nextOf_42 : decode cX1_nextOf 42 = .ok (.iload_n 2, 1) := by decide +kernel
theorem dX1_nextOf_43 : decode cX1_nextOf 43 = .ok (.ifCond .eq 9, 3) := by decide +kernel
theorem dX1_nextOf_46 : decode cX1_nextOf 46 = .ok (.iload_n 3, 1) := by decide +kernel
theorem dX1_nextOf_47 : decode cX1_nextOf 47 = .ok (.iconst 1, 1) := by decide +kernel
theorem dX1_nextOf_48 : decode cX1_nextOf 48 = .ok (.isub, 1) := by decide +kernel
theorem dX1_nextOf_49 : decode cX1_nextOf 49 = .ok (.goto 6, 3) := by decide +kernel
theorem dX1_nextOf_52 : decode cX1_nextOf 52 = .ok (.iload_n 3, 1) := by decide +kernel
theorem dX1_nextOf_53 : decode cX1_nextOf 53 = .ok (.iconst 1, 1) := by decide +kernel
theorem dX1_nextOf_54 : decode cX1_nextOf 54 = .ok (.iadd, 1) := by decide +kernel
theorem dX1_nextOf_55 : decode cX1_nextOf 55 = .ok (.ireturn, 1) := by decide +kernel
theorem dX1_whoStandsAt_0 : decode cX1_whoStandsAt 0 = .ok (.iconst 0, 1) := by decide +kernel
theorem dX1_whoStandsAt_1 : decode cX1_whoStandsAt 1 = .ok (.istore_n 2, 1) := by decide +kernel
theorem dX1_whoStandsAt_2 : decode cX1_whoStandsAt 2 = .ok (.iload_n 2, 1) := by decide +kernel
theorem dX1_whoStandsAt_3 : decode cX1_whoStandsAt 3 = .ok (.aload_n 0, 1) := by decide +kernel
theorem dX1_whoStandsAt_4 : decode cX1_whoStandsAt 4 = .ok (.getfield 65, 3) := by decide +kernel
theorem dX1_whoStandsAt_7 : decode cX1_whoStandsAt 7 = .ok (.getfield 75, 3) := by decide +kernel
theorem dX1_whoStandsAt_10 : decode cX1_whoStandsAt 10 = .ok (.if_icmp .ge 23, 3) := by decide +kernel
theorem dX1_whoStandsAt_13 : decode cX1_whoStandsAt 13 = .ok (.aload_n 0, 1) := by decide +kernel
theorem dX1_whoStandsAt_14 : decode cX1_whoStandsAt 14 = .ok (.getfield 40, 3) := by decide +kernel
theorem dX1_whoStandsAt_17 : decode cX1_whoStandsAt 17 = .ok (.iload_n 2, 1) := by decide +kernel
theorem dX1_whoStandsAt_18 : decode cX1_whoStandsAt 18 = .ok (.invokevirtual 97, 3) := by decide +kernel
theorem dX1_whoStandsAt_21 : decode cX1_whoStandsAt 21 = .ok (.iload_n 1, 1) := by decide +kernel
theorem dX1_whoStandsAt_22 : decode cX1_whoStandsAt 22 = .ok (.if_icmp .ne 5, 3) := by decide +kernel
theorem dX1_whoStandsAt_25 : decode cX1_whoStandsAt 25 = .ok (.iload_n 2, 1) := by decide +kernel
theorem dX1_whoStandsAt_26 : decode cX1_whoStandsAt 26 = .ok (.ireturn, 1) := by decide +kernel
theorem dX1_whoStandsAt_27 : decode cX1_whoStandsAt 27 = .ok (.iinc 2 1, 3) := by decide +kernel
theorem dX1_whoStandsAt_30 : decode cX1_whoStandsAt 30 = .ok (.goto (-28), 3) := by decide +kernel
theorem dX1_whoStandsAt_33 : decode cX1_whoStandsAt 33 = .ok (.iconst (-1), 1) := by decide +kernel
theorem dX1_whoStandsAt_34 : decode cX1_whoStandsAt 34 = .ok (.ireturn, 1) := by decide +kernel
theorem dX1_leave_0 : decode cX1_leave 0 = .ok (.aload_n 0, 1) := by decide +kernel
theorem dX1_leave_1 : decode cX1_leave 1 = .ok (.getfield 40, 3) := by decide +kernel
theorem dX1_leave_4 : decode cX1_leave 4 = .ok (.iload_n 1, 1) := by decide +kernel
theorem dX1_leave_5 : decode cX1_leave 5 = .ok (.bipush (-2), 2) := by decide +kernel
theorem dX1_leave_7 : decode cX1_leave 7 = .ok (.invokevirtual 116, 3) := by decide +kernel
theorem dX1_leave_10 : decode cX1_leave 10 = .ok (.aload_n 0, 1) := by decide +kernel
theorem dX1_leave_11 : decode cX1_leave 11 = .ok (.getfield 33, 3) := by decide +kernel
theorem dX1_leave_14 : decode cX1_leave 14 = .ok (.iload_n 1, 1) := by decide +kernel
theorem dX1_leave_15 : decode cX1_leave 15 = .ok (.iload_n 2, 1) := by decide +kernel
theorem dX1_leave_16 : decode cX1_leave 16 = .ok (.invokevirtual 116, 3) := by decide +kernel
theorem dX1_leave_19 : decode cX1_leave 19 = .ok (.aload_n 0, 1) := by decide +kernel
theorem dX1_leave_20 : decode cX1_leave 20 = .ok (.dup, 1) := by decide +kernel
theorem dX1_leave_21 : decode cX1_leave 21 = .ok (.getfield 52, 3) := by decide +kernel
theorem dX1_leave_24 : decode cX1_leave 24 = .ok (.iconst 1, 1) := by decide +kernel
theorem dX1_leave_25 : decode cX1_leave 25 = .ok (.isub, 1) := by decide +kernel
theorem dX1_leave_26 : decode cX1_leave 26 = .ok (.putfield 52, 3) := by decide +kernel
theorem dX1_leave_29 : decode cX1_leave 29 = .ok (.aload_n 0, 1) := by decide +kernel
theorem dX1_leave_30 : decode cX1_leave 30 = .ok (.iconst 1, 1) := by decide +kernel
theorem dX1_leave_31 : decode cX1_leave 31 = .ok (.putfield 62, 3) := by decide +kernel
theorem dX1_leave_34 : decode cX1_leave 34 = .ok (.return_, 1) := by decide +kernel
theorem dX1_come_0 : decode cX1_come 0 = .ok (.aload_n 0, 1) := by decide +kernel
theorem dX1_come_1 : decode cX1_come 1 = .ok (.getfield 40, 3) := by decide +kernel
theorem dX1_come_4 : decode cX1_come 4 = .ok (.iload_n 1, 1) := by decide +kernel
theorem dX1_come_5 : decode cX1_come 5 = .ok (.iload_n 2, 1) := by decide +kernel
theorem dX1_come_6 : decode cX1_come 6 = .ok (.invokevirtual 116, 3) := by decide +kernel
theorem dX1_come_9 : decode cX1_come 9 = .ok (.aload_n 0, 1) := by decide +kernel
theorem dX1_come_10 : decode cX1_come 10 = .ok (.iconst 1, 1) := by decide +kernel
theorem dX1_come_11 : decode cX1_come 11 = .ok (.putfield 62, 3) := by decide +kernel
theorem dX1_come_14 : decode cX1_come 14 = .ok (.aload_n 0, 1) := by decide +kernel
theorem dX1_come_15 : decode cX1_come 15 = .ok (.getfield 12, 3) := by decide +kernel
theorem dX1_come_18 : decode cX1_come 18 = .ok (.iload_n 2, 1) := by decide +kernel
theorem dX1_come_19 : decode cX1_come 19 = .ok (.invokevirtual 143, 3) := by decide +kernel
theorem dX1_come_22 : decode cX1_come 22 = .ok (.aload_n 0, 1) := by decide +kernel
theorem dX1_come_23 : decode cX1_come 23 = .ok (.getfield 65, 3) := by decide +kernel
theorem dX1_come_26 : decode cX1_come 26 = .ok (.iload_n 1, 1) := by decide +kernel
theorem dX1_come_27 : decode cX1_come 27 = .ok (.iconst 1, 1) := by decide +kernel
theorem dX1_come_28 : decode cX1_come 28 = .ok (.invokevirtual 113, 3) := by decide +kernel
theorem dX1_come_31 : decode cX1_come 31 = .ok (.invokestatic 146, 3) := by decide +kernel
theorem dX1_come_34 : decode cX1_come 34 = .ok (.istore 4, 2) := by decide +kernel
theorem dX1_come_36 : decode cX1_come 36 = .ok (.aload_n 0, 1) := by decide +kernel
theorem dX1_come_37 : decode cX1_come 37 = .ok (.getfield 58, 3) := by decide +kernel
theorem dX1_come_40 : decode cX1_come 40 = .ok (.ifCond .ne 22, 3) := by decide +kernel
theorem dX1_come_43 : decode cX1_come 43 = .ok (.iload 4, 2) := by decide +kernel
theorem dX1_come_45 : decode cX1_come 45 = .ok (.aload_n 0, 1) := by decide +kernel
theorem dX1_come_46 : decode cX1_come 46 = .ok (.getfield 65, 3) := by decide +kernel
theorem dX1_come_49 : decode cX1_come 49 = .ok (.getfield 149, 3) := by decide +kernel
theorem dX1_come_52 : decode cX1_come 52 = .ok (.aload_n 0, 1) := by decide +kernel
theorem dX1_come_53 : decode cX1_come 53 = .ok (.iload_n 1, 1) := by decide +kernel
theorem dX1_come_54 : decode cX1_come 54 = .ok (.iload_n 2, 1) := by decide +kernel
theorem dX1_come_55 : decode cX1_come 55 = .ok (.invokevirtual 152, 3) := by decide +kernel
theorem dX1_come_58 : decode cX1_come 58 = .ok (.imul, 1) := by decide +kernel
theorem dX1_come_59 : decode cX1_come 59 = .ok (.iadd, 1) := by decide +kernel
theorem dX1_come_60 : decode cX1_come 60 = .ok (.istore 4, 2) := by decide +kernel
theorem dX1_come_62 : decode cX1_come 62 = .ok (.aload_n 0, 1) := by decide +kernel
theorem dX1_come_63 : decode cX1_come 63 = .ok (.getfield 43, 3) := by decide +kernel
theorem dX1_come_66 : decode cX1_come 66 = .ok (.iload_n 1, 1) := by decide +kernel
theorem dX1_come_67 : decode cX1_come 67 = .ok (.iload_n 3, 1) := by decide +kernel
theorem dX1_come_68 : decode cX1_come 68 = .ok (.iload 4, 2) := by decide +kernel
theorem dX1_come_70 : decode cX1_come 70 = .ok (.iadd, 1) := by decide +kernel
theorem dX1_come_71 : decode cX1_come 71 = .ok (.invokevirtual 116, 3) := by decide +kernel
theorem dX1_come_74 : decode cX1_come 74 = .ok (.return_, 1) := by decide +kernel
theorem dX1_goThrough_0 : decode cX1_goThrough 0 = .ok (.iconst 0, 1) := by decide +kernel
theorem dX1_goThrough_1 : decode cX1_goThrough 1 = .ok (.istore_n 3, 1) := by decide +kernel
theorem dX1_goThrough_2 : decode cX1_goThrough 2 = .ok (.iconst 0, 1) := by decide +kernel
theorem dX1_goThrough_3 : decode cX1_goThrough 3 = .ok (.istore 4, 2) := by decide +kernel
theorem dX1_goThrough_5 : decode cX1_goThrough 5 = .ok (.iconst 0, 1) := by decide +kernel
theorem dX1_goThrough_6 : decode cX1_goThrough 6 = .ok (.istore 5, 2) := by decide +kernel
theorem dX1_goThrough_8 : decode cX1_goThrough 8 = .ok (.iload 5, 2) := by decide +kernel
theorem dX1_goThrough_10 : decode cX1_goThrough 10 = .ok (.bipush 24, 2) := by decide +kernel
theorem dX1_goThrough_12 : decode cX1_goThrough 12 = .ok (.if_icmp .ge 76, 3) := by decide +kernel
theorem dX1_goThrough_15 : decode cX1_goThrough 15 = .ok (.aload_n 0, 1) := by decide +kernel
theorem dX1_goThrough_16 : decode cX1_goThrough 16 = .ok (.getfield 12, 3) := by decide +kernel
theorem dX1_goThrough_19 : decode cX1_goThrough 19 = .ok (.getfield 155, 3) := by decide +kernel
theorem dX1_goThrough_22 : decode cX1_goThrough 22 = .ok (.iload 5, 2) := by decide +kernel
theorem dX1_goThrough_24 : decode cX1_goThrough 24 = .ok (.invokevirtual 97, 3) := by decide +kernel
theorem dX1_goThrough_27 : decode cX1_goThrough 27 = .ok (.istore 6, 2) := by decide +kernel
theorem dX1_goThrough_29 : decode cX1_goThrough 29 = .ok (.aload_n 0, 1) := by decide +kernel
theorem dX1_goThrough_30 : decode cX1_goThrough 30 = .ok (.getfield 12, 3) := by decide +kernel
theorem dX1_goThrough_33 : decode cX1_goThrough 33 = .ok (.getfield 158, 3) := by decide +kernel
theorem dX1_goThrough_36 : decode cX1_goThrough 36 = .ok (.iload 6, 2) := by decide +kernel
theorem dX1_goThrough_38 : decode cX1_goThrough 38 = .ok (.invokevirtual 97, 3) := by decide +kernel
theorem dX1_goThrough_41 : decode cX1_goThrough 41 = .ok (.iload_n 2, 1) := by decide +kernel
theorem dX1_goThrough_42 : decode cX1_goThrough 42 = .ok (.if_icmp .ne 40, 3) := by decide +kernel
theorem dX1_goThrough_45 : decode cX1_goThrough 45 = .ok (.aload_n 0, 1) := by decide +kernel
theorem dX1_goThrough_46 : decode cX1_goThrough 46 = .ok (.iload_n 1, 1) := by decide +kernel
theorem dX1_goThrough_47 : decode cX1_goThrough 47 = .ok (.iload 6, 2) := by decide +kernel
theorem dX1_goThrough_49 : decode cX1_goThrough 49 = .ok (.invokevirtual 161, 3) := by decide +kernel
theorem dX1_goThrough_52 : decode cX1_goThrough 52 = .ok (.ifCond .eq 30, 3) := by decide +kernel
theorem dX1_goThrough_55 : decode cX1_goThrough 55 = .ok (.iinc 3 1, 3) := by decide +kernel
theorem dX1_goThrough_58 : decode cX1_goThrough 58 = .ok (.aload_n 0, 1) := by decide +kernel
theorem dX1_goThrough_59 : decode cX1_goThrough 59 = .ok (.iload_n 1, 1) := by decide +kernel
theorem dX1_goThrough_60 : decode cX1_goThrough 60 = .ok (.iload 6, 2) := by decide +kernel
theorem dX1_goThrough_62 : decode cX1_goThrough 62 = .ok (.invokevirtual 164, 3) := by decide +kernel
theorem dX1_goThrough_65 : decode cX1_goThrough 65 = .ok (.ifCond .ne 17, 3) := by decide +kernel
theorem dX1_goThrough_68 : decode cX1_goThrough 68 = .ok (.aload_n 0, 1) := by decide +kernel
theorem dX1_goThrough_69 : decode cX1_goThrough 69 = .ok (.getfield 46, 3) := by decide +kernel
theorem dX1_goThrough_72 : decode cX1_goThrough 72 = .ok (.iload 4, 2) := by decide +kernel
theorem dX1_goThrough_74 : decode cX1_goThrough 74 = .ok (.iload 6, 2) := by decide +kernel
theorem dX1_goThrough_76 : decode cX1_goThrough 76 = .ok (.invokevirtual 116, 3) := by decide +kernel
theorem dX1_goThrough_79 : decode cX1_goThrough 79 = .ok (.iinc 4 1, 3) := by decide +kernel
theorem dX1_goThrough_82 : decode cX1_goThrough 82 = .ok (.iinc 5 1, 3) := by decide +kernel
theorem dX1_goThrough_85 : decode cX1_goThrough 85 = .ok (.goto (-77), 3) := by decide +kernel
theorem dX1_goThrough_88 : decode cX1_goThrough 88 = .ok (.iconst 0, 1) := by decide +kernel
theorem dX1_goThrough_89 : decode cX1_goThrough 89 = .ok (.istore 5, 2) := by decide +kernel
theorem dX1_goThrough_91 : decode cX1_goThrough 91 = .ok (.iload 5, 2) := by decide +kernel
theorem dX1_goThrough_93 : decode cX1_goThrough 93 = .ok (.iload 4, 2) := by decide +kernel
theorem dX1_goThrough_95 : decode cX1_goThrough 95 = .ok (.if_icmp .ge 36, 3) := by decide +kernel
theorem dX1_goThrough_98 : decode cX1_goThrough 98 = .ok (.aload_n 0, 1) := by decide +kernel
theorem dX1_goThrough_99 : decode cX1_goThrough 99 = .ok (.getfield 46, 3) := by decide +kernel
theorem dX1_goThrough_102 : decode cX1_goThrough 102 = .ok (.iload 5, 2) := by decide +kernel
theorem dX1_goThrough_104 : decode cX1_goThrough 104 = .ok (.invokevirtual 97, 3) := by decide +kernel
theorem dX1_goThrough_107 : decode cX1_goThrough 107 = .ok (.istore 6, 2) := by decide +kernel
theorem dX1_goThrough_109 : decode cX1_goThrough 109 = .ok (.aload_n 0, 1) := by decide +kernel
theorem dX1_goThrough_110 : decode cX1_goThrough 110 = .ok (.getfield 12, 3) := by decide +kernel
theorem dX1_goThrough_113 : decode cX1_goThrough 113 = .ok (.iload 6, 2) := by decide +kernel
theorem dX1_goThrough_115 : decode cX1_goThrough 115 = .ok (.aload_n 0, 1) := by decide +kernel
theorem dX1_goThrough_116 : decode cX1_goThrough 116 = .ok (.iload 6, 2) := by decide +kernel
theorem dX1_goThrough_118 : decode cX1_goThrough 118 = .ok (.iload_n 2, 1) := by decide +kernel
theorem dX1_goThrough_119 : decode cX1_goThrough 119 = .ok (.invokevirtual 167, 3) := by decide +kernel
theorem dX1_goThrough_122 : decode cX1_goThrough 122 = .ok (.invokevirtual 170, 3) := by decide +kernel
theorem dX1_goThrough_125 : decode cX1_goThrough 125 = .ok (.iinc 5 1, 3) := by decide +kernel
theorem dX1_goThrough_128 : decode cX1_goThrough 128 = .ok (.goto (-37), 3) := by decide +kernel
theorem dX1_goThrough_131 : decode cX1_goThrough 131 = .ok (.aload_n 0, 1) := by decide +kernel
theorem dX1_goThrough_132 : decode cX1_goThrough 132 = .ok (.dup, 1) := by decide +kernel
theorem dX1_goThrough_133 : decode cX1_goThrough 133 = .ok (.getfield 36, 3) := by decide +kernel
theorem dX1_goThrough_136 : decode cX1_goThrough 136 = .ok (.iload_n 3, 1) := by decide +kernel
theorem dX1_goThrough_137 : decode cX1_goThrough 137 = .ok (.iadd, 1) := by decide +kernel
theorem dX1_goThrough_138 : decode cX1_goThrough 138 = .ok (.putfield 36, 3) := by decide +kernel
theorem dX1_goThrough_141 : decode cX1_goThrough 141 = .ok (.iload_n 3, 1) := by decide +kernel
theorem dX1_goThrough_142 : decode cX1_goThrough 142 = .ok (.ireturn, 1) := by decide +kernel
theorem dX1_holdsUp_0 : decode cX1_holdsUp 0 = .ok (.aload_n 0, 1) := by decide +kernel
theorem dX1_holdsUp_1 : decode cX1_holdsUp 1 = .ok (.bipush 8, 2) := by decide +kernel
theorem dX1_holdsUp_3 : decode cX1_holdsUp 3 = .ok (.invokevirtual 173, 3) := by decide +kernel
theorem dX1_holdsUp_6 : decode cX1_holdsUp 6 = .ok (.aload_n 0, 1) := by decide +kernel
theorem dX1_holdsUp_7 : decode cX1_holdsUp 7 = .ok (.getfield 65, 3) := by decide +kernel
theorem dX1_holdsUp_10 : decode cX1_holdsUp 10 = .ok (.getfield 176, 3) := by decide +kernel
theorem dX1_holdsUp_13 : decode cX1_holdsUp 13 = .ok (.aload_n 0, 1) := by decide +kernel
theorem dX1_holdsUp_14 : decode cX1_holdsUp 14 = .ok (.getfield 65, 3) := by decide +kernel
theorem dX1_holdsUp_17 : decode cX1_holdsUp 17 = .ok (.iload_n 1, 1) := by decide +kernel
theorem dX1_holdsUp_18 : decode cX1_holdsUp 18 = .ok (.iconst 1, 1) := by decide +kernel
theorem dX1_holdsUp_19 : decode cX1_holdsUp 19 = .ok (.invokevirtual 113, 3) := by decide +kernel
theorem dX1_holdsUp_22 : decode cX1_holdsUp 22 = .ok (.invokevirtual 97, 3) := by decide +kernel
theorem dX1_holdsUp_25 : decode cX1_holdsUp 25 = .ok (.if_icmp .lt 7, 3) := by decide +kernel
theorem dX1_holdsUp_28 : decode cX1_holdsUp 28 = .ok (.iconst 1, 1) := by decide +kernel
theorem dX1_holdsUp_29 : decode cX1_holdsUp 29 = .ok (.goto 4, 3) := by decide +kernel
theorem dX1_holdsUp_32 : decode cX1_holdsUp 32 = .ok (.iconst 0, 1) := by decide +kernel
theorem dX1_holdsUp_33 : decode cX1_holdsUp 33 = .ok (.istore_n 3, 1) := by decide +kernel
theorem dX1_holdsUp_34 : decode cX1_holdsUp 34 = .ok (.iload_n 3, 1) := by decide +kernel
theorem dX1_holdsUp_35 : decode cX1_holdsUp 35 = .ok (.ifCond .eq 28, 3) := by decide +kernel
theorem dX1_holdsUp_38 : decode cX1_holdsUp 38 = .ok (.aload_n 0, 1) := by decide +kernel
theorem dX1_holdsUp_39 : decode cX1_holdsUp 39 = .ok (.getfield 65, 3) := by decide +kernel
theorem dX1_holdsUp_42 : decode cX1_holdsUp 42 = .ok (.iload_n 2, 1) := by decide +kernel
theorem dX1_holdsUp_43 : decode cX1_holdsUp 43 = .ok (.iconst 2, 1) := by decide +kernel
theorem dX1_holdsUp_44 : decode cX1_holdsUp 44 = .ok (.invokevirtual 179, 3) := by decide +kernel
theorem dX1_holdsUp_47 : decode cX1_holdsUp 47 = .ok (.aload_n 0, 1) := by decide +kernel
theorem dX1_holdsUp_48 : decode cX1_holdsUp 48 = .ok (.getfield 65, 3) := by decide +kernel
theorem dX1_holdsUp_51 : decode cX1_holdsUp 51 = .ok (.iload_n 1, 1) := by decide +kernel
theorem dX1_holdsUp_52 : decode cX1_holdsUp 52 = .ok (.iconst 2, 1) := by decide +kernel
theorem dX1_holdsUp_53 : decode cX1_holdsUp 53 = .ok (.invokevirtual 113, 3) := by decide +kernel
theorem dX1_holdsUp_56 : decode cX1_holdsUp 56 = .ok (.if_icmp .lt 7, 3) := by decide +kernel
theorem dX1_holdsUp_59 : decode cX1_holdsUp 59 = .ok (.iconst 1, 1) := by decide +kernel
theorem dX1_holdsUp_60 : decode cX1_holdsUp 60 = .ok (.goto 4, 3) := by decide +kernel
theorem dX1_holdsUp_63 : decode cX1_holdsUp 63 = .ok (.iconst 0, 1) := by decide +kernel
theorem dX1_holdsUp_64 : decode cX1_holdsUp 64 = .ok (.ireturn, 1) := by decide +kernel
theorem dX1_buysIt_0 : decode cX1_buysIt 0 = .ok (.aload_n 0, 1) := by decide +kernel
theorem dX1_buysIt_1 : decode cX1_buysIt 1 = .ok (.getfield 65, 3) := by decide +kernel
theorem dX1_buysIt_4 : decode cX1_buysIt 4 = .ok (.iload_n 2, 1) := by decide +kernel
theorem dX1_buysIt_5 : decode cX1_buysIt 5 = .ok (.iconst 1, 1) := by decide +kernel
theorem dX1_buysIt_6 : decode cX1_buysIt 6 = .ok (.invokevirtual 179, 3) := by decide +kernel
theorem dX1_buysIt_9 : decode cX1_buysIt 9 = .ok (.istore_n 3, 1) := by decide +kernel
theorem dX1_buysIt_10 : decode cX1_buysIt 10 = .ok (.aload_n 0, 1) := by decide +kernel
theorem dX1_buysIt_11 : decode cX1_buysIt 11 = .ok (.getfield 65, 3) := by decide +kernel
theorem dX1_buysIt_14 : decode cX1_buysIt 14 = .ok (.iload_n 1, 1) := by decide +kernel
theorem dX1_buysIt_15 : decode cX1_buysIt 15 = .ok (.iconst 4, 1) := by decide +kernel
theorem dX1_buysIt_16 : decode cX1_buysIt 16 = .ok (.invokevirtual 113, 3) := by decide +kernel
theorem dX1_buysIt_19 : decode cX1_buysIt 19 = .ok (.aload_n 0, 1) := by decide +kernel
theorem dX1_buysIt_20 : decode cX1_buysIt 20 = .ok (.getfield 27, 3) := by decide +kernel
theorem dX1_buysIt_23 : decode cX1_buysIt 23 = .ok (.iload_n 1, 1) := by decide +kernel
theorem dX1_buysIt_24 : decode cX1_buysIt 24 = .ok (.invokevirtual 97, 3) := by decide +kernel
theorem dX1_buysIt_27 : decode cX1_buysIt 27 = .ok (.isub, 1) := by decide +kernel
theorem dX1_buysIt_28 : decode cX1_buysIt 28 = .ok (.istore 4, 2) := by decide +kernel
theorem dX1_buysIt_30 : decode cX1_buysIt 30 = .ok (.iload_n 3, 1) := by decide +kernel
theorem dX1_buysIt_31 : decode cX1_buysIt 31 = .ok (.aload_n 0, 1) := by decide +kernel
theorem dX1_buysIt_32 : decode cX1_buysIt 32 = .ok (.getfield 65, 3) := by decide +kernel
theorem dX1_buysIt_35 : decode cX1_buysIt 35 = .ok (.iload_n 1, 1) := by decide +kernel
theorem dX1_buysIt_36 : decode cX1_buysIt 36 = .ok (.iconst 3, 1) := by decide +kernel
theorem dX1_buysIt_37 : decode cX1_buysIt 37 = .ok (.invokevirtual 113, 3) := by decide +kernel
theorem dX1_buysIt_40 : decode cX1_buysIt 40 = .ok (.if_icmp .gt 9, 3) := by decide +kernel
theorem dX1_buysIt_43 : decode cX1_buysIt 43 = .ok (.iload_n 3, 1) := by decide +kernel
theorem dX1_buysIt_44 : decode cX1_buysIt 44 = .ok (.iload 4, 2) := by decide +kernel
theorem dX1_buysIt_46 : decode cX1_buysIt 46 = .ok (.if_icmp .le 5, 3) := by decide +kernel
theorem dX1_buysIt_49 : decode cX1_buysIt 49 = .ok (.iconst 0, 1) := by decide +kernel
theorem dX1_buysIt_50 : decode cX1_buysIt 50 = .ok (.ireturn, 1) := by decide +kernel
theorem dX1_buysIt_51 : decode cX1_buysIt 51 = .ok (.aload_n 0, 1) := by decide +kernel
theorem dX1_buysIt_52 : decode cX1_buysIt 52 = .ok (.getfield 12, 3) := by decide +kernel
theorem dX1_buysIt_55 : decode cX1_buysIt 55 = .ok (.iload_n 2, 1) := by decide +kernel
theorem dX1_buysIt_56 : decode cX1_buysIt 56 = .ok (.invokevirtual 182, 3) := by decide +kernel
theorem dX1_buysIt_59 : decode cX1_buysIt 59 = .ok (.aload_n 0, 1) := by decide +kernel
theorem dX1_buysIt_60 : decode cX1_buysIt 60 = .ok (.getfield 23, 3) := by decide +kernel
theorem dX1_buysIt_63 : decode cX1_buysIt 63 = .ok (.iload_n 1, 1) := by decide +kernel
theorem dX1_buysIt_64 : decode cX1_buysIt 64 = .ok (.iconst 1, 1) := by decide +kernel
theorem dX1_buysIt_65 : decode cX1_buysIt 65 = .ok (.invokevirtual 103, 3) := by decide +kernel
theorem dX1_buysIt_68 : decode cX1_buysIt 68 = .ok (.aload_n 0, 1) := by decide +kernel
theorem dX1_buysIt_69 : decode cX1_buysIt 69 = .ok (.getfield 27, 3) := by decide +kernel
theorem dX1_buysIt_72 : decode cX1_buysIt 72 = .ok (.iload_n 1, 1) := by decide +kernel
theorem dX1_buysIt_73 : decode cX1_buysIt 73 = .ok (.iload_n 3, 1) := by decide +kernel
theorem dX1_buysIt_74 : decode cX1_buysIt 74 = .ok (.invokevirtual 103, 3) := by decide +kernel
theorem dX1_buysIt_77 : decode cX1_buysIt 77 = .ok (.iconst 1, 1) := by decide +kernel
theorem dX1_buysIt_78 : decode cX1_buysIt 78 = .ok (.ireturn, 1) := by decide +kernel
theorem dX1_drawnCrate_0 : decode cX1_drawnCrate 0 = .ok (.aload_n 0, 1) := by decide +kernel
theorem dX1_drawnCrate_1 : decode cX1_drawnCrate 1 = .ok (.aload_n 0, 1) := by decide +kernel
theorem dX1_drawnCrate_2 : decode cX1_drawnCrate 2 = .ok (.getfield 65, 3) := by decide +kernel
theorem dX1_drawnCrate_5 : decode cX1_drawnCrate 5 = .ok (.getfield 185, 3) := by decide +kernel
theorem dX1_drawnCrate_8 : decode cX1_drawnCrate 8 = .ok (.invokevirtual 188, 3) := by decide +kernel
theorem dX1_drawnCrate_11 : decode cX1_drawnCrate 11 = .ok (.invokevirtual 173, 3) := by decide +kernel
theorem dX1_drawnCrate_14 : decode cX1_drawnCrate 14 = .ok (.istore_n 3, 1) := by decide +kernel
theorem dX1_drawnCrate_15 : decode cX1_drawnCrate 15 = .ok (.aload_n 0, 1) := by decide +kernel
theorem dX1_drawnCrate_16 : decode cX1_drawnCrate 16 = .ok (.getfield 65, 3) := by decide +kernel
theorem dX1_drawnCrate_19 : decode cX1_drawnCrate 19 = .ok (.getfield 185, 3) := by decide +kernel
theorem dX1_drawnCrate_22 : decode cX1_drawnCrate 22 = .ok (.iconst 0, 1) := by decide +kernel
theorem dX1_drawnCrate_23 : decode cX1_drawnCrate 23 = .ok (.invokevirtual 97, 3) := by decide +kernel
theorem dX1_drawnCrate_26 : decode cX1_drawnCrate 26 = .ok (.istore 4, 2) := by decide +kernel
theorem dX1_drawnCrate_28 : decode cX1_drawnCrate 28 = .ok (.iload_n 3, 1) := by decide +kernel
theorem dX1_drawnCrate_29 : decode cX1_drawnCrate 29 = .ok (.iload 4, 2) := by decide +kernel
theorem dX1_drawnCrate_31 : decode cX1_drawnCrate 31 = .ok (.if_icmp .ge 13, 3) := by decide +kernel
theorem dX1_drawnCrate_34 : decode cX1_drawnCrate 34 = .ok (.aload_n 0, 1) := by decide +kernel
theorem dX1_drawnCrate_35 : decode cX1_drawnCrate 35 = .ok (.getfield 65, 3) := by decide +kernel
theorem dX1_drawnCrate_38 : decode cX1_drawnCrate 38 = .ok (.iload_n 1, 1) := by decide +kernel
theorem dX1_drawnCrate_39 : decode cX1_drawnCrate 39 = .ok (.iconst 3, 1) := by decide +kernel
theorem dX1_drawnCrate_40 : decode cX1_drawnCrate 40 = .ok (.invokevirtual 179, 3) := by decide +kernel
theorem dX1_drawnCrate_43 : decode cX1_drawnCrate 43 = .ok (.ireturn, 1) := by decide +kernel
theorem dX1_drawnCrate_44 : decode cX1_drawnCrate 44 = .ok (.iload 4, 2) := by decide +kernel
theorem dX1_drawnCrate_46 : decode cX1_drawnCrate 46 = .ok (.aload_n 0, 1) := by decide +kernel
theorem dX1_drawnCrate_47 : decode cX1_drawnCrate 47 = .ok (.getfield 65, 3) := by decide +kernel
theorem dX1_drawnCrate_50 : decode cX1_drawnCrate 50 = .ok (.getfield 185, 3) := by decide +kernel
theorem dX1_drawnCrate_53 : decode cX1_drawnCrate 53 = .ok (.iconst 1, 1) := by decide +kernel
theorem dX1_drawnCrate_54 : decode cX1_drawnCrate 54 = .ok (.invokevirtual 97, 3) := by decide +kernel
theorem dX1_drawnCrate_57 : decode cX1_drawnCrate 57 = .ok (.iadd, 1) := by decide +kernel
theorem dX1_drawnCrate_58 : decode cX1_drawnCrate 58 = .ok (.istore 4, 2) := by decide +kernel
theorem dX1_drawnCrate_60 : decode cX1_drawnCrate 60 = .ok (.iload_n 3, 1) := by decide +kernel
theorem dX1_drawnCrate_61 : decode cX1_drawnCrate 61 = .ok (.iload 4, 2) := by decide +kernel
theorem dX1_drawnCrate_63 : decode cX1_drawnCrate 63 = .ok (.if_icmp .ge 41, 3) := by decide +kernel
theorem dX1_drawnCrate_66 : decode cX1_drawnCrate 66 = .ok (.aload_n 0, 1) := by decide +kernel
theorem dX1_drawnCrate_67 : decode cX1_drawnCrate 67 = .ok (.iconst 2, 1) := by decide +kernel
theorem dX1_drawnCrate_68 : decode cX1_drawnCrate 68 = .ok (.invokevirtual 173, 3) := by decide +kernel
theorem dX1_drawnCrate_71 : decode cX1_drawnCrate 71 = .ok (.ifCond .ne 9, 3) := by decide +kernel
theorem dX1_drawnCrate_74 : decode cX1_drawnCrate 74 = .ok (.iload_n 2, 1) := by decide +kernel
theorem dX1_drawnCrate_75 : decode cX1_drawnCrate 75 = .ok (.iconst 1, 1) := by decide +kernel
theorem dX1_drawnCrate_76 : decode cX1_drawnCrate 76 = .ok (.isub, 1) := by decide +kernel
theorem dX1_drawnCrate_77 : decode cX1_drawnCrate 77 = .ok (.goto 6, 3) := by decide +kernel
theorem dX1_drawnCrate_80 : decode cX1_drawnCrate 80 = .ok (.iload_n 2, 1) := by decide +kernel
theorem dX1_drawnCrate_81 : decode cX1_drawnCrate 81 = .ok (.iconst 1, 1) := by decide +kernel
theorem dX1_drawnCrate_82 : decode cX1_drawnCrate 82 = .ok (.iadd, 1) := by decide +kernel
theorem dX1_drawnCrate_83 : decode cX1_drawnCrate 83 = .ok (.istore 5, 2) := by decide +kernel
theorem dX1_drawnCrate_85 : decode cX1_drawnCrate 85 = .ok (.aload_n 0, 1) := by decide +kernel
theorem dX1_drawnCrate_86 : decode cX1_drawnCrate 86 = .ok (.getfield 65, 3) := by decide +kernel
theorem dX1_drawnCrate_89 : decode cX1_drawnCrate 89 = .ok (.iload 5, 2) := by decide +kernel
theorem dX1_drawnCrate_91 : decode cX1_drawnCrate 91 = .ok (.invokevirtual 122, 3) := by decide +kernel
theorem dX1_drawnCrate_94 : decode cX1_drawnCrate 94 = .ok (.ifCond .eq 8, 3) := by decide +kernel
theorem dX1_drawnCrate_97 : decode cX1_drawnCrate 97 = .ok (.iload 5, 2) := by decide +kernel
theorem dX1_drawnCrate_99 : decode cX1_drawnCrate 99 = .ok (.goto 4, 3) := by decide +kernel
theorem dX1_drawnCrate_102 : decode cX1_drawnCrate 102 = .ok (.iload_n 2, 1) := by decide +kernel
theorem dX1_drawnCrate_103 : decode cX1_drawnCrate 103 = .ok (.ireturn, 1) := by decide +kernel
theorem dX1_drawnCrate_104 : decode cX1_drawnCrate 104 = .ok (.iload 4, 2) := by decide +kernel
theorem dX1_drawnCrate_106 : decode cX1_drawnCrate 106 = .ok (.aload_n 0, 1) := by decide +kernel
theorem dX1_drawnCrate_107 : decode cX1_drawnCrate 107 = .ok (.getfield 65, 3) := by decide +kernel
theorem dX1_drawnCrate_110 : decode cX1_drawnCrate 110 = .ok (.getfield 185, 3) := by decide +kernel
theorem dX1_drawnCrate_113 : decode cX1_drawnCrate 113 = .ok (.iconst 2, 1) := by decide +kernel
theorem dX1_drawnCrate_114 : decode cX1_drawnCrate 114 = .ok (.invokevirtual 97, 3) := by decide +kernel
theorem dX1_drawnCrate_117 : decode cX1_drawnCrate 117 = .ok (.iadd, 1) := by decide +kernel
theorem dX1_drawnCrate_118 : decode cX1_drawnCrate 118 = .ok (.istore 4, 2) := by decide +kernel
theorem dX1_drawnCrate_120 : decode cX1_drawnCrate 120 = .ok (.iload_n 3, 1) := by decide +kernel
theorem dX1_drawnCrate_121 : decode cX1_drawnCrate 121 = .ok (.iload 4, 2) := by decide +kernel
theorem dX1_drawnCrate_123 : decode cX1_drawnCrate 123 = .ok (.if_icmp .ge 7, 3) := by decide +kernel
theorem dX1_drawnCrate_126 : decode cX1_drawnCrate 126 = .ok (.iload_n 2, 1) := by decide +kernel
theorem dX1_drawnCrate_127 : decode cX1_drawnCrate 127 = .ok (.goto 14, 3) := by decide +kernel
theorem dX1_drawnCrate_130 : decode cX1_drawnCrate 130 = .ok (.aload_n 0, 1) := by decide +kernel
theorem dX1_drawnCrate_131 : decode cX1_drawnCrate 131 = .ok (.aload_n 0, 1) := by decide +kernel
theorem dX1_drawnCrate_132 : decode cX1_drawnCrate 132 = .ok (.getfield 65, 3) := by decide +kernel
theorem dX1_drawnCrate_135 : decode cX1_drawnCrate 135 = .ok (.getfield 140, 3) := by decide +kernel
theorem dX1_drawnCrate_138 : decode cX1_drawnCrate 138 = .ok (.invokevirtual 173, 3) := by decide +kernel
theorem dX1_drawnCrate_141 : decode cX1_drawnCrate 141 = .ok (.ireturn, 1) := by decide +kernel
theorem dX1_draw_0 : decode cX1_draw 0 = .ok (.aload_n 0, 1) := by decide +kernel
theorem dX1_draw_1 : decode cX1_draw 1 = .ok (.aload_n 0, 1) := by decide +kernel
theorem dX1_draw_2 : decode cX1_draw 2 = .ok (.getfield 55, 3) := by decide +kernel
theorem dX1_draw_5 : decode cX1_draw 5 = .ok (.ldc 192, 2) := by decide +kernel
theorem dX1_draw_7 : decode cX1_draw 7 = .ok (.imul, 1) := by decide +kernel
theorem dX1_draw_8 : decode cX1_draw 8 = .ok (.sipush 12345, 3) := by decide +kernel
theorem dX1_draw_11 : decode cX1_draw 11 = .ok (.iadd, 1) := by decide +kernel
theorem dX1_draw_12 : decode cX1_draw 12 = .ok (.putfield 55, 3) := by decide +kernel
theorem dX1_draw_15 : decode cX1_draw 15 = .ok (.aload_n 0, 1) := by decide +kernel
theorem dX1_draw_16 : decode cX1_draw 16 = .ok (.getfield 55, 3) := by decide +kernel
theorem dX1_draw_19 : decode cX1_draw 19 = .ok (.bipush 16, 2) := by decide +kernel
theorem dX1_draw_21 : decode cX1_draw 21 = .ok (.iushr, 1) := by decide +kernel
theorem dX1_draw_22 : decode cX1_draw 22 = .ok (.sipush 32767, 3) := by decide +kernel
theorem dX1_draw_25 : decode cX1_draw 25 = .ok (.iand, 1) := by decide +kernel
theorem dX1_draw_26 : decode cX1_draw 26 = .ok (.istore_n 2, 1) := by decide +kernel
theorem dX1_draw_27 : decode cX1_draw 27 = .ok (.iload_n 1, 1) := by decide +kernel
theorem dX1_draw_28 : decode cX1_draw 28 = .ok (.ifCond .le 9, 3) := by decide +kernel
theorem dX1_draw_31 : decode cX1_draw 31 = .ok (.iload_n 2, 1) := by decide +kernel
theorem dX1_draw_32 : decode cX1_draw 32 = .ok (.iload_n 1, 1) := by decide +kernel
theorem dX1_draw_33 : decode cX1_draw 33 = .ok (.irem, 1) := by decide +kernel
theorem dX1_draw_34 : decode cX1_draw 34 = .ok (.goto 4, 3) := by decide +kernel
theorem dX1_draw_37 : decode cX1_draw 37 = .ok (.iconst 0, 1) := by decide +kernel
theorem dX1_draw_38 : decode cX1_draw 38 = .ok (.ireturn, 1) := by decide +kernel
theorem dX2_init_0 : decode cX2_init 0 = .ok (.aload_n 0, 1) := by decide +kernel
theorem dX2_init_1 : decode cX2_init 1 = .ok (.invokespecial 3, 3) := by decide +kernel
theorem dX2_init_4 : decode cX2_init 4 = .ok (.aload_n 0, 1) := by decide +kernel
theorem dX2_init_5 : decode cX2_init 5 = .ok (.iload_n 1, 1) := by decide +kernel
theorem dX2_init_6 : decode cX2_init 6 = .ok (.ifCond .le 7, 3) := by decide +kernel
theorem dX2_init_9 : decode cX2_init 9 = .ok (.iload_n 1, 1) := by decide +kernel
theorem dX2_init_10 : decode cX2_init 10 = .ok (.goto 4, 3) := by decide +kernel
theorem dX2_init_13 : decode cX2_init 13 = .ok (.iconst 0, 1) := by decide +kernel
theorem dX2_init_14 : decode cX2_init 14 = .ok (.newarray .int, 2) := by decide +kernel
theorem dX2_init_16 : decode cX2_init 16 = .ok (.putfield 9, 3) := by decide +kernel
theorem dX2_init_19 : decode cX2_init 19 = .ok (.return_, 1) := by decide +kernel
theorem dX2_holds_0 : decode cX2_holds 0 = .ok (.iload_n 1, 1) := by decide +kernel
theorem dX2_holds_1 : decode cX2_holds 1 = .ok (.ifCond .lt 16, 3) := by decide +kernel
theorem dX2_holds_4 : decode cX2_holds 4 = .ok (.iload_n 1, 1) := by decide +kernel
theorem dX2_holds_5 : decode cX2_holds 5 = .ok (.aload_n 0, 1) := by decide +kernel
theorem dX2_holds_6 : decode cX2_holds 6 = .ok (.getfield 9, 3) := by decide +kernel
theorem dX2_holds_9 : decode cX2_holds 9 = .ok (.arraylength, 1) := by decide +kernel
theorem dX2_holds_10 : decode cX2_holds 10 = .ok (.if_icmp .ge 7, 3) := by decide +kernel
theorem dX2_holds_13 : decode cX2_holds 13 = .ok (.iconst 1, 1) := by decide +kernel
theorem dX2_holds_14 : decode cX2_holds 14 = .ok (.goto 4, 3) := by decide +kernel
theorem dX2_holds_17 : decode cX2_holds 17 = .ok (.iconst 0, 1) := by decide +kernel
theorem dX2_holds_18 : decode cX2_holds 18 = .ok (.ireturn, 1) := by decide +kernel
theorem dX2_at_0 : decode cX2_at 0 = .ok (.iload_n 1, 1) := by decide +kernel
theorem dX2_at_1 : decode cX2_at 1 = .ok (.ifCond .lt 21, 3) := by decide +kernel
theorem dX2_at_4 : decode cX2_at 4 = .ok (.iload_n 1, 1) := by decide +kernel
theorem dX2_at_5 : decode cX2_at 5 = .ok (.aload_n 0, 1) := by decide +kernel
theorem dX2_at_6 : decode cX2_at 6 = .ok (.getfield 9, 3) := by decide +kernel
theorem dX2_at_9 : decode cX2_at 9 = .ok (.arraylength, 1) := by decide +kernel
theorem dX2_at_10 : decode cX2_at 10 = .ok (.if_icmp .ge 12, 3) := by decide +kernel
theorem dX2_at_13 : decode cX2_at 13 = .ok (.aload_n 0, 1) := by decide +kernel
theorem dX2_at_14 : decode cX2_at 14 = .ok (.getfield 9, 3) := by decide +kernel
theorem dX2_at_17 : decode cX2_at 17 = .ok (.iload_n 1, 1) := by decide +kernel
theorem dX2_at_18 : decode cX2_at 18 = .ok (.iaload, 1) := by decide +kernel
theorem dX2_at_19 : decode cX2_at 19 = .ok (.goto 4, 3) := by decide +kernel
theorem dX2_at_22 : decode cX2_at 22 = .ok (.iconst 0, 1) := by decide +kernel
theorem dX2_at_23 : decode cX2_at 23 = .ok (.ireturn, 1) := by decide +kernel
theorem dX2_put_0 : decode cX2_put 0 = .ok (.iload_n 1, 1) := by decide +kernel
theorem dX2_put_1 : decode cX2_put 1 = .ok (.ifCond .lt 19, 3) := by decide +kernel
theorem dX2_put_4 : decode cX2_put 4 = .ok (.iload_n 1, 1) := by decide +kernel
theorem dX2_put_5 : decode cX2_put 5 = .ok (.aload_n 0, 1) := by decide +kernel
theorem dX2_put_6 : decode cX2_put 6 = .ok (.getfield 9, 3) := by decide +kernel
theorem dX2_put_9 : decode cX2_put 9 = .ok (.arraylength, 1) := by decide +kernel
theorem dX2_put_10 : decode cX2_put 10 = .ok (.if_icmp .ge 10, 3) := by decide +kernel
theorem dX2_put_13 : decode cX2_put 13 = .ok (.aload_n 0, 1) := by decide +kernel
theorem dX2_put_14 : decode cX2_put 14 = .ok (.getfield 9, 3) := by decide +kernel
theorem dX2_put_17 : decode cX2_put 17 = .ok (.iload_n 1, 1) := by decide +kernel
theorem dX2_put_18 : decode cX2_put 18 = .ok (.iload_n 2, 1) := by decide +kernel
theorem dX2_put_19 : decode cX2_put 19 = .ok (.iastore, 1) := by decide +kernel
theorem dX2_put_20 : decode cX2_put 20 = .ok (.return_, 1) := by decide +kernel
theorem dX2_add_0 : decode cX2_add 0 = .ok (.aload_n 0, 1) := by decide +kernel
theorem dX2_add_1 : decode cX2_add 1 = .ok (.iload_n 1, 1) := by decide +kernel
theorem dX2_add_2 : decode cX2_add 2 = .ok (.aload_n 0, 1) := by decide +kernel
theorem dX2_add_3 : decode cX2_add 3 = .ok (.iload_n 1, 1) := by decide +kernel
theorem dX2_add_4 : decode cX2_add 4 = .ok (.invokevirtual 15, 3) := by decide +kernel
theorem dX2_add_7 : decode cX2_add 7 = .ok (.iload_n 2, 1) := by decide +kernel
theorem dX2_add_8 : decode cX2_add 8 = .ok (.iadd, 1) := by decide +kernel
theorem dX2_add_9 : decode cX2_add 9 = .ok (.invokevirtual 19, 3) := by decide +kernel
theorem dX2_add_12 : decode cX2_add 12 = .ok (.return_, 1) := by decide +kernel
theorem dX2_swap_0 : decode cX2_swap 0 = .ok (.aload_n 0, 1) := by decide +kernel
theorem dX2_swap_1 : decode cX2_swap 1 = .ok (.iload_n 1, 1) := by decide +kernel
theorem dX2_swap_2 : decode cX2_swap 2 = .ok (.invokevirtual 15, 3) := by decide +kernel
theorem dX2_swap_5 : decode cX2_swap 5 = .ok (.istore_n 3, 1) := by decide +kernel
theorem dX2_swap_6 : decode cX2_swap 6 = .ok (.aload_n 0, 1) := by decide +kernel
theorem dX2_swap_7 : decode cX2_swap 7 = .ok (.iload_n 1, 1) := by decide +kernel
theorem dX2_swap_8 : decode cX2_swap 8 = .ok (.aload_n 0, 1) := by decide +kernel
theorem dX2_swap_9 : decode cX2_swap 9 = .ok (.iload_n 2, 1) := by decide +kernel
theorem dX2_swap_10 : decode cX2_swap 10 = .ok (.invokevirtual 15, 3) := by decide +kernel
theorem dX2_swap_13 : decode cX2_swap 13 = .ok (.invokevirtual 19, 3) := by decide +kernel
theorem dX2_swap_16 : decode cX2_swap 16 = .ok (.aload_n 0, 1) := by decide +kernel
theorem dX2_swap_17 : decode cX2_swap 17 = .ok (.iload_n 2, 1) := by decide +kernel
theorem dX2_swap_18 : decode cX2_swap 18 = .ok (.iload_n 3, 1) := by decide +kernel
theorem dX2_swap_19 : decode cX2_swap 19 = .ok (.invokevirtual 19, 3) := by decide +kernel
theorem dX2_swap_22 : decode cX2_swap 22 = .ok (.return_, 1) := by decide +kernel
theorem dX2_fill_0 : decode cX2_fill 0 = .ok (.iconst 0, 1) := by decide +kernel
theorem dX2_fill_1 : decode cX2_fill 1 = .ok (.istore_n 2, 1) := by decide +kernel
theorem dX2_fill_2 : decode cX2_fill 2 = .ok (.iload_n 2, 1) := by decide +kernel
theorem dX2_fill_3 : decode cX2_fill 3 = .ok (.aload_n 0, 1) := by decide +kernel
theorem dX2_fill_4 : decode cX2_fill 4 = .ok (.getfield 9, 3) := by decide +kernel
theorem dX2_fill_7 : decode cX2_fill 7 = .ok (.arraylength, 1) := by decide +kernel
theorem dX2_fill_8 : decode cX2_fill 8 = .ok (.if_icmp .ge 16, 3) := by decide +kernel
theorem dX2_fill_11 : decode cX2_fill 11 = .ok (.aload_n 0, 1) := by decide +kernel
theorem dX2_fill_12 : decode cX2_fill 12 = .ok (.getfield 9, 3) := by decide +kernel
theorem dX2_fill_15 : decode cX2_fill 15 = .ok (.iload_n 2, 1) := by decide +kernel
theorem dX2_fill_16 : decode cX2_fill 16 = .ok (.iload_n 1, 1) := by decide +kernel
theorem dX2_fill_17 : decode cX2_fill 17 = .ok (.iastore, 1) := by decide +kernel
theorem dX2_fill_18 : decode cX2_fill 18 = .ok (.iinc 2 1, 3) := by decide +kernel
theorem dX2_fill_21 : decode cX2_fill 21 = .ok (.goto (-19), 3) := by decide +kernel
theorem dX2_fill_24 : decode cX2_fill 24 = .ok (.return_, 1) := by decide +kernel
theorem dX2_fillByNumber_0 : decode cX2_fillByNumber 0 = .ok (.iconst 0, 1) := by decide +kernel
theorem dX2_fillByNumber_1 : decode cX2_fillByNumber 1 = .ok (.istore_n 1, 1) := by decide +kernel
theorem dX2_fillByNumber_2 : decode cX2_fillByNumber 2 = .ok (.iload_n 1, 1) := by decide +kernel
theorem dX2_fillByNumber_3 : decode cX2_fillByNumber 3 = .ok (.aload_n 0, 1) := by decide +kernel
theorem dX2_fillByNumber_4 : decode cX2_fillByNumber 4 = .ok (.getfield 9, 3) := by decide +kernel
theorem dX2_fillByNumber_7 : decode cX2_fillByNumber 7 = .ok (.arraylength, 1) := by decide +kernel
theorem dX2_fillByNumber_8 : decode cX2_fillByNumber 8 = .ok (.if_icmp .ge 16, 3) := by decide +kernel
theorem dX2_fillByNumber_11 : decode cX2_fillByNumber 11 = .ok (.aload_n 0, 1) := by decide +kernel
theorem dX2_fillByNumber_12 : decode cX2_fillByNumber 12 = .ok (.getfield 9, 3) := by decide +kernel
theorem dX2_fillByNumber_15 : decode cX2_fillByNumber 15 = .ok (.iload_n 1, 1) := by decide +kernel
theorem dX2_fillByNumber_16 : decode cX2_fillByNumber 16 = .ok (.iload_n 1, 1) := by decide +kernel
theorem dX2_fillByNumber_17 : decode cX2_fillByNumber 17 = .ok (.iastore, 1) := by decide +kernel
theorem dX2_fillByNumber_18 : decode cX2_fillByNumber 18 = .ok (.iinc 1 1, 3) := by decide +kernel
theorem dX2_fillByNumber_21 : decode cX2_fillByNumber 21 = .ok (.goto (-19), 3) := by decide +kernel
theorem dX2_fillByNumber_24 : decode cX2_fillByNumber 24 = .ok (.return_, 1) := by decide +kernel
theorem dX2_copy_0 : decode cX2_copy 0 = .ok (.iconst 0, 1) := by decide +kernel
theorem dX2_copy_1 : decode cX2_copy 1 = .ok (.istore_n 2, 1) := by decide +kernel
theorem dX2_copy_2 : decode cX2_copy 2 = .ok (.iload_n 2, 1) := by decide +kernel
theorem dX2_copy_3 : decode cX2_copy 3 = .ok (.aload_n 0, 1) := by decide +kernel
theorem dX2_copy_4 : decode cX2_copy 4 = .ok (.getfield 9, 3) := by decide +kernel
theorem dX2_copy_7 : decode cX2_copy 7 = .ok (.arraylength, 1) := by decide +kernel
theorem dX2_copy_8 : decode cX2_copy 8 = .ok (.if_icmp .ge 20, 3) := by decide +kernel
theorem dX2_copy_11 : decode cX2_copy 11 = .ok (.aload_n 0, 1) := by decide +kernel
theorem dX2_copy_12 : decode cX2_copy 12 = .ok (.getfield 9, 3) := by decide +kernel
theorem dX2_copy_15 : decode cX2_copy 15 = .ok (.iload_n 2, 1) := by decide +kernel
theorem dX2_copy_16 : decode cX2_copy 16 = .ok (.aload_n 1, 1) := by decide +kernel
theorem dX2_copy_17 : decode cX2_copy 17 = .ok (.iload_n 2, 1) := by decide +kernel
theorem dX2_copy_18 : decode cX2_copy 18 = .ok (.invokevirtual 15, 3) := by decide +kernel
theorem dX2_copy_21 : decode cX2_copy 21 = .ok (.iastore, 1) := by decide +kernel
theorem dX2_copy_22 : decode cX2_copy 22 = .ok (.iinc 2 1, 3) := by decide +kernel
theorem dX2_copy_25 : decode cX2_copy 25 = .ok (.goto (-23), 3) := by decide +kernel
theorem dX2_copy_28 : decode cX2_copy 28 = .ok (.return_, 1) := by decide +kernel
theorem dX2_sum_0 : decode cX2_sum 0 = .ok (.iconst 0, 1) := by decide +kernel
theorem dX2_sum_1 : decode cX2_sum 1 = .ok (.istore_n 1, 1) := by decide +kernel
theorem dX2_sum_2 : decode cX2_sum 2 = .ok (.iconst 0, 1) := by decide +kernel
theorem dX2_sum_3 : decode cX2_sum 3 = .ok (.istore_n 2, 1) := by decide +kernel
theorem dX2_sum_4 : decode cX2_sum 4 = .ok (.iload_n 2, 1) := by decide +kernel
theorem dX2_sum_5 : decode cX2_sum 5 = .ok (.aload_n 0, 1) := by decide +kernel
theorem dX2_sum_6 : decode cX2_sum 6 = .ok (.getfield 9, 3) := by decide +kernel
theorem dX2_sum_9 : decode cX2_sum 9 = .ok (.arraylength, 1) := by decide +kernel
theorem dX2_sum_10 : decode cX2_sum 10 = .ok (.if_icmp .ge 18, 3) := by decide +kernel
theorem dX2_sum_13 : decode cX2_sum 13 = .ok (.iload_n 1, 1) := by decide +kernel
theorem dX2_sum_14 : decode cX2_sum 14 = .ok (.aload_n 0, 1) := by decide +kernel
theorem dX2_sum_15 : decode cX2_sum 15 = .ok (.getfield 9, 3) := by decide +kernel
theorem dX2_sum_18 : decode cX2_sum 18 = .ok (.iload_n 2, 1) := by decide +kernel
theorem dX2_sum_19 : decode cX2_sum 19 = .ok (.iaload, 1) := by decide +kernel
theorem dX2_sum_20 : decode cX2_sum 20 = .ok (.iadd, 1) := by decide +kernel
theorem dX2_sum_21 : decode cX2_sum 21 = .ok (.istore_n 1, 1) := by decide +kernel
theorem dX2_sum_22 : decode cX2_sum 22 = .ok (.iinc 2 1, 3) := by decide +kernel
theorem dX2_sum_25 : decode cX2_sum 25 = .ok (.goto (-21), 3) := by decide +kernel
theorem dX2_sum_28 : decode cX2_sum 28 = .ok (.iload_n 1, 1) := by decide +kernel
theorem dX2_sum_29 : decode cX2_sum 29 = .ok (.ireturn, 1) := by decide +kernel
theorem dX2_placeOf_0 : decode cX2_placeOf 0 = .ok (.iconst 0, 1) := by decide +kernel
theorem dX2_placeOf_1 : decode cX2_placeOf 1 = .ok (.istore_n 2, 1) := by decide +kernel
theorem dX2_placeOf_2 : decode cX2_placeOf 2 = .ok (.iload_n 2, 1) := by decide +kernel
theorem dX2_placeOf_3 : decode cX2_placeOf 3 = .ok (.aload_n 0, 1) := by decide +kernel
theorem dX2_placeOf_4 : decode cX2_placeOf 4 = .ok (.getfield 9, 3) := by decide +kernel
theorem dX2_placeOf_7 : decode cX2_placeOf 7 = .ok (.arraylength, 1) := by decide +kernel
theorem dX2_placeOf_8 : decode cX2_placeOf 8 = .ok (.if_icmp .ge 21, 3) := by decide +kernel
theorem dX2_placeOf_11 : decode cX2_placeOf 11 = .ok (.aload_n 0, 1) := by decide +kernel
theorem dX2_placeOf_12 : decode cX2_placeOf 12 = .ok (.getfield 9, 3) := by decide +kernel
theorem dX2_placeOf_15 : decode cX2_placeOf 15 = .ok (.iload_n 2, 1) := by decide +kernel
theorem dX2_placeOf_16 : decode cX2_placeOf 16 = .ok (.iaload, 1) := by decide +kernel
theorem dX2_placeOf_17 : decode cX2_placeOf 17 = .ok (.iload_n 1, 1) := by decide +kernel
theorem dX2_placeOf_18 : decode cX2_placeOf 18 = .ok (.if_icmp .ne 5, 3) := by decide +kernel
theorem dX2_placeOf_21 : decode cX2_placeOf 21 = .ok (.iload_n 2, 1) := by decide +kernel
theorem dX2_placeOf_22 : decode cX2_placeOf 22 = .ok (.ireturn, 1) := by decide +kernel
theorem dX2_placeOf_23 : decode cX2_placeOf 23 = .ok (.iinc 2 1, 3) := by decide +kernel
theorem dX2_placeOf_26 : decode cX2_placeOf 26 = .ok (.goto (-24), 3) := by decide +kernel
theorem dX2_placeOf_29 : decode cX2_placeOf 29 = .ok (.iconst (-1), 1) := by decide +kernel
theorem dX2_placeOf_30 : decode cX2_placeOf 30 = .ok (.ireturn, 1) := by decide +kernel
theorem dX2_shift_0 : decode cX2_shift 0 = .ok (.aload_n 0, 1) := by decide +kernel
theorem dX2_shift_1 : decode cX2_shift 1 = .ok (.iload_n 1, 1) := by decide +kernel
theorem dX2_shift_2 : decode cX2_shift 2 = .ok (.invokevirtual 23, 3) := by decide +kernel
theorem dX2_shift_5 : decode cX2_shift 5 = .ok (.ifCond .eq 11, 3) := by decide +kernel
theorem dX2_shift_8 : decode cX2_shift 8 = .ok (.aload_n 0, 1) := by decide +kernel
theorem dX2_shift_9 : decode cX2_shift 9 = .ok (.iload_n 2, 1) := by decide +kernel
theorem dX2_shift_10 : decode cX2_shift 10 = .ok (.invokevirtual 23, 3) := by decide +kernel
theorem dX2_shift_13 : decode cX2_shift 13 = .ok (.ifCond .ne 4, 3) := by decide +kernel
theorem dX2_shift_16 : decode cX2_shift 16 = .ok (.return_, 1) := by decide +kernel
theorem dX2_shift_17 : decode cX2_shift 17 = .ok (.aload_n 0, 1) := by decide +kernel
theorem dX2_shift_18 : decode cX2_shift 18 = .ok (.iload_n 1, 1) := by decide +kernel
theorem dX2_shift_19 : decode cX2_shift 19 = .ok (.invokevirtual 15, 3) := by decide +kernel
theorem dX2_shift_22 : decode cX2_shift 22 = .ok (.istore_n 3, 1) := by decide +kernel
theorem dX2_shift_23 : decode cX2_shift 23 = .ok (.iload_n 1, 1) := by decide +kernel
theorem dX2_shift_24 : decode cX2_shift 24 = .ok (.istore 4, 2) := by decide +kernel
theorem dX2_shift_26 : decode cX2_shift 26 = .ok (.iload 4, 2) := by decide +kernel
theorem dX2_shift_28 : decode cX2_shift 28 = .ok (.iload_n 2, 1) := by decide +kernel
theorem dX2_shift_29 : decode cX2_shift 29 = .ok (.if_icmp .ge 23, 3) := by decide +kernel
theorem dX2_shift_32 : decode cX2_shift 32 = .ok (.aload_n 0, 1) := by decide +kernel
theorem dX2_shift_33 : decode cX2_shift 33 = .ok (.iload 4, 2) := by decide +kernel
theorem dX2_shift_35 : decode cX2_shift 35 = .ok (.aload_n 0, 1) := by decide +kernel
theorem dX2_shift_36 : decode cX2_shift 36 = .ok (.iload 4, 2) := by decide +kernel
theorem dX2_shift_38 : decode cX2_shift 38 = .ok (.iconst 1, 1) := by decide +kernel
theorem dX2_shift_39 : decode cX2_shift 39 = .ok (.iadd, 1) := by decide +kernel
theorem dX2_shift_40 : decode cX2_shift 40 = .ok (.invokevirtual 15, 3) := by decide +kernel
theorem dX2_shift_43 : decode cX2_shift 43 = .ok (.invokevirtual 19, 3) := by decide +kernel
theorem dX2_shift_46 : decode cX2_shift 46 = .ok (.iinc 4 1, 3) := by decide +kernel
theorem dX2_shift_49 : decode cX2_shift 49 = .ok (.goto (-23), 3) := by decide +kernel
theorem dX2_shift_52 : decode cX2_shift 52 = .ok (.iload_n 1, 1) := by decide +kernel
theorem dX2_shift_53 : decode cX2_shift 53 = .ok (.istore 4, 2) := by decide +kernel
theorem dX2_shift_55 : decode cX2_shift 55 = .ok (.iload 4, 2) := by decide +kernel
theorem dX2_shift_57 : decode cX2_shift 57 = .ok (.iload_n 2, 1) := by decide +kernel
theorem dX2_shift_58 : decode cX2_shift 58 = .ok (.if_icmp .le 23, 3) := by decide +kernel
theorem dX2_shift_61 : decode cX2_shift 61 = .ok (.aload_n 0, 1) := by decide +kernel
theorem dX2_shift_62 : decode cX2_shift 62 = .ok (.iload 4, 2) := by decide +kernel
theorem dX2_shift_64 : decode cX2_shift 64 = .ok (.aload_n 0, 1) := by decide +kernel
theorem dX2_shift_65 : decode cX2_shift 65 = .ok (.iload 4, 2) := by decide +kernel
theorem dX2_shift_67 : decode cX2_shift 67 = .ok (.iconst 1, 1) := by decide +kernel
theorem dX2_shift_68 : decode cX2_shift 68 = .ok (.isub, 1) := by decide +kernel
theorem dX2_shift_69 : decode cX2_shift 69 = .ok (.invokevirtual 15, 3) := by decide +kernel
theorem dX2_shift_72 : decode cX2_shift 72 = .ok (.invokevirtual 19, 3) := by decide +kernel
theorem dX2_shift_75 : decode cX2_shift 75 = .ok (.iinc 4 (-1), 3) := by decide +kernel
theorem dX2_shift_78 : decode cX2_shift 78 = .ok (.goto (-23), 3) := by decide +kernel
theorem dX2_shift_81 : decode cX2_shift 81 = .ok (.aload_n 0, 1) := by decide +kernel
theorem dX2_shift_82 : decode cX2_shift 82 = .ok (.iload_n 2, 1) := by decide +kernel
theorem dX2_shift_83 : decode cX2_shift 83 = .ok (.iload_n 3, 1) := by decide +kernel
theorem dX2_shift_84 : decode cX2_shift 84 = .ok (.invokevirtual 19, 3) := by decide +kernel
theorem dX2_shift_87 : decode cX2_shift 87 = .ok (.return_, 1) := by decide +kernel
theorem dX3_init_0 : decode cX3_init 0 = .ok (.aload_n 0, 1) := by decide +kernel
theorem dX3_init_1 : decode cX3_init 1 = .ok (.invokespecial 3, 3) := by decide +kernel
theorem dX3_init_4 : decode cX3_init 4 = .ok (.aload_n 0, 1) := by decide +kernel
theorem dX3_init_5 : decode cX3_init 5 = .ok (.new 9, 3) := by decide +kernel
theorem dX3_init_8 : decode cX3_init 8 = .ok (.dup, 1) := by decide +kernel
theorem dX3_init_9 : decode cX3_init 9 = .ok (.invokespecial 11, 3) := by decide +kernel
theorem dX3_init_12 : decode cX3_init 12 = .ok (.putfield 12, 3) := by decide +kernel
theorem dX3_init_15 : decode cX3_init 15 = .ok (.aload_n 0, 1) := by decide +kernel
theorem dX3_init_16 : decode cX3_init 16 = .ok (.iconst (-1), 1) := by decide +kernel
theorem dX3_init_17 : decode cX3_init 17 = .ok (.putfield 18, 3) := by decide +kernel
theorem dX3_init_20 : decode cX3_init 20 = .ok (.aload_n 0, 1) := by decide +kernel
theorem dX3_init_21 : decode cX3_init 21 = .ok (.iconst 0, 1) := by decide +kernel
theorem dX3_init_22 : decode cX3_init 22 = .ok (.putfield 22, 3) := by decide +kernel
theorem dX3_init_25 : decode cX3_init 25 = .ok (.aload_n 0, 1) := by decide +kernel
theorem dX3_init_26 : decode cX3_init 26 = .ok (.iconst 0, 1) := by decide +kernel
theorem dX3_init_27 : decode cX3_init 27 = .ok (.putfield 25, 3) := by decide +kernel
theorem dX3_init_30 : decode cX3_init 30 = .ok (.aload_n 0, 1) := by decide +kernel
theorem dX3_init_31 : decode cX3_init 31 = .ok (.iconst 0, 1) := by decide +kernel
theorem dX3_init_32 : decode cX3_init 32 = .ok (.putfield 28, 3) := by decide +kernel
theorem dX3_init_35 : decode cX3_init 35 = .ok (.aload_n 0, 1) := by decide +kernel
theorem dX3_init_36 : decode cX3_init 36 = .ok (.iconst 0, 1) := by decide +kernel
theorem dX3_init_37 : decode cX3_init 37 = .ok (.putfield 31, 3) := by decide +kernel
theorem dX3_init_40 : decode cX3_init 40 = .ok (.aload_n 0, 1) := by decide +kernel
theorem dX3_init_41 : decode cX3_init 41 = .ok (.iconst 0, 1) := by decide +kernel
theorem dX3_init_42 : decode cX3_init 42 = .ok (.putfield 34, 3) := by decide +kernel
theorem dX3_init_45 : decode cX3_init 45 = .ok (.aload_n 0, 1) := by decide +kernel
theorem dX3_init_46 : decode cX3_init 46 = .ok (.iconst 1, 1) := by decide +kernel
theorem dX3_init_47 : decode cX3_init 47 = .ok (.putfield 37, 3) := by decide +kernel
theorem dX3_init_50 : decode cX3_init 50 = .ok (.aload_n 0, 1) := by decide +kernel
theorem dX3_init_51 : decode cX3_init 51 = .ok (.aload_n 1, 1) := by decide +kernel
theorem dX3_init_52 : decode cX3_init 52 = .ok (.putfield 41, 3) := by decide +kernel
theorem dX3_init_55 : decode cX3_init 55 = .ok (.return_, 1) := by decide +kernel
theorem dX3_read_0 : decode cX3_read 0 = .ok (.aload_n 0, 1) := by decide +kernel
theorem dX3_read_1 : decode cX3_read 1 = .ok (.iload_n 1, 1) := by decide +kernel
theorem dX3_read_2 : decode cX3_read 2 = .ok (.putfield 22, 3) := by decide +kernel
theorem dX3_read_5 : decode cX3_read 5 = .ok (.aload_n 0, 1) := by decide +kernel
theorem dX3_read_6 : decode cX3_read 6 = .ok (.iconst 0, 1) := by decide +kernel
theorem dX3_read_7 : decode cX3_read 7 = .ok (.putfield 25, 3) := by decide +kernel
theorem dX3_read_10 : decode cX3_read 10 = .ok (.aload_n 0, 1) := by decide +kernel
theorem dX3_read_11 : decode cX3_read 11 = .ok (.iconst 0, 1) := by decide +kernel
theorem dX3_read_12 : decode cX3_read 12 = .ok (.putfield 31, 3) := by decide +kernel
theorem dX3_read_15 : decode cX3_read 15 = .ok (.aload_n 0, 1) := by decide +kernel
theorem dX3_read_16 : decode cX3_read 16 = .ok (.iconst (-1), 1) := by decide +kernel
theorem dX3_read_17 : decode cX3_read 17 = .ok (.putfield 18, 3) := by decide +kernel
theorem dX3_read_20 : decode cX3_read 20 = .ok (.aload_n 0, 1) := by decide +kernel
theorem dX3_read_21 : decode cX3_read 21 = .ok (.iconst 0, 1) := by decide +kernel
theorem dX3_read_22 : decode cX3_read 22 = .ok (.putfield 34, 3) := by decide +kernel
theorem dX3_read_25 : decode cX3_read 25 = .ok (.aload_n 0, 1) := by decide +kernel
theorem dX3_read_26 : decode cX3_read 26 = .ok (.iconst 1, 1) := by decide +kernel
theorem dX3_read_27 : decode cX3_read 27 = .ok (.putfield 37, 3) := by decide +kernel
theorem dX3_read_30 : decode cX3_read 30 = .ok (.aload_n 0, 1) := by decide +kernel
theorem dX3_read_31 : decode cX3_read 31 = .ok (.getfield 12, 3) := by decide +kernel
theorem dX3_read_34 : decode cX3_read 34 = .ok (.invokevirtual 45, 3) := by decide +kernel
theorem dX3_read_37 : decode cX3_read 37 = .ok (.aload_n 0, 1) := by decide +kernel
theorem dX3_read_38 : decode cX3_read 38 = .ok (.invokevirtual 48, 3) := by decide +kernel
theorem dX3_read_41 : decode cX3_read 41 = .ok (.iconst 0, 1) := by decide +kernel
theorem dX3_read_42 : decode cX3_read 42 = .ok (.istore_n 2, 1) := by decide +kernel
theorem dX3_read_43 : decode cX3_read 43 = .ok (.iload_n 2, 1) := by decide +kernel
theorem dX3_read_44 : decode cX3_read 44 = .ok (.bipush 60, 2) := by decide +kernel
theorem dX3_read_46 : decode cX3_read 46 = .ok (.if_icmp .gt 35, 3) := by decide +kernel
theorem dX3_read_49 : decode cX3_read 49 = .ok (.aload_n 0, 1) := by decide +kernel
theorem dX3_read_50 : decode cX3_read 50 = .ok (.getfield 31, 3) := by decide +kernel
theorem dX3_read_53 : decode cX3_read 53 = .ok (.ifCond .ne 28, 3) := by decide +kernel
theorem dX3_read_56 : decode cX3_read 56 = .ok (.aload_n 0, 1) := by decide +kernel
theorem dX3_read_57 : decode cX3_read 57 = .ok (.getfield 25, 3) := by decide +kernel
theorem dX3_read_60 : decode cX3_read 60 = .ok (.aload_n 0, 1) := by decide +kernel
theorem dX3_read_61 : decode cX3_read 61 = .ok (.getfield 22, 3) := by decide +kernel
theorem dX3_read_64 : decode cX3_read 64 = .ok (.if_icmp .ge 17, 3) := by decide +kernel
theorem dX3_read_67 : decode cX3_read 67 = .ok (.aload_n 0, 1) := by decide +kernel
theorem dX3_read_68 : decode cX3_read 68 = .ok (.invokevirtual 51, 3) := by decide +kernel
theorem dX3_read_71 : decode cX3_read 71 = .ok (.aload_n 0, 1) := by decide +kernel
theorem dX3_read_72 : decode cX3_read 72 = .ok (.invokevirtual 48, 3) := by decide +kernel
theorem dX3_read_75 : decode cX3_read 75 = .ok (.iinc 2 1, 3) := by decide +kernel
theorem dX3_read_78 : decode cX3_read 78 = .ok (.goto (-35), 3) := by decide +kernel
theorem dX3_read_81 : decode cX3_read 81 = .ok (.aload_n 0, 1) := by decide +kernel
theorem dX3_read_82 : decode cX3_read 82 = .ok (.getfield 31, 3) := by decide +kernel
theorem dX3_read_85 : decode cX3_read 85 = .ok (.ireturn, 1) := by decide +kernel
theorem dX3_readClause_0 : decode cX3_readClause 0 = .ok (.aload_n 0, 1) := by decide +kernel
theorem dX3_readClause_1 : decode cX3_readClause 1 = .ok (.getfield 25, 3) := by decide +kernel
theorem dX3_readClause_4 : decode cX3_readClause 4 = .ok (.istore_n 1, 1) := by decide +kernel
theorem dX3_readClause_5 : decode cX3_readClause 5 = .ok (.aload_n 0, 1) := by decide +kernel
theorem dX3_readClause_6 : decode cX3_readClause 6 = .ok (.invokevirtual 54, 3) := by decide +kernel
theorem dX3_readClause_9 : decode cX3_readClause 9 = .ok (.istore_n 2, 1) := by decide +kernel
theorem dX3_readClause_10 : decode cX3_readClause 10 = .ok (.aload_n 0, 1) := by decide +kernel
theorem dX3_readClause_11 : decode cX3_readClause 11 = .ok (.iload_n 2, 1) := by decide +kernel
theorem dX3_readClause_12 : decode cX3_readClause 12 = .ok (.invokevirtual 58, 3) := by decide +kernel
theorem dX3_readClause_15 : decode cX3_readClause 15 = .ok (.istore_n 3, 1) := by decide +kernel
theorem dX3_readClause_16 : decode cX3_readClause 16 = .ok (.iload_n 3, 1) := by decide +kernel
theorem dX3_readClause_17 : decode cX3_readClause 17 = .ok (.ifCond .eq 10, 3) := by decide +kernel
theorem dX3_readClause_20 : decode cX3_readClause 20 = .ok (.aload_n 0, 1) := by decide +kernel
theorem dX3_readClause_21 : decode cX3_readClause 21 = .ok (.iload_n 3, 1) := by decide +kernel
theorem dX3_readClause_22 : decode cX3_readClause 22 = .ok (.iload_n 1, 1) := by decide +kernel
theorem dX3_readClause_23 : decode cX3_readClause 23 = .ok (.invokevirtual 62, 3) := by decide +kernel
theorem dX3_readClause_26 : decode cX3_readClause 26 = .ok (.return_, 1) := by decide +kernel
theorem dX3_readClause_27 : decode cX3_readClause 27 = .ok (.aload_n 0, 1) := by decide +kernel
theorem dX3_readClause_28 : decode cX3_readClause 28 = .ok (.dup, 1) := by decide +kernel
theorem dX3_readClause_29 : decode cX3_readClause 29 = .ok (.getfield 34, 3) := by decide +kernel
theorem dX3_readClause_32 : decode cX3_readClause 32 = .ok (.iconst 1, 1) := by decide +kernel
theorem dX3_readClause_33 : decode cX3_readClause 33 = .ok (.iadd, 1) := by decide +kernel
theorem dX3_readClause_34 : decode cX3_readClause 34 = .ok (.putfield 34, 3) := by decide +kernel
theorem dX3_readClause_37 : decode cX3_readClause 37 = .ok (.iload_n 2, 1) := by decide +kernel
theorem dX3_readClause_38 : decode cX3_readClause 38 = .ok (.ifCond .eq 8, 3) := by decide +kernel
theorem dX3_readClause_41 : decode cX3_readClause 41 = .ok (.aload_n 0, 1) := by decide +kernel
theorem dX3_readClause_42 : decode cX3_readClause 42 = .ok (.iconst 0, 1) := by decide +kernel
theorem dX3_readClause_43 : decode cX3_readClause 43 = .ok (.putfield 37, 3) := by decide +kernel
theorem dX3_readClause_46 : decode cX3_readClause 46 = .ok (.aload_n 0, 1) := by decide +kernel
theorem dX3_readClause_47 : decode cX3_readClause 47 = .ok (.iload_n 2, 1) := by decide +kernel
theorem dX3_readClause_48 : decode cX3_readClause 48 = .ok (.invokevirtual 66, 3) := by decide +kernel
theorem dX3_readClause_51 : decode cX3_readClause 51 = .ok (.return_, 1) := by decide +kernel
theorem dX3_faultOfWord_0 : decode cX3_faultOfWord 0 = .ok (.iload_n 1, 1) := by decide +kernel
theorem dX3_faultOfWord_1 : decode cX3_faultOfWord 1 = .ok (.iconst (-1), 1) := by decide +kernel
theorem dX3_faultOfWord_2 : decode cX3_faultOfWord 2 = .ok (.if_icmp .eq 17, 3) := by decide +kernel
theorem dX3_faultOfWord_5 : decode cX3_faultOfWord 5 = .ok (.iload_n 1, 1) := by decide +kernel
theorem dX3_faultOfWord_6 : decode cX3_faultOfWord 6 = .ok (.ifCond .eq 15, 3) := by decide +kernel
theorem dX3_faultOfWord_9 : decode cX3_faultOfWord 9 = .ok (.aload_n 0, 1) := by decide +kernel
theorem dX3_faultOfWord_10 : decode cX3_faultOfWord 10 = .ok (.getfield 12, 3) := by decide +kernel
theorem dX3_faultOfWord_13 : decode cX3_faultOfWord 13 = .ok (.getfield 70, 3) := by decide +kernel
theorem dX3_faultOfWord_16 : decode cX3_faultOfWord 16 = .ok (.ifCond .ne 5, 3) := by decide +kernel
theorem dX3_faultOfWord_19 : decode cX3_faultOfWord 19 = .ok (.iconst 1, 1) := by decide +kernel
theorem dX3_faultOfWord_20 : decode cX3_faultOfWord 20 = .ok (.ireturn, 1) := by decide +kernel
theorem dX3_faultOfWord_21 : decode cX3_faultOfWord 21 = .ok (.aload_n 0, 1) := by decide +kernel
theorem dX3_faultOfWord_22 : decode cX3_faultOfWord 22 = .ok (.getfield 34, 3) := by decide +kernel
theorem dX3_faultOfWord_25 : decode cX3_faultOfWord 25 = .ok (.bipush 60, 2) := by decide +kernel
theorem dX3_faultOfWord_27 : decode cX3_faultOfWord 27 = .ok (.if_icmp .ge 53, 3) := by decide +kernel
theorem dX3_faultOfWord_30 : decode cX3_faultOfWord 30 = .ok (.iload_n 1, 1) := by decide +kernel
theorem dX3_faultOfWord_31 : decode cX3_faultOfWord 31 = .ok (.ifCond .ne 15, 3) := by decide +kernel
theorem dX3_faultOfWord_34 : decode cX3_faultOfWord 34 = .ok (.aload_n 0, 1) := by decide +kernel
theorem dX3_faultOfWord_35 : decode cX3_faultOfWord 35 = .ok (.getfield 12, 3) := by decide +kernel
theorem dX3_faultOfWord_38 : decode cX3_faultOfWord 38 = .ok (.getfield 70, 3) := by decide +kernel
theorem dX3_faultOfWord_41 : decode cX3_faultOfWord 41 = .ok (.bipush 8, 2) := by decide +kernel
theorem dX3_faultOfWord_43 : decode cX3_faultOfWord 43 = .ok (.if_icmp .ge 37, 3) := by decide +kernel
theorem dX3_faultOfWord_46 : decode cX3_faultOfWord 46 = .ok (.iload_n 1, 1) := by decide +kernel
theorem dX3_faultOfWord_47 : decode cX3_faultOfWord 47 = .ok (.iconst 1, 1) := by decide +kernel
theorem dX3_faultOfWord_48 : decode cX3_faultOfWord 48 = .ok (.if_icmp .ne 15, 3) := by decide +kernel
theorem dX3_faultOfWord_51 : decode cX3_faultOfWord 51 = .ok (.aload_n 0, 1) := by decide +kernel
theorem dX3_faultOfWord_52 : decode cX3_faultOfWord 52 = .ok (.getfield 12, 3) := by decide +kernel
theorem dX3_faultOfWord_55 : decode cX3_faultOfWord 55 = .ok (.getfield 73, 3) := by decide +kernel
theorem dX3_faultOfWord_58 : decode cX3_faultOfWord 58 = .ok (.bipush 24, 2) := by decide +kernel
theorem dX3_faultOfWord_60 : decode cX3_faultOfWord 60 = .ok (.if_icmp .ge 20, 3) := by decide +kernel
theorem dX3_faultOfWord_63 : decode cX3_faultOfWord 63 = .ok (.iload_n 1, 1) := by decide +kernel
theorem dX3_faultOfWord_64 : decode cX3_faultOfWord 64 = .ok (.iconst 4, 1) := by decide +kernel
theorem dX3_faultOfWord_65 : decode cX3_faultOfWord 65 = .ok (.if_icmp .ne 17, 3) := by decide +kernel
theorem dX3_faultOfWord_68 : decode cX3_faultOfWord 68 = .ok (.aload_n 0, 1) := by decide +kernel
theorem dX3_faultOfWord_69 : decode cX3_faultOfWord 69 = .ok (.getfield 12, 3) := by decide +kernel
theorem dX3_faultOfWord_72 : decode cX3_faultOfWord 72 = .ok (.getfield 76, 3) := by decide +kernel
theorem dX3_faultOfWord_75 : decode cX3_faultOfWord 75 = .ok (.bipush 6, 2) := by decide +kernel
theorem dX3_faultOfWord_77 : decode cX3_faultOfWord 77 = .ok (.if_icmp .lt 5, 3) := by decide +kernel
theorem dX3_faultOfWord_80 : decode cX3_faultOfWord 80 = .ok (.iconst 3, 1) := by decide +kernel
theorem dX3_faultOfWord_81 : decode cX3_faultOfWord 81 = .ok (.ireturn, 1) := by decide +kernel
theorem dX3_faultOfWord_82 : decode cX3_faultOfWord 82 = .ok (.iload_n 1, 1) := by decide +kernel
theorem dX3_faultOfWord_83 : decode cX3_faultOfWord 83 = .ok (.ifCond .ne 14, 3) := by decide +kernel
theorem dX3_faultOfWord_86 : decode cX3_faultOfWord 86 = .ok (.aload_n 0, 1) := by decide +kernel
theorem dX3_faultOfWord_87 : decode cX3_faultOfWord 87 = .ok (.getfield 37, 3) := by decide +kernel
theorem dX3_faultOfWord_90 : decode cX3_faultOfWord 90 = .ok (.ifCond .ne 7, 3) := by decide +kernel
theorem dX3_faultOfWord_93 : decode cX3_faultOfWord 93 = .ok (.iconst 4, 1) := by decide +kernel
theorem dX3_faultOfWord_94 : decode cX3_faultOfWord 94 = .ok (.goto 4, 3) := by decide +kernel
theorem dX3_faultOfWord_97 : decode cX3_faultOfWord 97 = .ok (.iconst 0, 1) := by decide +kernel
theorem dX3_faultOfWord_98 : decode cX3_faultOfWord 98 = .ok (.ireturn, 1) := by decide +kernel
theorem dX3_readNumbers_0 : decode cX3_readNumbers 0 = .ok (.iload_n 1, 1) := by decide +kernel
theorem dX3_readNumbers_1 : decode cX3_readNumbers 1 = .ok (.tableswitch 103 0 7 #[47, 54, 61, 68, 75, 82, 89, 96], 47) := by decide +kernel
theorem dX3_readNumbers_48 : decode cX3_readNumbers 48 = .ok (.aload_n 0, 1) := by decide +kernel
theorem dX3_readNumbers_49 : decode cX3_readNumbers 49 = .ok (.invokevirtual 79, 3) := by decide +kernel
theorem dX3_readNumbers_52 : decode cX3_readNumbers 52 = .ok (.goto 56, 3) := by decide +kernel
theorem dX3_readNumbers_55 : decode cX3_readNumbers 55 = .ok (.aload_n 0, 1) := by decide +kernel
theorem dX3_readNumbers_56 : decode cX3_readNumbers 56 = .ok (.invokevirtual 82, 3) := by decide +kernel
theorem dX3_readNumbers_59 : decode cX3_readNumbers 59 = .ok (.goto 49, 3) := by decide +kernel
theorem dX3_readNumbers_62 : decode cX3_readNumbers 62 = .ok (.aload_n 0, 1) := by decide +kernel
theorem dX3_readNumbers_63 : decode cX3_readNumbers 63 = .ok (.invokevirtual 85, 3) := by decide +kernel
theorem dX3_readNumbers_66 : decode cX3_readNumbers 66 = .ok (.goto 42, 3) := by decide +kernel
theorem dX3_readNumbers_69 : decode cX3_readNumbers 69 = .ok (.aload_n 0, 1) := by decide +kernel
theorem dX3_readNumbers_70 : decode cX3_readNumbers 70 = .ok (.invokevirtual 88, 3) := by decide +kernel
theorem dX3_readNumbers_73 : decode cX3_readNumbers 73 = .ok (.goto 35, 3) := by decide +kernel
theorem dX3_readNumbers_76 : decode cX3_readNumbers 76 = .ok (.aload_n 0, 1) := by decide +kernel
theorem dX3_readNumbers_77 : decode cX3_readNumbers 77 = .ok (.invokevirtual 91, 3) := by decide +kernel
theorem dX3_readNumbers_80 : decode cX3_readNumbers 80 = .ok (.goto 28, 3) := by decide +kernel
theorem dX3_readNumbers_83 : decode cX3_readNumbers 83 = .ok (.aload_n 0, 1) := by decide +kernel
theorem dX3_readNumbers_84 : decode cX3_readNumbers 84 = .ok (.invokevirtual 94, 3) := by decide +kernel
theorem dX3_readNumbers_87 : decode cX3_readNumbers 87 = .ok (.goto 21, 3) := by decide +kernel
theorem dX3_readNumbers_90 : decode cX3_readNumbers 90 = .ok (.aload_n 0, 1) := by decide +kernel
theorem dX3_readNumbers_91 : decode cX3_readNumbers 91 = .ok (.invokevirtual 97, 3) := by decide +kernel
theorem dX3_readNumbers_94 : decode cX3_readNumbers 94 = .ok (.goto 14, 3) := by decide +kernel
theorem dX3_readNumbers_97 : decode cX3_readNumbers 97 = .ok (.aload_n 0, 1) := by decide +kernel
theorem dX3_readNumbers_98 : decode cX3_readNumbers 98 = .ok (.invokevirtual 100, 3) := by decide +kernel
theorem dX3_readNumbers_101 : decode cX3_readNumbers 101 = .ok (.goto 7, 3) := by decide +kernel
theorem dX3_readNumbers_104 : decode cX3_readNumbers 104 = .ok (.aload_n 0, 1) := by decide +kernel
theorem dX3_readNumbers_105 : decode cX3_readNumbers 105 = .ok (.invokevirtual 103, 3) := by decide +kernel
theorem dX3_readNumbers_108 : decode cX3_readNumbers 108 = .ok (.return_, 1) := by decide +kernel
theorem dX3_readCrate_0 : decode cX3_readCrate 0 = .ok (.aload_n 0, 1) := by decide +kernel
theorem dX3_readCrate_1 : decode cX3_readCrate 1 = .ok (.getfield 12, 3) := by decide +kernel
theorem dX3_readCrate_4 : decode cX3_readCrate 4 = .ok (.getfield 70, 3) := by decide +kernel
theorem dX3_readCrate_7 : decode cX3_readCrate 7 = .ok (.ifCond .ne 7, 3) := by decide +kernel
theorem dX3_readCrate_10 : decode cX3_readCrate 10 = .ok (.iconst 1, 1) := by decide +kernel
theorem dX3_readCrate_11 : decode cX3_readCrate 11 = .ok (.goto 4, 3) := by decide +kernel
theorem dX3_readCrate_14 : decode cX3_readCrate 14 = .ok (.iconst 0, 1) := by decide +kernel
theorem dX3_readCrate_15 : decode cX3_readCrate 15 = .ok (.istore_n 1, 1) := by decide +kernel
theorem dX3_readCrate_16 : decode cX3_readCrate 16 = .ok (.iload_n 1, 1) := by decide +kernel
theorem dX3_readCrate_17 : decode cX3_readCrate 17 = .ok (.ifCond .eq 7, 3) := by decide +kernel
theorem dX3_readCrate_20 : decode cX3_readCrate 20 = .ok (.iconst 0, 1) := by decide +kernel
theorem dX3_readCrate_21 : decode cX3_readCrate 21 = .ok (.goto 24, 3) := by decide +kernel
theorem dX3_readCrate_24 : decode cX3_readCrate 24 = .ok (.aload_n 0, 1) := by decide +kernel
theorem dX3_readCrate_25 : decode cX3_readCrate 25 = .ok (.getfield 12, 3) := by decide +kernel
theorem dX3_readCrate_28 : decode cX3_readCrate 28 = .ok (.getfield 106, 3) := by decide +kernel
theorem dX3_readCrate_31 : decode cX3_readCrate 31 = .ok (.aload_n 0, 1) := by decide +kernel
theorem dX3_readCrate_32 : decode cX3_readCrate 32 = .ok (.getfield 12, 3) := by decide +kernel
theorem dX3_readCrate_35 : decode cX3_readCrate 35 = .ok (.getfield 70, 3) := by decide +kernel
theorem dX3_readCrate_38 : decode cX3_readCrate 38 = .ok (.iconst 1, 1) := by decide +kernel
theorem dX3_readCrate_39 : decode cX3_readCrate 39 = .ok (.isub, 1) := by decide +kernel
theorem dX3_readCrate_40 : decode cX3_readCrate 40 = .ok (.invokevirtual 109, 3) := by decide +kernel
theorem dX3_readCrate_43 : decode cX3_readCrate 43 = .ok (.iconst 1, 1) := by decide +kernel
theorem dX3_readCrate_44 : decode cX3_readCrate 44 = .ok (.iadd, 1) := by decide +kernel
theorem dX3_readCrate_45 : decode cX3_readCrate 45 = .ok (.istore_n 2, 1) := by decide +kernel
theorem dX3_readCrate_46 : decode cX3_readCrate 46 = .ok (.aload_n 0, 1) := by decide +kernel
theorem dX3_readCrate_47 : decode cX3_readCrate 47 = .ok (.iload_n 2, 1) := by decide +kernel
theorem dX3_readCrate_48 : decode cX3_readCrate 48 = .ok (.iload_n 1, 1) := by decide +kernel
theorem dX3_readCrate_49 : decode cX3_readCrate 49 = .ok (.ifCond .eq 7, 3) := by decide +kernel
theorem dX3_readCrate_52 : decode cX3_readCrate 52 = .ok (.iconst 0, 1) := by decide +kernel
theorem dX3_readCrate_53 : decode cX3_readCrate 53 = .ok (.goto 5, 3) := by decide +kernel
theorem dX3_readCrate_56 : decode cX3_readCrate 56 = .ok (.bipush 25, 2) := by decide +kernel
theorem dX3_readCrate_58 : decode cX3_readCrate 58 = .ok (.invokevirtual 113, 3) := by decide +kernel
theorem dX3_readCrate_61 : decode cX3_readCrate 61 = .ok (.istore_n 3, 1) := by decide +kernel
theorem dX3_readCrate_62 : decode cX3_readCrate 62 = .ok (.aload_n 0, 1) := by decide +kernel
theorem dX3_readCrate_63 : decode cX3_readCrate 63 = .ok (.invokevirtual 117, 3) := by decide +kernel
theorem dX3_readCrate_66 : decode cX3_readCrate 66 = .ok (.ifCond .eq 11, 3) := by decide +kernel
theorem dX3_readCrate_69 : decode cX3_readCrate 69 = .ok (.aload_n 0, 1) := by decide +kernel
theorem dX3_readCrate_70 : decode cX3_readCrate 70 = .ok (.getfield 12, 3) := by decide +kernel
theorem dX3_readCrate_73 : decode cX3_readCrate 73 = .ok (.iload_n 3, 1) := by decide +kernel
theorem dX3_readCrate_74 : decode cX3_readCrate 74 = .ok (.invokevirtual 121, 3) := by decide +kernel
theorem dX3_readCrate_77 : decode cX3_readCrate 77 = .ok (.return_, 1) := by decide +kernel
theorem dX3_readSleeve_0 : decode cX3_readSleeve 0 = .ok (.aload_n 0, 1) := by decide +kernel
theorem dX3_readSleeve_1 : decode cX3_readSleeve 1 = .ok (.iconst 0, 1) := by decide +kernel
theorem dX3_readSleeve_2 : decode cX3_readSleeve 2 = .ok (.bipush 25, 2) := by decide +kernel
theorem dX3_readSleeve_4 : decode cX3_readSleeve 4 = .ok (.invokevirtual 113, 3) := by decide +kernel
theorem dX3_readSleeve_7 : decode cX3_readSleeve 7 = .ok (.istore_n 1, 1) := by decide +kernel
theorem dX3_readSleeve_8 : decode cX3_readSleeve 8 = .ok (.aload_n 0, 1) := by decide +kernel
theorem dX3_readSleeve_9 : decode cX3_readSleeve 9 = .ok (.iconst 1, 1) := by decide +kernel
theorem dX3_readSleeve_10 : decode cX3_readSleeve 10 = .ok (.bipush 99, 2) := by decide +kernel
theorem dX3_readSleeve_12 : decode cX3_readSleeve 12 = .ok (.invokevirtual 113, 3) := by decide +kernel
theorem dX3_readSleeve_15 : decode cX3_readSleeve 15 = .ok (.istore_n 2, 1) := by decide +kernel
theorem dX3_readSleeve_16 : decode cX3_readSleeve 16 = .ok (.aload_n 0, 1) := by decide +kernel
theorem dX3_readSleeve_17 : decode cX3_readSleeve 17 = .ok (.iconst 0, 1) := by decide +kernel
theorem dX3_readSleeve_18 : decode cX3_readSleeve 18 = .ok (.bipush 9, 2) := by decide +kernel
theorem dX3_readSleeve_20 : decode cX3_readSleeve 20 = .ok (.invokevirtual 113, 3) := by decide +kernel
theorem dX3_readSleeve_23 : decode cX3_readSleeve 23 = .ok (.istore_n 3, 1) := by decide +kernel
theorem dX3_readSleeve_24 : decode cX3_readSleeve 24 = .ok (.aload_n 0, 1) := by decide +kernel
theorem dX3_readSleeve_25 : decode cX3_readSleeve 25 = .ok (.invokevirtual 117, 3) := by decide +kernel
theorem dX3_readSleeve_28 : decode cX3_readSleeve 28 = .ok (.ifCond .eq 13, 3) := by decide +kernel
theorem dX3_readSleeve_31 : decode cX3_readSleeve 31 = .ok (.aload_n 0, 1) := by decide +kernel
theorem dX3_readSleeve_32 : decode cX3_readSleeve 32 = .ok (.getfield 12, 3) := by decide +kernel
theorem dX3_readSleeve_35 : decode cX3_readSleeve 35 = .ok (.iload_n 1, 1) := by decide +kernel
theorem dX3_readSleeve_36 : decode cX3_readSleeve 36 = .ok (.iload_n 2, 1) := by decide +kernel
theorem dX3_readSleeve_37 : decode cX3_readSleeve 37 = .ok (.iload_n 3, 1) := by decide +kernel
theorem dX3_readSleeve_38 : decode cX3_readSleeve 38 = .ok (.invokevirtual 124, 3) := by decide +kernel
theorem dX3_readSleeve_41 : decode cX3_readSleeve 41 = .ok (.return_, 1) := by decide +kernel
theorem dX3_readLies_0 : decode cX3_readLies 0 = .ok (.aload_n 0, 1) := by decide +kernel
theorem dX3_readLies_1 : decode cX3_readLies 1 = .ok (.iconst 0, 1) := by decide +kernel
theorem dX3_readLies_2 : decode cX3_readLies 2 = .ok (.aload_n 0, 1) := by decide +kernel
theorem dX3_readLies_3 : decode cX3_readLies 3 = .ok (.getfield 12, 3) := by decide +kernel
theorem dX3_readLies_6 : decode cX3_readLies 6 = .ok (.getfield 73, 3) := by decide +kernel
theorem dX3_readLies_9 : decode cX3_readLies 9 = .ok (.iconst 1, 1) := by decide +kernel
theorem dX3_readLies_10 : decode cX3_readLies 10 = .ok (.isub, 1) := by decide +kernel
theorem dX3_readLies_11 : decode cX3_readLies 11 = .ok (.invokevirtual 113, 3) := by decide +kernel
theorem dX3_readLies_14 : decode cX3_readLies 14 = .ok (.istore_n 1, 1) := by decide +kernel
theorem dX3_readLies_15 : decode cX3_readLies 15 = .ok (.aload_n 0, 1) := by decide +kernel
theorem dX3_readLies_16 : decode cX3_readLies 16 = .ok (.iconst 0, 1) := by decide +kernel
theorem dX3_readLies_17 : decode cX3_readLies 17 = .ok (.aload_n 0, 1) := by decide +kernel
theorem dX3_readLies_18 : decode cX3_readLies 18 = .ok (.getfield 12, 3) := by decide +kernel
theorem dX3_readLies_21 : decode cX3_readLies 21 = .ok (.getfield 70, 3) := by decide +kernel
theorem dX3_readLies_24 : decode cX3_readLies 24 = .ok (.iconst 1, 1) := by decide +kernel
theorem dX3_readLies_25 : decode cX3_readLies 25 = .ok (.isub, 1) := by decide +kernel
theorem dX3_readLies_26 : decode cX3_readLies 26 = .ok (.invokevirtual 113, 3) := by decide +kernel
theorem dX3_readLies_29 : decode cX3_readLies 29 = .ok (.istore_n 2, 1) := by decide +kernel
theorem dX3_readLies_30 : decode cX3_readLies 30 = .ok (.aload_n 0, 1) := by decide +kernel
theorem dX3_readLies_31 : decode cX3_readLies 31 = .ok (.invokevirtual 117, 3) := by decide +kernel
theorem dX3_readLies_34 : decode cX3_readLies 34 = .ok (.ifCond .eq 15, 3) := by decide +kernel
theorem dX3_readLies_37 : decode cX3_readLies 37 = .ok (.aload_n 0, 1) := by decide +kernel
theorem dX3_readLies_38 : decode cX3_readLies 38 = .ok (.getfield 12, 3) := by decide +kernel
theorem dX3_readLies_41 : decode cX3_readLies 41 = .ok (.getfield 128, 3) := by decide +kernel
theorem dX3_readLies_44 : decode cX3_readLies 44 = .ok (.iload_n 1, 1) := by decide +kernel
theorem dX3_readLies_45 : decode cX3_readLies 45 = .ok (.iload_n 2, 1) := by decide +kernel
theorem dX3_readLies_46 : decode cX3_readLies 46 = .ok (.invokevirtual 131, 3) := by decide +kernel
theorem dX3_readLies_49 : decode cX3_readLies 49 = .ok (.return_, 1) := by decide +kernel
theorem dX3_readDisc_0 : decode cX3_readDisc 0 = .ok (.aload_n 0, 1) := by decide +kernel
theorem dX3_readDisc_1 : decode cX3_readDisc 1 = .ok (.iconst 0, 1) := by decide +kernel
theorem dX3_readDisc_2 : decode cX3_readDisc 2 = .ok (.aload_n 0, 1) := by decide +kernel
theorem dX3_readDisc_3 : decode cX3_readDisc 3 = .ok (.getfield 12, 3) := by decide +kernel
theorem dX3_readDisc_6 : decode cX3_readDisc 6 = .ok (.getfield 73, 3) := by decide +kernel
theorem dX3_readDisc_9 : decode cX3_readDisc 9 = .ok (.iconst 1, 1) := by decide +kernel
theorem dX3_readDisc_10 : decode cX3_readDisc 10 = .ok (.isub, 1) := by decide +kernel
theorem dX3_readDisc_11 : decode cX3_readDisc 11 = .ok (.invokevirtual 113, 3) := by decide +kernel
theorem dX3_readDisc_14 : decode cX3_readDisc 14 = .ok (.istore_n 1, 1) := by decide +kernel
theorem dX3_readDisc_15 : decode cX3_readDisc 15 = .ok (.aload_n 0, 1) := by decide +kernel
theorem dX3_readDisc_16 : decode cX3_readDisc 16 = .ok (.iconst 0, 1) := by decide +kernel
theorem dX3_readDisc_17 : decode cX3_readDisc 17 = .ok (.aload_n 0, 1) := by decide +kernel
theorem dX3_readDisc_18 : decode cX3_readDisc 18 = .ok (.getfield 12, 3) := by decide +kernel
theorem dX3_readDisc_21 : decode cX3_readDisc 21 = .ok (.getfield 73, 3) := by decide +kernel
theorem dX3_readDisc_24 : decode cX3_readDisc 24 = .ok (.iconst 1, 1) := by decide +kernel
theorem dX3_readDisc_25 : decode cX3_readDisc 25 = .ok (.isub, 1) := by decide +kernel
theorem dX3_readDisc_26 : decode cX3_readDisc 26 = .ok (.invokevirtual 113, 3) := by decide +kernel
theorem dX3_readDisc_29 : decode cX3_readDisc 29 = .ok (.istore_n 2, 1) := by decide +kernel
theorem dX3_readDisc_30 : decode cX3_readDisc 30 = .ok (.iload_n 2, 1) := by decide +kernel
theorem dX3_readDisc_31 : decode cX3_readDisc 31 = .ok (.iload_n 1, 1) := by decide +kernel
theorem dX3_readDisc_32 : decode cX3_readDisc 32 = .ok (.if_icmp .ne 12, 3) := by decide +kernel
theorem dX3_readDisc_35 : decode cX3_readDisc 35 = .ok (.aload_n 0, 1) := by decide +kernel
theorem dX3_readDisc_36 : decode cX3_readDisc 36 = .ok (.iconst 2, 1) := by decide +kernel
theorem dX3_readDisc_37 : decode cX3_readDisc 37 = .ok (.aload_n 0, 1) := by decide +kernel
theorem dX3_readDisc_38 : decode cX3_readDisc 38 = .ok (.getfield 28, 3) := by decide +kernel
theorem dX3_readDisc_41 : decode cX3_readDisc 41 = .ok (.invokevirtual 62, 3) := by decide +kernel
theorem dX3_readDisc_44 : decode cX3_readDisc 44 = .ok (.aload_n 0, 1) := by decide +kernel
theorem dX3_readDisc_45 : decode cX3_readDisc 45 = .ok (.invokevirtual 117, 3) := by decide +kernel
theorem dX3_readDisc_48 : decode cX3_readDisc 48 = .ok (.ifCond .eq 15, 3) := by decide +kernel
theorem dX3_readDisc_51 : decode cX3_readDisc 51 = .ok (.aload_n 0, 1) := by decide +kernel
theorem dX3_readDisc_52 : decode cX3_readDisc 52 = .ok (.getfield 12, 3) := by decide +kernel
theorem dX3_readDisc_55 : decode cX3_readDisc 55 = .ok (.getfield 134, 3) := by decide +kernel
theorem dX3_readDisc_58 : decode cX3_readDisc 58 = .ok (.iload_n 1, 1) := by decide +kernel
theorem dX3_readDisc_59 : decode cX3_readDisc 59 = .ok (.iload_n 2, 1) := by decide +kernel
theorem dX3_readDisc_60 : decode cX3_readDisc 60 = .ok (.invokevirtual 137, 3) := by decide +kernel
theorem dX3_readDisc_63 : decode cX3_readDisc 63 = .ok (.return_, 1) := by decide +kernel
theorem dX3_readLooker_0 : decode cX3_readLooker 0 = .ok (.aload_n 0, 1) := by decide +kernel
theorem dX3_readLooker_1 : decode cX3_readLooker 1 = .ok (.iconst 0, 1) := by decide +kernel
theorem dX3_readLooker_2 : decode cX3_readLooker 2 = .ok (.sipush 600, 3) := by decide +kernel
theorem dX3_readLooker_5 : decode cX3_readLooker 5 = .ok (.invokevirtual 113, 3) := by decide +kernel
theorem dX3_readLooker_8 : decode cX3_readLooker 8 = .ok (.istore_n 1, 1) := by decide +kernel
theorem dX3_readLooker_9 : decode cX3_readLooker 9 = .ok (.aload_n 0, 1) := by decide +kernel
theorem dX3_readLooker_10 : decode cX3_readLooker 10 = .ok (.iconst 1, 1) := by decide +kernel
theorem dX3_readLooker_11 : decode cX3_readLooker 11 = .ok (.bipush 8, 2) := by decide +kernel
theorem dX3_readLooker_13 : decode cX3_readLooker 13 = .ok (.invokevirtual 113, 3) := by decide +kernel
theorem dX3_readLooker_16 : decode cX3_readLooker 16 = .ok (.istore_n 2, 1) := by decide +kernel
theorem dX3_readLooker_17 : decode cX3_readLooker 17 = .ok (.aload_n 0, 1) := by decide +kernel
theorem dX3_readLooker_18 : decode cX3_readLooker 18 = .ok (.iconst 0, 1) := by decide +kernel
theorem dX3_readLooker_19 : decode cX3_readLooker 19 = .ok (.bipush 9, 2) := by decide +kernel
theorem dX3_readLooker_21 : decode cX3_readLooker 21 = .ok (.invokevirtual 113, 3) := by decide +kernel
theorem dX3_readLooker_24 : decode cX3_readLooker 24 = .ok (.istore_n 3, 1) := by decide +kernel
theorem dX3_readLooker_25 : decode cX3_readLooker 25 = .ok (.aload_n 0, 1) := by decide +kernel
theorem dX3_readLooker_26 : decode cX3_readLooker 26 = .ok (.iconst 0, 1) := by decide +kernel
theorem dX3_readLooker_27 : decode cX3_readLooker 27 = .ok (.bipush 99, 2) := by decide +kernel
theorem dX3_readLooker_29 : decode cX3_readLooker 29 = .ok (.invokevirtual 113, 3) := by decide +kernel
theorem dX3_readLooker_32 : decode cX3_readLooker 32 = .ok (.istore 4, 2) := by decide +kernel
theorem dX3_readLooker_34 : decode cX3_readLooker 34 = .ok (.aload_n 0, 1) := by decide +kernel
theorem dX3_readLooker_35 : decode cX3_readLooker 35 = .ok (.iconst 0, 1) := by decide +kernel
theorem dX3_readLooker_36 : decode cX3_readLooker 36 = .ok (.sipush 999, 3) := by decide +kernel
theorem dX3_readLooker_39 : decode cX3_readLooker 39 = .ok (.invokevirtual 113, 3) := by decide +kernel
theorem dX3_readLooker_42 : decode cX3_readLooker 42 = .ok (.istore 5, 2) := by decide +kernel
theorem dX3_readLooker_44 : decode cX3_readLooker 44 = .ok (.aload_n 0, 1) := by decide +kernel
theorem dX3_readLooker_45 : decode cX3_readLooker 45 = .ok (.invokevirtual 117, 3) := by decide +kernel
theorem dX3_readLooker_48 : decode cX3_readLooker 48 = .ok (.ifCond .eq 17, 3) := by decide +kernel
theorem dX3_readLooker_51 : decode cX3_readLooker 51 = .ok (.aload_n 0, 1) := by decide +kernel
theorem dX3_readLooker_52 : decode cX3_readLooker 52 = .ok (.getfield 12, 3) := by decide +kernel
theorem dX3_readLooker_55 : decode cX3_readLooker 55 = .ok (.iload_n 1, 1) := by decide +kernel
theorem dX3_readLooker_56 : decode cX3_readLooker 56 = .ok (.iload_n 2, 1) := by decide +kernel
theorem dX3_readLooker_57 : decode cX3_readLooker 57 = .ok (.iload_n 3, 1) := by decide +kernel
theorem dX3_readLooker_58 : decode cX3_readLooker 58 = .ok (.iload 4, 2) := by decide +kernel
theorem dX3_readLooker_60 : decode cX3_readLooker 60 = .ok (.iload 5, 2) := by decide +kernel
theorem dX3_readLooker_62 : decode cX3_readLooker 62 = .ok (.invokevirtual 140, 3) := by decide +kernel
theorem dX3_readLooker_65 : decode cX3_readLooker 65 = .ok (.return_, 1) := by decide +kernel
theorem dX3_readLeft_0 : decode cX3_readLeft 0 = .ok (.aload_n 0, 1) := by decide +kernel
theorem dX3_readLeft_1 : decode cX3_readLeft 1 = .ok (.iconst 0, 1) := by decide +kernel
theorem dX3_readLeft_2 : decode cX3_readLeft 2 = .ok (.aload_n 0, 1) := by decide +kernel
theorem dX3_readLeft_3 : decode cX3_readLeft 3 = .ok (.getfield 12, 3) := by decide +kernel
theorem dX3_readLeft_6 : decode cX3_readLeft 6 = .ok (.getfield 76, 3) := by decide +kernel
theorem dX3_readLeft_9 : decode cX3_readLeft 9 = .ok (.iconst 1, 1) := by decide +kernel
theorem dX3_readLeft_10 : decode cX3_readLeft 10 = .ok (.isub, 1) := by decide +kernel
theorem dX3_readLeft_11 : decode cX3_readLeft 11 = .ok (.invokevirtual 113, 3) := by decide +kernel
theorem dX3_readLeft_14 : decode cX3_readLeft 14 = .ok (.istore_n 1, 1) := by decide +kernel
theorem dX3_readLeft_15 : decode cX3_readLeft 15 = .ok (.aload_n 0, 1) := by decide +kernel
theorem dX3_readLeft_16 : decode cX3_readLeft 16 = .ok (.invokevirtual 117, 3) := by decide +kernel
theorem dX3_readLeft_19 : decode cX3_readLeft 19 = .ok (.ifCond .eq 11, 3) := by decide +kernel
theorem dX3_readLeft_22 : decode cX3_readLeft 22 = .ok (.aload_n 0, 1) := by decide +kernel
theorem dX3_readLeft_23 : decode cX3_readLeft 23 = .ok (.getfield 12, 3) := by decide +kernel
theorem dX3_readLeft_26 : decode cX3_readLeft 26 = .ok (.iload_n 1, 1) := by decide +kernel
theorem dX3_readLeft_27 : decode cX3_readLeft 27 = .ok (.invokevirtual 144, 3) := by decide +kernel
theorem dX3_readLeft_30 : decode cX3_readLeft 30 = .ok (.return_, 1) := by decide +kernel
theorem dX3_readMiss_0 : decode cX3_readMiss 0 = .ok (.aload_n 0, 1) := by decide +kernel
theorem dX3_readMiss_1 : decode cX3_readMiss 1 = .ok (.iconst 1, 1) := by decide +kernel
theorem dX3_readMiss_2 : decode cX3_readMiss 2 = .ok (.bipush 8, 2) := by decide +kernel
theorem dX3_readMiss_4 : decode cX3_readMiss 4 = .ok (.invokevirtual 113, 3) := by decide +kernel
theorem dX3_readMiss_7 : decode cX3_readMiss 7 = .ok (.istore_n 1, 1) := by decide +kernel
theorem dX3_readMiss_8 : decode cX3_readMiss 8 = .ok (.aload_n 0, 1) := by decide +kernel
theorem dX3_readMiss_9 : decode cX3_readMiss 9 = .ok (.iconst 0, 1) := by decide +kernel
theorem dX3_readMiss_10 : decode cX3_readMiss 10 = .ok (.bipush 8, 2) := by decide +kernel
theorem dX3_readMiss_12 : decode cX3_readMiss 12 = .ok (.invokevirtual 113, 3) := by decide +kernel
theorem dX3_readMiss_15 : decode cX3_readMiss 15 = .ok (.istore_n 2, 1) := by decide +kernel
theorem dX3_readMiss_16 : decode cX3_readMiss 16 = .ok (.aload_n 0, 1) := by decide +kernel
theorem dX3_readMiss_17 : decode cX3_readMiss 17 = .ok (.invokevirtual 117, 3) := by decide +kernel
theorem dX3_readMiss_20 : decode cX3_readMiss 20 = .ok (.ifCond .eq 15, 3) := by decide +kernel
theorem dX3_readMiss_23 : decode cX3_readMiss 23 = .ok (.aload_n 0, 1) := by decide +kernel
theorem dX3_readMiss_24 : decode cX3_readMiss 24 = .ok (.getfield 12, 3) := by decide +kernel
theorem dX3_readMiss_27 : decode cX3_readMiss 27 = .ok (.getfield 147, 3) := by decide +kernel
theorem dX3_readMiss_30 : decode cX3_readMiss 30 = .ok (.iload_n 1, 1) := by decide +kernel
theorem dX3_readMiss_31 : decode cX3_readMiss 31 = .ok (.iload_n 2, 1) := by decide +kernel
theorem dX3_readMiss_32 : decode cX3_readMiss 32 = .ok (.invokevirtual 131, 3) := by decide +kernel
theorem dX3_readMiss_35 : decode cX3_readMiss 35 = .ok (.return_, 1) := by decide +kernel
theorem dX3_readStop_0 : decode cX3_readStop 0 = .ok (.aload_n 0, 1) := by decide +kernel
theorem dX3_readStop_1 : decode cX3_readStop 1 = .ok (.iconst 0, 1) := by decide +kernel
theorem dX3_readStop_2 : decode cX3_readStop 2 = .ok (.bipush 30, 2) := by decide +kernel
theorem dX3_readStop_4 : decode cX3_readStop 4 = .ok (.invokevirtual 113, 3) := by decide +kernel
theorem dX3_readStop_7 : decode cX3_readStop 7 = .ok (.istore_n 1, 1) := by decide +kernel
theorem dX3_readStop_8 : decode cX3_readStop 8 = .ok (.aload_n 0, 1) := by decide +kernel
theorem dX3_readStop_9 : decode cX3_readStop 9 = .ok (.invokevirtual 117, 3) := by decide +kernel
theorem dX3_readStop_12 : decode cX3_readStop 12 = .ok (.ifCond .eq 11, 3) := by decide +kernel
theorem dX3_readStop_15 : decode cX3_readStop 15 = .ok (.aload_n 0, 1) := by decide +kernel
theorem dX3_readStop_16 : decode cX3_readStop 16 = .ok (.getfield 12, 3) := by decide +kernel
theorem dX3_readStop_19 : decode cX3_readStop 19 = .ok (.iload_n 1, 1) := by decide +kernel
theorem dX3_readStop_20 : decode cX3_readStop 20 = .ok (.putfield 150, 3) := by decide +kernel
theorem dX3_readStop_23 : decode cX3_readStop 23 = .ok (.return_, 1) := by decide +kernel
theorem dX3_readBack_0 : decode cX3_readBack 0 = .ok (.aload_n 0, 1) := by decide +kernel
theorem dX3_readBack_1 : decode cX3_readBack 1 = .ok (.iconst 0, 1) := by decide +kernel
theorem dX3_readBack_2 : decode cX3_readBack 2 = .ok (.bipush 9, 2) := by decide +kernel
theorem dX3_readBack_4 : decode cX3_readBack 4 = .ok (.invokevirtual 113, 3) := by decide +kernel
theorem dX3_readBack_7 : decode cX3_readBack 7 = .ok (.istore_n 1, 1) := by decide +kernel
theorem dX3_readBack_8 : decode cX3_readBack 8 = .ok (.aload_n 0, 1) := by decide +kernel
theorem dX3_readBack_9 : decode cX3_readBack 9 = .ok (.iconst 0, 1) := by decide +kernel
theorem dX3_readBack_10 : decode cX3_readBack 10 = .ok (.bipush 9, 2) := by decide +kernel
theorem dX3_readBack_12 : decode cX3_readBack 12 = .ok (.invokevirtual 113, 3) := by decide +kernel
theorem dX3_readBack_15 : decode cX3_readBack 15 = .ok (.istore_n 2, 1) := by decide +kernel
theorem dX3_readBack_16 : decode cX3_readBack 16 = .ok (.aload_n 0, 1) := by decide +kernel
theorem dX3_readBack_17 : decode cX3_readBack 17 = .ok (.iconst 0, 1) := by decide +kernel
theorem dX3_readBack_18 : decode cX3_readBack 18 = .ok (.bipush 9, 2) := by decide +kernel
theorem dX3_readBack_20 : decode cX3_readBack 20 = .ok (.invokevirtual 113, 3) := by decide +kernel
theorem dX3_readBack_23 : decode cX3_readBack 23 = .ok (.istore_n 3, 1) := by decide +kernel
theorem dX3_readBack_24 : decode cX3_readBack 24 = .ok (.aload_n 0, 1) := by decide +kernel
theorem dX3_readBack_25 : decode cX3_readBack 25 = .ok (.iconst 0, 1) := by decide +kernel
theorem dX3_readBack_26 : decode cX3_readBack 26 = .ok (.bipush 9, 2) := by decide +kernel
theorem dX3_readBack_28 : decode cX3_readBack 28 = .ok (.invokevirtual 113, 3) := by decide +kernel
theorem dX3_readBack_31 : decode cX3_readBack 31 = .ok (.istore 4, 2) := by decide +kernel
theorem dX3_readBack_33 : decode cX3_readBack 33 = .ok (.iload_n 1, 1) := by decide +kernel
theorem dX3_readBack_34 : decode cX3_readBack 34 = .ok (.iload_n 2, 1) := by decide +kernel
theorem dX3_readBack_35 : decode cX3_readBack 35 = .ok (.iadd, 1) := by decide +kernel
theorem dX3_readBack_36 : decode cX3_readBack 36 = .ok (.iload_n 3, 1) := by decide +kernel
theorem dX3_readBack_37 : decode cX3_readBack 37 = .ok (.iadd, 1) := by decide +kernel
theorem dX3_readBack_38 : decode cX3_readBack 38 = .ok (.iload 4, 2) := by decide +kernel
theorem dX3_readBack_40 : decode cX3_readBack 40 = .ok (.iadd, 1) := by decide +kernel
theorem dX3_readBack_41 : decode cX3_readBack 41 = .ok (.ifCond .ne 12, 3) := by decide +kernel
theorem dX3_readBack_44 : decode cX3_readBack 44 = .ok (.aload_n 0, 1) := by decide +kernel
theorem dX3_readBack_45 : decode cX3_readBack 45 = .ok (.iconst 2, 1) := by decide +kernel
theorem dX3_readBack_46 : decode cX3_readBack 46 = .ok (.aload_n 0, 1) := by decide +kernel
theorem dX3_readBack_47 : decode cX3_readBack 47 = .ok (.getfield 28, 3) := by decide +kernel
theorem dX3_readBack_50 : decode cX3_readBack 50 = .ok (.invokevirtual 62, 3) := by decide +kernel
theorem dX3_readBack_53 : decode cX3_readBack 53 = .ok (.aload_n 0, 1) := by decide +kernel
theorem dX3_readBack_54 : decode cX3_readBack 54 = .ok (.invokevirtual 117, 3) := by decide +kernel
theorem dX3_readBack_57 : decode cX3_readBack 57 = .ok (.ifCond .eq 52, 3) := by decide +kernel
theorem dX3_readBack_60 : decode cX3_readBack 60 = .ok (.aload_n 0, 1) := by decide +kernel
theorem dX3_readBack_61 : decode cX3_readBack 61 = .ok (.getfield 12, 3) := by decide +kernel
theorem dX3_readBack_64 : decode cX3_readBack 64 = .ok (.getfield 153, 3) := by decide +kernel
theorem dX3_readBack_67 : decode cX3_readBack 67 = .ok (.iconst 0, 1) := by decide +kernel
theorem dX3_readBack_68 : decode cX3_readBack 68 = .ok (.iload_n 1, 1) := by decide +kernel
theorem dX3_readBack_69 : decode cX3_readBack 69 = .ok (.invokevirtual 131, 3) := by decide +kernel
theorem dX3_readBack_72 : decode cX3_readBack 72 = .ok (.aload_n 0, 1) := by decide +kernel
theorem dX3_readBack_73 : decode cX3_readBack 73 = .ok (.getfield 12, 3) := by decide +kernel
theorem dX3_readBack_76 : decode cX3_readBack 76 = .ok (.getfield 153, 3) := by decide +kernel
theorem dX3_readBack_79 : decode cX3_readBack 79 = .ok (.iconst 1, 1) := by decide +kernel
theorem dX3_readBack_80 : decode cX3_readBack 80 = .ok (.iload_n 2, 1) := by decide +kernel
theorem dX3_readBack_81 : decode cX3_readBack 81 = .ok (.invokevirtual 131, 3) := by decide +kernel
theorem dX3_readBack_84 : decode cX3_readBack 84 = .ok (.aload_n 0, 1) := by decide +kernel
theorem dX3_readBack_85 : decode cX3_readBack 85 = .ok (.getfield 12, 3) := by decide +kernel
theorem dX3_readBack_88 : decode cX3_readBack 88 = .ok (.getfield 153, 3) := by decide +kernel
theorem dX3_readBack_91 : decode cX3_readBack 91 = .ok (.iconst 2, 1) := by decide +kernel
theorem dX3_readBack_92 : decode cX3_readBack 92 = .ok (.iload_n 3, 1) := by decide +kernel
theorem dX3_readBack_93 : decode cX3_readBack 93 = .ok (.invokevirtual 131, 3) := by decide +kernel
theorem dX3_readBack_96 : decode cX3_readBack 96 = .ok (.aload_n 0, 1) := by decide +kernel
theorem dX3_readBack_97 : decode cX3_readBack 97 = .ok (.getfield 12, 3) := by decide +kernel
theorem dX3_readBack_100 : decode cX3_readBack 100 = .ok (.getfield 153, 3) := by decide +kernel
theorem dX3_readBack_103 : decode cX3_readBack 103 = .ok (.iconst 3, 1) := by decide +kernel
theorem dX3_readBack_104 : decode cX3_readBack 104 = .ok (.iload 4, 2) := by decide +kernel
theorem dX3_readBack_106 : decode cX3_readBack 106 = .ok (.invokevirtual 131, 3) := by decide +kernel
theorem dX3_readBack_109 : decode cX3_readBack 109 = .ok (.return_, 1) := by decide +kernel
theorem dX3_blame_0 : decode cX3_blame 0 = .ok (.aload_n 0, 1) := by decide +kernel
theorem dX3_blame_1 : decode cX3_blame 1 = .ok (.getfield 31, 3) := by decide +kernel
theorem dX3_blame_4 : decode cX3_blame 4 = .ok (.ifCond .ne 13, 3) := by decide +kernel
theorem dX3_blame_7 : decode cX3_blame 7 = .ok (.aload_n 0, 1) := by decide +kernel
theorem dX3_blame_8 : decode cX3_blame 8 = .ok (.iload_n 1, 1) := by decide +kernel
theorem dX3_blame_9 : decode cX3_blame 9 = .ok (.putfield 31, 3) := by decide +kernel
theorem dX3_blame_12 : decode cX3_blame 12 = .ok (.aload_n 0, 1) := by decide +kernel
theorem dX3_blame_13 : decode cX3_blame 13 = .ok (.iload_n 2, 1) := by decide +kernel
theorem dX3_blame_14 : decode cX3_blame 14 = .ok (.putfield 18, 3) := by decide +kernel
theorem dX3_blame_17 : decode cX3_blame 17 = .ok (.return_, 1) := by decide +kernel
theorem dX3_next_0 : decode cX3_next 0 = .ok (.aload_n 0, 1) := by decide +kernel
theorem dX3_next_1 : decode cX3_next 1 = .ok (.getfield 25, 3) := by decide +kernel
theorem dX3_next_4 : decode cX3_next 4 = .ok (.aload_n 0, 1) := by decide +kernel
theorem dX3_next_5 : decode cX3_next 5 = .ok (.getfield 22, 3) := by decide +kernel
theorem dX3_next_8 : decode cX3_next 8 = .ok (.if_icmp .ge 17, 3) := by decide +kernel
theorem dX3_next_11 : decode cX3_next 11 = .ok (.aload_n 0, 1) := by decide +kernel
theorem dX3_next_12 : decode cX3_next 12 = .ok (.getfield 41, 3) := by decide +kernel
theorem dX3_next_15 : decode cX3_next 15 = .ok (.aload_n 0, 1) := by decide +kernel
theorem dX3_next_16 : decode cX3_next 16 = .ok (.getfield 25, 3) := by decide +kernel
theorem dX3_next_19 : decode cX3_next 19 = .ok (.invokevirtual 109, 3) := by decide +kernel
theorem dX3_next_22 : decode cX3_next 22 = .ok (.goto 4, 3) := by decide +kernel
theorem dX3_next_25 : decode cX3_next 25 = .ok (.iconst (-1), 1) := by decide +kernel
theorem dX3_next_26 : decode cX3_next 26 = .ok (.ireturn, 1) := by decide +kernel
theorem dX3_skipBlanks_0 : decode cX3_skipBlanks 0 = .ok (.aload_n 0, 1) := by decide +kernel
theorem dX3_skipBlanks_1 : decode cX3_skipBlanks 1 = .ok (.getfield 25, 3) := by decide +kernel
theorem dX3_skipBlanks_4 : decode cX3_skipBlanks 4 = .ok (.aload_n 0, 1) := by decide +kernel
theorem dX3_skipBlanks_5 : decode cX3_skipBlanks 5 = .ok (.getfield 22, 3) := by decide +kernel
theorem dX3_skipBlanks_8 : decode cX3_skipBlanks 8 = .ok (.if_icmp .ge 32, 3) := by decide +kernel
theorem dX3_skipBlanks_11 : decode cX3_skipBlanks 11 = .ok (.aload_n 0, 1) := by decide +kernel
theorem dX3_skipBlanks_12 : decode cX3_skipBlanks 12 = .ok (.getfield 41, 3) := by decide +kernel
theorem dX3_skipBlanks_15 : decode cX3_skipBlanks 15 = .ok (.aload_n 0, 1) := by decide +kernel
theorem dX3_skipBlanks_16 : decode cX3_skipBlanks 16 = .ok (.getfield 25, 3) := by decide +kernel
theorem dX3_skipBlanks_19 : decode cX3_skipBlanks 19 = .ok (.invokevirtual 109, 3) := by decide +kernel
theorem dX3_skipBlanks_22 : decode cX3_skipBlanks 22 = .ok (.bipush 32, 2) := by decide +kernel
theorem dX3_skipBlanks_24 : decode cX3_skipBlanks 24 = .ok (.if_icmp .ne 16, 3) := by decide +kernel
theorem dX3_skipBlanks_27 : decode cX3_skipBlanks 27 = .ok (.aload_n 0, 1) := by decide +kernel
theorem dX3_skipBlanks_28 : decode cX3_skipBlanks 28 = .ok (.dup, 1) := by decide +kernel
theorem dX3_skipBlanks_29 : decode cX3_skipBlanks 29 = .ok (.getfield 25, 3) := by decide +kernel
theorem dX3_skipBlanks_32 : decode cX3_skipBlanks 32 = .ok (.iconst 1, 1) := by decide +kernel
theorem dX3_skipBlanks_33 : decode cX3_skipBlanks 33 = .ok (.iadd, 1) := by decide +kernel
theorem dX3_skipBlanks_34 : decode cX3_skipBlanks 34 = .ok (.putfield 25, 3) := by decide +kernel
theorem dX3_skipBlanks_37 : decode cX3_skipBlanks 37 = .ok (.goto (-37), 3) := by decide +kernel
theorem dX3_skipBlanks_40 : decode cX3_skipBlanks 40 = .ok (.return_, 1) := by decide +kernel
theorem dX3_readWord_0 : decode cX3_readWord 0 = .ok (.aload_n 0, 1) := by decide +kernel
theorem dX3_readWord_1 : decode cX3_readWord 1 = .ok (.getfield 25, 3) := by decide +kernel
theorem dX3_readWord_4 : decode cX3_readWord 4 = .ok (.istore_n 1, 1) := by decide +kernel
theorem dX3_readWord_5 : decode cX3_readWord 5 = .ok (.aload_n 0, 1) := by decide +kernel
theorem dX3_readWord_6 : decode cX3_readWord 6 = .ok (.getfield 25, 3) := by decide +kernel
theorem dX3_readWord_9 : decode cX3_readWord 9 = .ok (.aload_n 0, 1) := by decide +kernel
theorem dX3_readWord_10 : decode cX3_readWord 10 = .ok (.getfield 22, 3) := by decide +kernel
theorem dX3_readWord_13 : decode cX3_readWord 13 = .ok (.if_icmp .ge 48, 3) := by decide +kernel
theorem dX3_readWord_16 : decode cX3_readWord 16 = .ok (.aload_n 0, 1) := by decide +kernel
theorem dX3_readWord_17 : decode cX3_readWord 17 = .ok (.getfield 41, 3) := by decide +kernel
theorem dX3_readWord_20 : decode cX3_readWord 20 = .ok (.aload_n 0, 1) := by decide +kernel
theorem dX3_readWord_21 : decode cX3_readWord 21 = .ok (.getfield 25, 3) := by decide +kernel
theorem dX3_readWord_24 : decode cX3_readWord 24 = .ok (.invokevirtual 109, 3) := by decide +kernel
theorem dX3_readWord_27 : decode cX3_readWord 27 = .ok (.bipush 97, 2) := by decide +kernel
theorem dX3_readWord_29 : decode cX3_readWord 29 = .ok (.if_icmp .lt 32, 3) := by decide +kernel
theorem dX3_readWord_32 : decode cX3_readWord 32 = .ok (.aload_n 0, 1) := by decide +kernel
theorem dX3_readWord_33 : decode cX3_readWord 33 = .ok (.getfield 41, 3) := by decide +kernel
theorem dX3_readWord_36 : decode cX3_readWord 36 = .ok (.aload_n 0, 1) := by decide +kernel
theorem dX3_readWord_37 : decode cX3_readWord 37 = .ok (.getfield 25, 3) := by decide +kernel
theorem dX3_readWord_40 : decode cX3_readWord 40 = .ok (.invokevirtual 109, 3) := by decide +kernel
theorem dX3_readWord_43 : decode cX3_readWord 43 = .ok (.bipush 122, 2) := by decide +kernel
theorem dX3_readWord_45 : decode cX3_readWord 45 = .ok (.if_icmp .gt 16, 3) := by decide +kernel
theorem dX3_readWord_48 : decode cX3_readWord 48 = .ok (.aload_n 0, 1) := by decide +kernel
theorem dX3_readWord_49 : decode cX3_readWord 49 = .ok (.dup, 1) := by decide +kernel
theorem dX3_readWord_50 : decode cX3_readWord 50 = .ok (.getfield 25, 3) := by decide +kernel
theorem dX3_readWord_53 : decode cX3_readWord 53 = .ok (.iconst 1, 1) := by decide +kernel
theorem dX3_readWord_54 : decode cX3_readWord 54 = .ok (.iadd, 1) := by decide +kernel
theorem dX3_readWord_55 : decode cX3_readWord 55 = .ok (.putfield 25, 3) := by decide +kernel
theorem dX3_readWord_58 : decode cX3_readWord 58 = .ok (.goto (-53), 3) := by decide +kernel
theorem dX3_readWord_61 : decode cX3_readWord 61 = .ok (.iconst 0, 1) := by decide +kernel
theorem dX3_readWord_62 : decode cX3_readWord 62 = .ok (.istore_n 2, 1) := by decide +kernel
theorem dX3_readWord_63 : decode cX3_readWord 63 = .ok (.iload_n 2, 1) := by decide +kernel
theorem dX3_readWord_64 : decode cX3_readWord 64 = .ok (.bipush 9, 2) := by decide +kernel
theorem dX3_readWord_66 : decode cX3_readWord 66 = .ok (.if_icmp .ge 23, 3) := by decide +kernel
theorem dX3_readWord_69 : decode cX3_readWord 69 = .ok (.aload_n 0, 1) := by decide +kernel
theorem dX3_readWord_70 : decode cX3_readWord 70 = .ok (.iload_n 1, 1) := by decide +kernel
theorem dX3_readWord_71 : decode cX3_readWord 71 = .ok (.iload_n 2, 1) := by decide +kernel
theorem dX3_readWord_72 : decode cX3_readWord 72 = .ok (.invokestatic 156, 3) := by decide +kernel
theorem dX3_readWord_75 : decode cX3_readWord 75 = .ok (.invokevirtual 160, 3) := by decide +kernel
theorem dX3_readWord_78 : decode cX3_readWord 78 = .ok (.ifCond .eq 5, 3) := by decide +kernel
theorem dX3_readWord_81 : decode cX3_readWord 81 = .ok (.iload_n 2, 1) := by decide +kernel
theorem dX3_readWord_82 : decode cX3_readWord 82 = .ok (.ireturn, 1) := by decide +kernel
theorem dX3_readWord_83 : decode cX3_readWord 83 = .ok (.iinc 2 1, 3) := by decide +kernel
theorem dX3_readWord_86 : decode cX3_readWord 86 = .ok (.goto (-23), 3) := by decide +kernel
theorem dX3_readWord_89 : decode cX3_readWord 89 = .ok (.iconst (-1), 1) := by decide +kernel
theorem dX3_readWord_90 : decode cX3_readWord 90 = .ok (.ireturn, 1) := by decide +kernel
theorem dX3_stands_0 : decode cX3_stands 0 = .ok (.aload_n 0, 1) := by decide +kernel
theorem dX3_stands_1 : decode cX3_stands 1 = .ok (.getfield 25, 3) := by decide +kernel
theorem dX3_stands_4 : decode cX3_stands 4 = .ok (.iload_n 1, 1) := by decide +kernel
theorem dX3_stands_5 : decode cX3_stands 5 = .ok (.isub, 1) := by decide +kernel
theorem dX3_stands_6 : decode cX3_stands 6 = .ok (.aload_n 2, 1) := by decide +kernel
theorem dX3_stands_7 : decode cX3_stands 7 = .ok (.invokevirtual 164, 3) := by decide +kernel
theorem dX3_stands_10 : decode cX3_stands 10 = .ok (.if_icmp .eq 5, 3) := by decide +kernel
theorem dX3_stands_13 : decode cX3_stands 13 = .ok (.iconst 0, 1) := by decide +kernel
theorem dX3_stands_14 : decode cX3_stands 14 = .ok (.ireturn, 1) := by decide +kernel
theorem dX3_stands_15 : decode cX3_stands 15 = .ok (.iconst 0, 1) := by decide +kernel
theorem dX3_stands_16 : decode cX3_stands 16 = .ok (.istore_n 3, 1) := by decide +kernel
theorem dX3_stands_17 : decode cX3_stands 17 = .ok (.iload_n 3, 1) := by decide +kernel
theorem dX3_stands_18 : decode cX3_stands 18 = .ok (.aload_n 2, 1) := by decide +kernel
theorem dX3_stands_19 : decode cX3_stands 19 = .ok (.invokevirtual 164, 3) := by decide +kernel
theorem dX3_stands_22 : decode cX3_stands 22 = .ok (.if_icmp .ge 29, 3) := by decide +kernel
theorem dX3_stands_25 : decode cX3_stands 25 = .ok (.aload_n 0, 1) := by decide +kernel
theorem dX3_stands_26 : decode cX3_stands 26 = .ok (.getfield 41, 3) := by decide +kernel
theorem dX3_stands_29 : decode cX3_stands 29 = .ok (.iload_n 1, 1) := by decide +kernel
theorem dX3_stands_30 : decode cX3_stands 30 = .ok (.iload_n 3, 1) := by decide +kernel
theorem dX3_stands_31 : decode cX3_stands 31 = .ok (.iadd, 1) := by decide +kernel
theorem dX3_stands_32 : decode cX3_stands 32 = .ok (.invokevirtual 109, 3) := by decide +kernel
theorem dX3_stands_35 : decode cX3_stands 35 = .ok (.aload_n 2, 1) := by decide +kernel
theorem dX3_stands_36 : decode cX3_stands 36 = .ok (.iload_n 3, 1) := by decide +kernel
theorem dX3_stands_37 : decode cX3_stands 37 = .ok (.invokevirtual 169, 3) := by decide +kernel
theorem dX3_stands_40 : decode cX3_stands 40 = .ok (.if_icmp .eq 5, 3) := by decide +kernel
theorem dX3_stands_43 : decode cX3_stands 43 = .ok (.iconst 0, 1) := by decide +kernel
theorem dX3_stands_44 : decode cX3_stands 44 = .ok (.ireturn, 1) := by decide +kernel
theorem dX3_stands_45 : decode cX3_stands 45 = .ok (.iinc 3 1, 3) := by decide +kernel
theorem dX3_stands_48 : decode cX3_stands 48 = .ok (.goto (-31), 3) := by decide +kernel
theorem dX3_stands_51 : decode cX3_stands 51 = .ok (.iconst 1, 1) := by decide +kernel
theorem dX3_stands_52 : decode cX3_stands 52 = .ok (.ireturn, 1) := by decide +kernel
theorem dX3_wordOf_0 : decode cX3_wordOf 0 = .ok (.iload_n 0, 1) := by decide +kernel
theorem dX3_wordOf_1 : decode cX3_wordOf 1 = .ok (.tableswitch 71 0 7 #[47, 50, 53, 56, 59, 62, 65, 68], 47) := by decide +kernel
theorem dX3_wordOf_48 : decode cX3_wordOf 48 = .ok (.ldc 173, 2) := by decide +kernel
theorem dX3_wordOf_50 : decode cX3_wordOf 50 = .ok (.areturn, 1) := by decide +kernel
theorem dX3_wordOf_51 : decode cX3_wordOf 51 = .ok (.ldc 175, 2) := by decide +kernel
theorem dX3_wordOf_53 : decode cX3_wordOf 53 = .ok (.areturn, 1) := by decide +kernel
theorem dX3_wordOf_54 : decode cX3_wordOf 54 = .ok (.ldc 177, 2) := by decide +kernel
theorem dX3_wordOf_56 : decode cX3_wordOf 56 = .ok (.areturn, 1) := by decide +kernel
theorem dX3_wordOf_57 : decode cX3_wordOf 57 = .ok (.ldc 179, 2) := by decide +kernel
theorem dX3_wordOf_59 : decode cX3_wordOf 59 = .ok (.areturn, 1) := by decide +kernel
theorem dX3_wordOf_60 : decode cX3_wordOf 60 = .ok (.ldc 181, 2) := by decide +kernel
theorem dX3_wordOf_62 : decode cX3_wordOf 62 = .ok (.areturn, 1) := by decide +kernel
theorem dX3_wordOf_63 : decode cX3_wordOf 63 = .ok (.ldc 183, 2) := by decide +kernel
theorem dX3_wordOf_65 : decode cX3_wordOf 65 = .ok (.areturn, 1) := by decide +kernel
theorem dX3_wordOf_66 : decode cX3_wordOf 66 = .ok (.ldc 185, 2) := by decide +kernel
theorem dX3_wordOf_68 : decode cX3_wordOf 68 = .ok (.areturn, 1) := by decide +kernel
theorem dX3_wordOf_69 : decode cX3_wordOf 69 = .ok (.ldc 187, 2) := by decide +kernel
theorem dX3_wordOf_71 : decode cX3_wordOf 71 = .ok (.areturn, 1) := by decide +kernel
theorem dX3_wordOf_72 : decode cX3_wordOf 72 = .ok (.ldc 188, 2) := by decide +kernel
theorem dX3_wordOf_74 : decode cX3_wordOf 74 = .ok (.areturn, 1) := by decide +kernel
theorem dX3_number_0 : decode cX3_number 0 = .ok (.aload_n 0, 1) := by decide +kernel
theorem dX3_number_1 : decode cX3_number 1 = .ok (.invokevirtual 48, 3) := by decide +kernel
theorem dX3_number_4 : decode cX3_number 4 = .ok (.aload_n 0, 1) := by decide +kernel
theorem dX3_number_5 : decode cX3_number 5 = .ok (.getfield 31, 3) := by decide +kernel
theorem dX3_number_8 : decode cX3_number 8 = .ok (.ifCond .eq 5, 3) := by decide +kernel
theorem dX3_number_11 : decode cX3_number 11 = .ok (.iload_n 1, 1) := by decide +kernel
theorem dX3_number_12 : decode cX3_number 12 = .ok (.ireturn, 1) := by decide +kernel
theorem dX3_number_13 : decode cX3_number 13 = .ok (.aload_n 0, 1) := by decide +kernel
theorem dX3_number_14 : decode cX3_number 14 = .ok (.aload_n 0, 1) := by decide +kernel
theorem dX3_number_15 : decode cX3_number 15 = .ok (.getfield 25, 3) := by decide +kernel
theorem dX3_number_18 : decode cX3_number 18 = .ok (.putfield 28, 3) := by decide +kernel
theorem dX3_number_21 : decode cX3_number 21 = .ok (.iconst 0, 1) := by decide +kernel
theorem dX3_number_22 : decode cX3_number 22 = .ok (.istore_n 3, 1) := by decide +kernel
theorem dX3_number_23 : decode cX3_number 23 = .ok (.aload_n 0, 1) := by decide +kernel
theorem dX3_number_24 : decode cX3_number 24 = .ok (.getfield 25, 3) := by decide +kernel
theorem dX3_number_27 : decode cX3_number 27 = .ok (.aload_n 0, 1) := by decide +kernel
theorem dX3_number_28 : decode cX3_number 28 = .ok (.getfield 22, 3) := by decide +kernel
theorem dX3_number_31 : decode cX3_number 31 = .ok (.if_icmp .ge 74, 3) := by decide +kernel
theorem dX3_number_34 : decode cX3_number 34 = .ok (.aload_n 0, 1) := by decide +kernel
theorem dX3_number_35 : decode cX3_number 35 = .ok (.getfield 41, 3) := by decide +kernel
theorem dX3_number_38 : decode cX3_number 38 = .ok (.aload_n 0, 1) := by decide +kernel
theorem dX3_number_39 : decode cX3_number 39 = .ok (.getfield 25, 3) := by decide +kernel
theorem dX3_number_42 : decode cX3_number 42 = .ok (.invokevirtual 109, 3) := by decide +kernel
theorem dX3_number_45 : decode cX3_number 45 = .ok (.bipush 48, 2) := by decide +kernel
theorem dX3_number_47 : decode cX3_number 47 = .ok (.if_icmp .lt 58, 3) := by decide +kernel
theorem dX3_number_50 : decode cX3_number 50 = .ok (.aload_n 0, 1) := by decide +kernel
theorem dX3_number_51 : decode cX3_number 51 = .ok (.getfield 41, 3) := by decide +kernel
theorem dX3_number_54 : decode cX3_number 54 = .ok (.aload_n 0, 1) := by decide +kernel
theorem dX3_number_55 : decode cX3_number 55 = .ok (.getfield 25, 3) := by decide +kernel
theorem dX3_number_58 : decode cX3_number 58 = .ok (.invokevirtual 109, 3) := by decide +kernel
theorem dX3_number_61 : decode cX3_number 61 = .ok (.bipush 57, 2) := by decide +kernel
theorem dX3_number_63 : decode cX3_number 63 = .ok (.if_icmp .gt 42, 3) := by decide +kernel
theorem dX3_number_66 : decode cX3_number 66 = .ok (.iload_n 3, 1) := by decide +kernel
theorem dX3_number_67 : decode cX3_number 67 = .ok (.bipush 10, 2) := by decide +kernel
theorem dX3_number_69 : decode cX3_number 69 = .ok (.imul, 1) := by decide +kernel
theorem dX3_number_70 : decode cX3_number 70 = .ok (.aload_n 0, 1) := by decide +kernel
theorem dX3_number_71 : decode cX3_number 71 = .ok (.getfield 41, 3) := by decide +kernel
theorem dX3_number_74 : decode cX3_number 74 = .ok (.aload_n 0, 1) := by decide +kernel
theorem dX3_number_75 : decode cX3_number 75 = .ok (.getfield 25, 3) := by decide +kernel
theorem dX3_number_78 : decode cX3_number 78 = .ok (.invokevirtual 109, 3) := by decide +kernel
theorem dX3_number_81 : decode cX3_number 81 = .ok (.iadd, 1) := by decide +kernel
theorem dX3_number_82 : decode cX3_number 82 = .ok (.bipush 48, 2) := by decide +kernel
theorem dX3_number_84 : decode cX3_number 84 = .ok (.isub, 1) := by decide +kernel
theorem dX3_number_85 : decode cX3_number 85 = .ok (.sipush 10000, 3) := by decide +kernel
theorem dX3_number_88 : decode cX3_number 88 = .ok (.invokestatic 190, 3) := by decide +kernel
theorem dX3_number_91 : decode cX3_number 91 = .ok (.istore_n 3, 1) := by decide +kernel
theorem dX3_number_92 : decode cX3_number 92 = .ok (.aload_n 0, 1) := by decide +kernel
theorem dX3_number_93 : decode cX3_number 93 = .ok (.dup, 1) := by decide +kernel
theorem dX3_number_94 : decode cX3_number 94 = .ok (.getfield 25, 3) := by decide +kernel
theorem dX3_number_97 : decode cX3_number 97 = .ok (.iconst 1, 1) := by decide +kernel
theorem dX3_number_98 : decode cX3_number 98 = .ok (.iadd, 1) := by decide +kernel
theorem dX3_number_99 : decode cX3_number 99 = .ok (.putfield 25, 3) := by decide +kernel
theorem dX3_number_102 : decode cX3_number 102 = .ok (.goto (-79), 3) := by decide +kernel
theorem dX3_number_105 : decode cX3_number 105 = .ok (.aload_n 0, 1) := by decide +kernel
theorem dX3_number_106 : decode cX3_number 106 = .ok (.getfield 25, 3) := by decide +kernel
theorem dX3_number_109 : decode cX3_number 109 = .ok (.aload_n 0, 1) := by decide +kernel
theorem dX3_number_110 : decode cX3_number 110 = .ok (.getfield 28, 3) := by decide +kernel
theorem dX3_number_113 : decode cX3_number 113 = .ok (.if_icmp .ne 15, 3) := by decide +kernel
theorem dX3_number_116 : decode cX3_number 116 = .ok (.aload_n 0, 1) := by decide +kernel
theorem dX3_number_117 : decode cX3_number 117 = .ok (.iconst 1, 1) := by decide +kernel
theorem dX3_number_118 : decode cX3_number 118 = .ok (.aload_n 0, 1) := by decide +kernel
theorem dX3_number_119 : decode cX3_number 119 = .ok (.getfield 25, 3) := by decide +kernel
theorem dX3_number_122 : decode cX3_number 122 = .ok (.invokevirtual 62, 3) := by decide +kernel
theorem dX3_number_125 : decode cX3_number 125 = .ok (.goto 22, 3) := by decide +kernel
theorem dX3_number_128 : decode cX3_number 128 = .ok (.iload_n 3, 1) := by decide +kernel
theorem dX3_number_129 : decode cX3_number 129 = .ok (.iload_n 1, 1) := by decide +kernel
theorem dX3_number_130 : decode cX3_number 130 = .ok (.if_icmp .lt 8, 3) := by decide +kernel
theorem dX3_number_133 : decode cX3_number 133 = .ok (.iload_n 3, 1) := by decide +kernel
theorem dX3_number_134 : decode cX3_number 134 = .ok (.iload_n 2, 1) := by decide +kernel
theorem dX3_number_135 : decode cX3_number 135 = .ok (.if_icmp .le 12, 3) := by decide +kernel
theorem dX3_number_138 : decode cX3_number 138 = .ok (.aload_n 0, 1) := by decide +kernel
theorem dX3_number_139 : decode cX3_number 139 = .ok (.iconst 2, 1) := by decide +kernel
theorem dX3_number_140 : decode cX3_number 140 = .ok (.aload_n 0, 1) := by decide +kernel
theorem dX3_number_141 : decode cX3_number 141 = .ok (.getfield 28, 3) := by decide +kernel
theorem dX3_number_144 : decode cX3_number 144 = .ok (.invokevirtual 62, 3) := by decide +kernel
theorem dX3_number_147 : decode cX3_number 147 = .ok (.iload_n 3, 1) := by decide +kernel
theorem dX3_number_148 : decode cX3_number 148 = .ok (.ireturn, 1) := by decide +kernel
theorem dX3_ends_0 : decode cX3_ends 0 = .ok (.aload_n 0, 1) := by decide +kernel
theorem dX3_ends_1 : decode cX3_ends 1 = .ok (.invokevirtual 48, 3) := by decide +kernel
theorem dX3_ends_4 : decode cX3_ends 4 = .ok (.aload_n 0, 1) := by decide +kernel
theorem dX3_ends_5 : decode cX3_ends 5 = .ok (.invokevirtual 195, 3) := by decide +kernel
theorem dX3_ends_8 : decode cX3_ends 8 = .ok (.bipush 59, 2) := by decide +kernel
theorem dX3_ends_10 : decode cX3_ends 10 = .ok (.if_icmp .eq 12, 3) := by decide +kernel
theorem dX3_ends_13 : decode cX3_ends 13 = .ok (.aload_n 0, 1) := by decide +kernel
theorem dX3_ends_14 : decode cX3_ends 14 = .ok (.iconst 1, 1) := by decide +kernel
theorem dX3_ends_15 : decode cX3_ends 15 = .ok (.aload_n 0, 1) := by decide +kernel
theorem dX3_ends_16 : decode cX3_ends 16 = .ok (.getfield 25, 3) := by decide +kernel
theorem dX3_ends_19 : decode cX3_ends 19 = .ok (.invokevirtual 62, 3) := by decide +kernel
theorem dX3_ends_22 : decode cX3_ends 22 = .ok (.aload_n 0, 1) := by decide +kernel
theorem dX3_ends_23 : decode cX3_ends 23 = .ok (.getfield 31, 3) := by decide +kernel
theorem dX3_ends_26 : decode cX3_ends 26 = .ok (.ifCond .eq 5, 3) := by decide +kernel
theorem dX3_ends_29 : decode cX3_ends 29 = .ok (.iconst 0, 1) := by decide +kernel
theorem dX3_ends_30 : decode cX3_ends 30 = .ok (.ireturn, 1) := by decide +kernel
theorem dX3_ends_31 : decode cX3_ends 31 = .ok (.aload_n 0, 1) := by decide +kernel
theorem dX3_ends_32 : decode cX3_ends 32 = .ok (.dup, 1) := by decide +kernel
theorem dX3_ends_33 : decode cX3_ends 33 = .ok (.getfield 25, 3) := by decide +kernel
theorem dX3_ends_36 : decode cX3_ends 36 = .ok (.iconst 1, 1) := by decide +kernel
theorem dX3_ends_37 : decode cX3_ends 37 = .ok (.iadd, 1) := by decide +kernel
theorem dX3_ends_38 : decode cX3_ends 38 = .ok (.putfield 25, 3) := by decide +kernel
theorem dX3_ends_41 : decode cX3_ends 41 = .ok (.iconst 1, 1) := by decide +kernel
theorem dX3_ends_42 : decode cX3_ends 42 = .ok (.ireturn, 1) := by decide +kernel
theorem dX4_init_0 : decode cX4_init 0 = .ok (.aload_n 0, 1) := by decide +kernel
theorem dX4_init_1 : decode cX4_init 1 = .ok (.invokespecial 3, 3) := by decide +kernel
theorem dX4_init_4 : decode cX4_init 4 = .ok (.aload_n 0, 1) := by decide +kernel
theorem dX4_init_5 : decode cX4_init 5 = .ok (.iconst 0, 1) := by decide +kernel
theorem dX4_init_6 : decode cX4_init 6 = .ok (.putfield 9, 3) := by decide +kernel
theorem dX4_init_9 : decode cX4_init 9 = .ok (.aload_n 0, 1) := by decide +kernel
theorem dX4_init_10 : decode cX4_init 10 = .ok (.iconst (-1), 1) := by decide +kernel
theorem dX4_init_11 : decode cX4_init 11 = .ok (.putfield 15, 3) := by decide +kernel
theorem dX4_init_14 : decode cX4_init 14 = .ok (.aload_n 0, 1) := by decide +kernel
theorem dX4_init_15 : decode cX4_init 15 = .ok (.iconst 0, 1) := by decide +kernel
theorem dX4_init_16 : decode cX4_init 16 = .ok (.putfield 18, 3) := by decide +kernel
theorem dX4_init_19 : decode cX4_init 19 = .ok (.aload_n 0, 1) := by decide +kernel
theorem dX4_init_20 : decode cX4_init 20 = .ok (.iconst 0, 1) := by decide +kernel
theorem dX4_init_21 : decode cX4_init 21 = .ok (.putfield 21, 3) := by decide +kernel
theorem dX4_init_24 : decode cX4_init 24 = .ok (.aload_n 0, 1) := by decide +kernel
theorem dX4_init_25 : decode cX4_init 25 = .ok (.iconst 0, 1) := by decide +kernel
theorem dX4_init_26 : decode cX4_init 26 = .ok (.putfield 24, 3) := by decide +kernel
theorem dX4_init_29 : decode cX4_init 29 = .ok (.aload_n 0, 1) := by decide +kernel
theorem dX4_init_30 : decode cX4_init 30 = .ok (.iconst 0, 1) := by decide +kernel
theorem dX4_init_31 : decode cX4_init 31 = .ok (.putfield 27, 3) := by decide +kernel
theorem dX4_init_34 : decode cX4_init 34 = .ok (.aload_n 0, 1) := by decide +kernel
theorem dX4_init_35 : decode cX4_init 35 = .ok (.new 30, 3) := by decide +kernel
theorem dX4_init_38 : decode cX4_init 38 = .ok (.dup, 1) := by decide +kernel
theorem dX4_init_39 : decode cX4_init 39 = .ok (.iconst 4, 1) := by decide +kernel
theorem dX4_init_40 : decode cX4_init 40 = .ok (.invokespecial 32, 3) := by decide +kernel
theorem dX4_init_43 : decode cX4_init 43 = .ok (.putfield 35, 3) := by decide +kernel
theorem dX4_init_46 : decode cX4_init 46 = .ok (.return_, 1) := by decide +kernel
theorem dX4_begin_0 : decode cX4_begin 0 = .ok (.aload_n 0, 1) := by decide +kernel
theorem dX4_begin_1 : decode cX4_begin 1 = .ok (.iload_n 1, 1) := by decide +kernel
theorem dX4_begin_2 : decode cX4_begin 2 = .ok (.putfield 18, 3) := by decide +kernel
theorem dX4_begin_5 : decode cX4_begin 5 = .ok (.aload_n 0, 1) := by decide +kernel
theorem dX4_begin_6 : decode cX4_begin 6 = .ok (.iload_n 2, 1) := by decide +kernel
theorem dX4_begin_7 : decode cX4_begin 7 = .ok (.putfield 21, 3) := by decide +kernel
theorem dX4_begin_10 : decode cX4_begin 10 = .ok (.aload_n 0, 1) := by decide +kernel
theorem dX4_begin_11 : decode cX4_begin 11 = .ok (.iload_n 3, 1) := by decide +kernel
theorem dX4_begin_12 : decode cX4_begin 12 = .ok (.putfield 24, 3) := by decide +kernel
theorem dX4_begin_15 : decode cX4_begin 15 = .ok (.aload_n 0, 1) := by decide +kernel
theorem dX4_begin_16 : decode cX4_begin 16 = .ok (.iload 4, 2) := by decide +kernel
theorem dX4_begin_18 : decode cX4_begin 18 = .ok (.putfield 27, 3) := by decide +kernel
theorem dX4_begin_21 : decode cX4_begin 21 = .ok (.aload_n 0, 1) := by decide +kernel
theorem dX4_begin_22 : decode cX4_begin 22 = .ok (.iconst 0, 1) := by decide +kernel
theorem dX4_begin_23 : decode cX4_begin 23 = .ok (.putfield 9, 3) := by decide +kernel
theorem dX4_begin_26 : decode cX4_begin 26 = .ok (.aload_n 0, 1) := by decide +kernel
theorem dX4_begin_27 : decode cX4_begin 27 = .ok (.iconst (-1), 1) := by decide +kernel
theorem dX4_begin_28 : decode cX4_begin 28 = .ok (.putfield 15, 3) := by decide +kernel
theorem dX4_begin_31 : decode cX4_begin 31 = .ok (.return_, 1) := by decide +kernel
theorem dX4_findRests_0 : decode cX4_findRests 0 = .ok (.iconst 1, 1) := by decide +kernel
theorem dX4_findRests_1 : decode cX4_findRests 1 = .ok (.istore_n 1, 1) := by decide +kernel
theorem dX4_findRests_2 : decode cX4_findRests 2 = .ok (.iconst 0, 1) := by decide +kernel
theorem dX4_findRests_3 : decode cX4_findRests 3 = .ok (.istore_n 2, 1) := by decide +kernel
theorem dX4_findRests_4 : decode cX4_findRests 4 = .ok (.iload_n 2, 1) := by decide +kernel
theorem dX4_findRests_5 : decode cX4_findRests 5 = .ok (.aload_n 0, 1) := by decide +kernel
theorem dX4_findRests_6 : decode cX4_findRests 6 = .ok (.getfield 18, 3) := by decide +kernel
theorem dX4_findRests_9 : decode cX4_findRests 9 = .ok (.if_icmp .ge 16, 3) := by decide +kernel
theorem dX4_findRests_12 : decode cX4_findRests 12 = .ok (.iload_n 1, 1) := by decide +kernel
theorem dX4_findRests_13 : decode cX4_findRests 13 = .ok (.aload_n 0, 1) := by decide +kernel
theorem dX4_findRests_14 : decode cX4_findRests 14 = .ok (.getfield 21, 3) := by decide +kernel
theorem dX4_findRests_17 : decode cX4_findRests 17 = .ok (.imul, 1) := by decide +kernel
theorem dX4_findRests_18 : decode cX4_findRests 18 = .ok (.istore_n 1, 1) := by decide +kernel
theorem dX4_findRests_19 : decode cX4_findRests 19 = .ok (.iinc 2 1, 3) := by decide +kernel
theorem dX4_findRests_22 : decode cX4_findRests 22 = .ok (.goto (-18), 3) := by decide +kernel
theorem dX4_findRests_25 : decode cX4_findRests 25 = .ok (.iconst 0, 1) := by decide +kernel
theorem dX4_findRests_26 : decode cX4_findRests 26 = .ok (.istore_n 2, 1) := by decide +kernel
theorem dX4_findRests_27 : decode cX4_findRests 27 = .ok (.iload_n 2, 1) := by decide +kernel
theorem dX4_findRests_28 : decode cX4_findRests 28 = .ok (.iload_n 1, 1) := by decide +kernel
theorem dX4_findRests_29 : decode cX4_findRests 29 = .ok (.if_icmp .ge 47, 3) := by decide +kernel
theorem dX4_findRests_32 : decode cX4_findRests 32 = .ok (.aload_n 0, 1) := by decide +kernel
theorem dX4_findRests_33 : decode cX4_findRests 33 = .ok (.iload_n 2, 1) := by decide +kernel
theorem dX4_findRests_34 : decode cX4_findRests 34 = .ok (.invokevirtual 39, 3) := by decide +kernel
theorem dX4_findRests_37 : decode cX4_findRests 37 = .ok (.aload_n 0, 1) := by decide +kernel
theorem dX4_findRests_38 : decode cX4_findRests 38 = .ok (.invokevirtual 42, 3) := by decide +kernel
theorem dX4_findRests_41 : decode cX4_findRests 41 = .ok (.ifCond .eq 29, 3) := by decide +kernel
theorem dX4_findRests_44 : decode cX4_findRests 44 = .ok (.aload_n 0, 1) := by decide +kernel
theorem dX4_findRests_45 : decode cX4_findRests 45 = .ok (.dup, 1) := by decide +kernel
theorem dX4_findRests_46 : decode cX4_findRests 46 = .ok (.getfield 9, 3) := by decide +kernel
theorem dX4_findRests_49 : decode cX4_findRests 49 = .ok (.iconst 1, 1) := by decide +kernel
theorem dX4_findRests_50 : decode cX4_findRests 50 = .ok (.iadd, 1) := by decide +kernel
theorem dX4_findRests_51 : decode cX4_findRests 51 = .ok (.putfield 9, 3) := by decide +kernel
theorem dX4_findRests_54 : decode cX4_findRests 54 = .ok (.aload_n 0, 1) := by decide +kernel
theorem dX4_findRests_55 : decode cX4_findRests 55 = .ok (.getfield 15, 3) := by decide +kernel
theorem dX4_findRests_58 : decode cX4_findRests 58 = .ok (.iconst (-1), 1) := by decide +kernel
theorem dX4_findRests_59 : decode cX4_findRests 59 = .ok (.if_icmp .ne 11, 3) := by decide +kernel
theorem dX4_findRests_62 : decode cX4_findRests 62 = .ok (.aload_n 0, 1) := by decide +kernel
theorem dX4_findRests_63 : decode cX4_findRests 63 = .ok (.aload_n 0, 1) := by decide +kernel
theorem dX4_findRests_64 : decode cX4_findRests 64 = .ok (.invokevirtual 46, 3) := by decide +kernel
theorem dX4_findRests_67 : decode cX4_findRests 67 = .ok (.putfield 15, 3) := by decide +kernel
theorem dX4_findRests_70 : decode cX4_findRests 70 = .ok (.iinc 2 1, 3) := by decide +kernel
theorem dX4_findRests_73 : decode cX4_findRests 73 = .ok (.goto (-46), 3) := by decide +kernel
theorem dX4_findRests_76 : decode cX4_findRests 76 = .ok (.return_, 1) := by decide +kernel
theorem dX4_choose_0 : decode cX4_choose 0 = .ok (.iload_n 1, 1) := by decide +kernel
theorem dX4_choose_1 : decode cX4_choose 1 = .ok (.istore_n 2, 1) := by decide +kernel
theorem dX4_choose_2 : decode cX4_choose 2 = .ok (.aload_n 0, 1) := by decide +kernel
theorem dX4_choose_3 : decode cX4_choose 3 = .ok (.getfield 18, 3) := by decide +kernel
theorem dX4_choose_6 : decode cX4_choose 6 = .ok (.iconst 1, 1) := by decide +kernel
theorem dX4_choose_7 : decode cX4_choose 7 = .ok (.isub, 1) := by decide +kernel
theorem dX4_choose_8 : decode cX4_choose 8 = .ok (.istore_n 3, 1) := by decide +kernel
theorem dX4_choose_9 : decode cX4_choose 9 = .ok (.iload_n 3, 1) := by decide +kernel
theorem dX4_choose_10 : decode cX4_choose 10 = .ok (.ifCond .lt 52, 3) := by decide +kernel
theorem dX4_choose_13 : decode cX4_choose 13 = .ok (.aload_n 0, 1) := by decide +kernel
theorem dX4_choose_14 : decode cX4_choose 14 = .ok (.getfield 35, 3) := by decide +kernel
theorem dX4_choose_17 : decode cX4_choose 17 = .ok (.iload_n 3, 1) := by decide +kernel
theorem dX4_choose_18 : decode cX4_choose 18 = .ok (.aload_n 0, 1) := by decide +kernel
theorem dX4_choose_19 : decode cX4_choose 19 = .ok (.getfield 21, 3) := by decide +kernel
theorem dX4_choose_22 : decode cX4_choose 22 = .ok (.ifCond .le 12, 3) := by decide +kernel
theorem dX4_choose_25 : decode cX4_choose 25 = .ok (.iload_n 2, 1) := by decide +kernel
theorem dX4_choose_26 : decode cX4_choose 26 = .ok (.aload_n 0, 1) := by decide +kernel
theorem dX4_choose_27 : decode cX4_choose 27 = .ok (.getfield 21, 3) := by decide +kernel
theorem dX4_choose_30 : decode cX4_choose 30 = .ok (.irem, 1) := by decide +kernel
theorem dX4_choose_31 : decode cX4_choose 31 = .ok (.goto 4, 3) := by decide +kernel
theorem dX4_choose_34 : decode cX4_choose 34 = .ok (.iconst 0, 1) := by decide +kernel
theorem dX4_choose_35 : decode cX4_choose 35 = .ok (.invokevirtual 50, 3) := by decide +kernel
theorem dX4_choose_38 : decode cX4_choose 38 = .ok (.aload_n 0, 1) := by decide +kernel
theorem dX4_choose_39 : decode cX4_choose 39 = .ok (.getfield 21, 3) := by decide +kernel
theorem dX4_choose_42 : decode cX4_choose 42 = .ok (.ifCond .le 12, 3) := by decide +kernel
theorem dX4_choose_45 : decode cX4_choose 45 = .ok (.iload_n 2, 1) := by decide +kernel
theorem dX4_choose_46 : decode cX4_choose 46 = .ok (.aload_n 0, 1) := by decide +kernel
theorem dX4_choose_47 : decode cX4_choose 47 = .ok (.getfield 21, 3) := by decide +kernel
theorem dX4_choose_50 : decode cX4_choose 50 = .ok (.idiv, 1) := by decide +kernel
theorem dX4_choose_51 : decode cX4_choose 51 = .ok (.goto 4, 3) := by decide +kernel
theorem dX4_choose_54 : decode cX4_choose 54 = .ok (.iconst 0, 1) := by decide +kernel
theorem dX4_choose_55 : decode cX4_choose 55 = .ok (.istore_n 2, 1) := by decide +kernel
theorem dX4_choose_56 : decode cX4_choose 56 = .ok (.iinc 3 (-1), 3) := by decide +kernel
theorem dX4_choose_59 : decode cX4_choose 59 = .ok (.goto (-50), 3) := by decide +kernel
theorem dX4_choose_62 : decode cX4_choose 62 = .ok (.return_, 1) := by decide +kernel
theorem dX4_digits_0 : decode cX4_digits 0 = .ok (.iconst 0, 1) := by decide +kernel
theorem dX4_digits_1 : decode cX4_digits 1 = .ok (.istore_n 1, 1) := by decide +kernel
theorem dX4_digits_2 : decode cX4_digits 2 = .ok (.iconst 0, 1) := by decide +kernel
theorem dX4_digits_3 : decode cX4_digits 3 = .ok (.istore_n 2, 1) := by decide +kernel
theorem dX4_digits_4 : decode cX4_digits 4 = .ok (.iload_n 2, 1) := by decide +kernel
theorem dX4_digits_5 : decode cX4_digits 5 = .ok (.aload_n 0, 1) := by decide +kernel
theorem dX4_digits_6 : decode cX4_digits 6 = .ok (.getfield 18, 3) := by decide +kernel
theorem dX4_digits_9 : decode cX4_digits 9 = .ok (.if_icmp .ge 23, 3) := by decide +kernel
theorem dX4_digits_12 : decode cX4_digits 12 = .ok (.iload_n 1, 1) := by decide +kernel
theorem dX4_digits_13 : decode cX4_digits 13 = .ok (.bipush 10, 2) := by decide +kernel
theorem dX4_digits_15 : decode cX4_digits 15 = .ok (.imul, 1) := by decide +kernel
theorem dX4_digits_16 : decode cX4_digits 16 = .ok (.aload_n 0, 1) := by decide +kernel
theorem dX4_digits_17 : decode cX4_digits 17 = .ok (.getfield 35, 3) := by decide +kernel
theorem dX4_digits_20 : decode cX4_digits 20 = .ok (.iload_n 2, 1) := by decide +kernel
theorem dX4_digits_21 : decode cX4_digits 21 = .ok (.invokevirtual 54, 3) := by decide +kernel
theorem dX4_digits_24 : decode cX4_digits 24 = .ok (.iadd, 1) := by decide +kernel
theorem dX4_digits_25 : decode cX4_digits 25 = .ok (.istore_n 1, 1) := by decide +kernel
theorem dX4_digits_26 : decode cX4_digits 26 = .ok (.iinc 2 1, 3) := by decide +kernel
theorem dX4_digits_29 : decode cX4_digits 29 = .ok (.goto (-25), 3) := by decide +kernel
theorem dX4_digits_32 : decode cX4_digits 32 = .ok (.iload_n 1, 1) := by decide +kernel
theorem dX4_digits_33 : decode cX4_digits 33 = .ok (.ireturn, 1) := by decide +kernel
theorem dX4_isRest_0 : decode cX4_isRest 0 = .ok (.iconst 0, 1) := by decide +kernel
theorem dX4_isRest_1 : decode cX4_isRest 1 = .ok (.istore_n 1, 1) := by decide +kernel
theorem dX4_isRest_2 : decode cX4_isRest 2 = .ok (.iload_n 1, 1) := by decide +kernel
theorem dX4_isRest_3 : decode cX4_isRest 3 = .ok (.aload_n 0, 1) := by decide +kernel
theorem dX4_isRest_4 : decode cX4_isRest 4 = .ok (.getfield 18, 3) := by decide +kernel
theorem dX4_isRest_7 : decode cX4_isRest 7 = .ok (.if_icmp .ge 19, 3) := by decide +kernel
theorem dX4_isRest_10 : decode cX4_isRest 10 = .ok (.aload_n 0, 1) := by decide +kernel
theorem dX4_isRest_11 : decode cX4_isRest 11 = .ok (.iload_n 1, 1) := by decide +kernel
theorem dX4_isRest_12 : decode cX4_isRest 12 = .ok (.invokevirtual 58, 3) := by decide +kernel
theorem dX4_isRest_15 : decode cX4_isRest 15 = .ok (.ifCond .eq 5, 3) := by decide +kernel
theorem dX4_isRest_18 : decode cX4_isRest 18 = .ok (.iconst 0, 1) := by decide +kernel
theorem dX4_isRest_19 : decode cX4_isRest 19 = .ok (.ireturn, 1) := by decide +kernel
theorem dX4_isRest_20 : decode cX4_isRest 20 = .ok (.iinc 1 1, 3) := by decide +kernel
theorem dX4_isRest_23 : decode cX4_isRest 23 = .ok (.goto (-21), 3) := by decide +kernel
theorem dX4_isRest_26 : decode cX4_isRest 26 = .ok (.iconst 1, 1) := by decide +kernel
theorem dX4_isRest_27 : decode cX4_isRest 27 = .ok (.ireturn, 1) := by decide +kernel
theorem dX4_wouldChange_0 : decode cX4_wouldChange 0 = .ok (.aload_n 0, 1) := by decide +kernel
theorem dX4_wouldChange_1 : decode cX4_wouldChange 1 = .ok (.getfield 35, 3) := by decide +kernel
theorem dX4_wouldChange_4 : decode cX4_wouldChange 4 = .ok (.iload_n 1, 1) := by decide +kernel
theorem dX4_wouldChange_5 : decode cX4_wouldChange 5 = .ok (.invokevirtual 54, 3) := by decide +kernel
theorem dX4_wouldChange_8 : decode cX4_wouldChange 8 = .ok (.istore_n 2, 1) := by decide +kernel
theorem dX4_wouldChange_9 : decode cX4_wouldChange 9 = .ok (.aload_n 0, 1) := by decide +kernel
theorem dX4_wouldChange_10 : decode cX4_wouldChange 10 = .ok (.iload_n 1, 1) := by decide +kernel
theorem dX4_wouldChange_11 : decode cX4_wouldChange 11 = .ok (.invokevirtual 62, 3) := by decide +kernel
theorem dX4_wouldChange_14 : decode cX4_wouldChange 14 = .ok (.istore_n 3, 1) := by decide +kernel
theorem dX4_wouldChange_15 : decode cX4_wouldChange 15 = .ok (.iconst 0, 1) := by decide +kernel
theorem dX4_wouldChange_16 : decode cX4_wouldChange 16 = .ok (.istore 4, 2) := by decide +kernel
theorem dX4_wouldChange_18 : decode cX4_wouldChange 18 = .ok (.iconst 0, 1) := by decide +kernel
theorem dX4_wouldChange_19 : decode cX4_wouldChange 19 = .ok (.istore 5, 2) := by decide +kernel
theorem dX4_wouldChange_21 : decode cX4_wouldChange 21 = .ok (.iload 5, 2) := by decide +kernel
theorem dX4_wouldChange_23 : decode cX4_wouldChange 23 = .ok (.aload_n 0, 1) := by decide +kernel
theorem dX4_wouldChange_24 : decode cX4_wouldChange 24 = .ok (.getfield 21, 3) := by decide +kernel
theorem dX4_wouldChange_27 : decode cX4_wouldChange 27 = .ok (.if_icmp .ge 31, 3) := by decide +kernel
theorem dX4_wouldChange_30 : decode cX4_wouldChange 30 = .ok (.aload_n 0, 1) := by decide +kernel
theorem dX4_wouldChange_31 : decode cX4_wouldChange 31 = .ok (.getfield 35, 3) := by decide +kernel
theorem dX4_wouldChange_34 : decode cX4_wouldChange 34 = .ok (.iload_n 1, 1) := by decide +kernel
theorem dX4_wouldChange_35 : decode cX4_wouldChange 35 = .ok (.iload 5, 2) := by decide +kernel
theorem dX4_wouldChange_37 : decode cX4_wouldChange 37 = .ok (.invokevirtual 50, 3) := by decide +kernel
theorem dX4_wouldChange_40 : decode cX4_wouldChange 40 = .ok (.aload_n 0, 1) := by decide +kernel
theorem dX4_wouldChange_41 : decode cX4_wouldChange 41 = .ok (.iload_n 1, 1) := by decide +kernel
theorem dX4_wouldChange_42 : decode cX4_wouldChange 42 = .ok (.invokevirtual 62, 3) := by decide +kernel
theorem dX4_wouldChange_45 : decode cX4_wouldChange 45 = .ok (.iload_n 3, 1) := by decide +kernel
theorem dX4_wouldChange_46 : decode cX4_wouldChange 46 = .ok (.if_icmp .le 6, 3) := by decide +kernel
theorem dX4_wouldChange_49 : decode cX4_wouldChange 49 = .ok (.iconst 1, 1) := by decide +kernel
theorem dX4_wouldChange_50 : decode cX4_wouldChange 50 = .ok (.istore 4, 2) := by decide +kernel
theorem dX4_wouldChange_52 : decode cX4_wouldChange 52 = .ok (.iinc 5 1, 3) := by decide +kernel
theorem dX4_wouldChange_55 : decode cX4_wouldChange 55 = .ok (.goto (-34), 3) := by decide +kernel
theorem dX4_wouldChange_58 : decode cX4_wouldChange 58 = .ok (.aload_n 0, 1) := by decide +kernel
theorem dX4_wouldChange_59 : decode cX4_wouldChange 59 = .ok (.getfield 35, 3) := by decide +kernel
theorem dX4_wouldChange_62 : decode cX4_wouldChange 62 = .ok (.iload_n 1, 1) := by decide +kernel
theorem dX4_wouldChange_63 : decode cX4_wouldChange 63 = .ok (.iload_n 2, 1) := by decide +kernel
theorem dX4_wouldChange_64 : decode cX4_wouldChange 64 = .ok (.invokevirtual 50, 3) := by decide +kernel
theorem dX4_wouldChange_67 : decode cX4_wouldChange 67 = .ok (.iload 4, 2) := by decide +kernel
theorem dX4_wouldChange_69 : decode cX4_wouldChange 69 = .ok (.ireturn, 1) := by decide +kernel
theorem dX4_gainOf_0 : decode cX4_gainOf 0 = .ok (.aload_n 0, 1) := by decide +kernel
theorem dX4_gainOf_1 : decode cX4_gainOf 1 = .ok (.getfield 35, 3) := by decide +kernel
theorem dX4_gainOf_4 : decode cX4_gainOf 4 = .ok (.iload_n 1, 1) := by decide +kernel
theorem dX4_gainOf_5 : decode cX4_gainOf 5 = .ok (.invokevirtual 54, 3) := by decide +kernel
theorem dX4_gainOf_8 : decode cX4_gainOf 8 = .ok (.istore_n 2, 1) := by decide +kernel
theorem dX4_gainOf_9 : decode cX4_gainOf 9 = .ok (.iconst 0, 1) := by decide +kernel
theorem dX4_gainOf_10 : decode cX4_gainOf 10 = .ok (.istore_n 3, 1) := by decide +kernel
theorem dX4_gainOf_11 : decode cX4_gainOf 11 = .ok (.iconst 0, 1) := by decide +kernel
theorem dX4_gainOf_12 : decode cX4_gainOf 12 = .ok (.istore 4, 2) := by decide +kernel
theorem dX4_gainOf_14 : decode cX4_gainOf 14 = .ok (.iload 4, 2) := by decide +kernel
theorem dX4_gainOf_16 : decode cX4_gainOf 16 = .ok (.aload_n 0, 1) := by decide +kernel
theorem dX4_gainOf_17 : decode cX4_gainOf 17 = .ok (.getfield 18, 3) := by decide +kernel
theorem dX4_gainOf_20 : decode cX4_gainOf 20 = .ok (.if_icmp .ge 55, 3) := by decide +kernel
theorem dX4_gainOf_23 : decode cX4_gainOf 23 = .ok (.aload_n 0, 1) := by decide +kernel
theorem dX4_gainOf_24 : decode cX4_gainOf 24 = .ok (.getfield 35, 3) := by decide +kernel
theorem dX4_gainOf_27 : decode cX4_gainOf 27 = .ok (.iload 4, 2) := by decide +kernel
theorem dX4_gainOf_29 : decode cX4_gainOf 29 = .ok (.invokevirtual 54, 3) := by decide +kernel
theorem dX4_gainOf_32 : decode cX4_gainOf 32 = .ok (.iload_n 2, 1) := by decide +kernel
theorem dX4_gainOf_33 : decode cX4_gainOf 33 = .ok (.if_icmp .ge 20, 3) := by decide +kernel
theorem dX4_gainOf_36 : decode cX4_gainOf 36 = .ok (.bipush (-12), 2) := by decide +kernel
theorem dX4_gainOf_38 : decode cX4_gainOf 38 = .ok (.aload_n 0, 1) := by decide +kernel
theorem dX4_gainOf_39 : decode cX4_gainOf 39 = .ok (.getfield 24, 3) := by decide +kernel
theorem dX4_gainOf_42 : decode cX4_gainOf 42 = .ok (.imul, 1) := by decide +kernel
theorem dX4_gainOf_43 : decode cX4_gainOf 43 = .ok (.aload_n 0, 1) := by decide +kernel
theorem dX4_gainOf_44 : decode cX4_gainOf 44 = .ok (.getfield 21, 3) := by decide +kernel
theorem dX4_gainOf_47 : decode cX4_gainOf 47 = .ok (.iconst 1, 1) := by decide +kernel
theorem dX4_gainOf_48 : decode cX4_gainOf 48 = .ok (.isub, 1) := by decide +kernel
theorem dX4_gainOf_49 : decode cX4_gainOf 49 = .ok (.iload_n 2, 1) := by decide +kernel
theorem dX4_gainOf_50 : decode cX4_gainOf 50 = .ok (.isub, 1) := by decide +kernel
theorem dX4_gainOf_51 : decode cX4_gainOf 51 = .ok (.imul, 1) := by decide +kernel
theorem dX4_gainOf_52 : decode cX4_gainOf 52 = .ok (.ireturn, 1) := by decide +kernel
theorem dX4_gainOf_53 : decode cX4_gainOf 53 = .ok (.aload_n 0, 1) := by decide +kernel
theorem dX4_gainOf_54 : decode cX4_gainOf 54 = .ok (.getfield 35, 3) := by decide +kernel
theorem dX4_gainOf_57 : decode cX4_gainOf 57 = .ok (.iload 4, 2) := by decide +kernel
theorem dX4_gainOf_59 : decode cX4_gainOf 59 = .ok (.invokevirtual 54, 3) := by decide +kernel
theorem dX4_gainOf_62 : decode cX4_gainOf 62 = .ok (.iload_n 2, 1) := by decide +kernel
theorem dX4_gainOf_63 : decode cX4_gainOf 63 = .ok (.if_icmp .ne 6, 3) := by decide +kernel
theorem dX4_gainOf_66 : decode cX4_gainOf 66 = .ok (.iinc 3 1, 3) := by decide +kernel
theorem dX4_gainOf_69 : decode cX4_gainOf 69 = .ok (.iinc 4 1, 3) := by decide +kernel
theorem dX4_gainOf_72 : decode cX4_gainOf 72 = .ok (.goto (-58), 3) := by decide +kernel
theorem dX4_gainOf_75 : decode cX4_gainOf 75 = .ok (.iload_n 3, 1) := by decide +kernel
theorem dX4_gainOf_76 : decode cX4_gainOf 76 = .ok (.ifCond .le 15, 3) := by decide +kernel
theorem dX4_gainOf_79 : decode cX4_gainOf 79 = .ok (.bipush 12, 2) := by decide +kernel
theorem dX4_gainOf_81 : decode cX4_gainOf 81 = .ok (.aload_n 0, 1) := by decide +kernel
theorem dX4_gainOf_82 : decode cX4_gainOf 82 = .ok (.getfield 27, 3) := by decide +kernel
theorem dX4_gainOf_85 : decode cX4_gainOf 85 = .ok (.imul, 1) := by decide +kernel
theorem dX4_gainOf_86 : decode cX4_gainOf 86 = .ok (.iload_n 3, 1) := by decide +kernel
theorem dX4_gainOf_87 : decode cX4_gainOf 87 = .ok (.idiv, 1) := by decide +kernel
theorem dX4_gainOf_88 : decode cX4_gainOf 88 = .ok (.goto 4, 3) := by decide +kernel
theorem dX4_gainOf_91 : decode cX4_gainOf 91 = .ok (.iconst 0, 1) := by decide +kernel
theorem dX4_gainOf_92 : decode cX4_gainOf 92 = .ok (.istore 4, 2) := by decide +kernel
theorem dX4_gainOf_94 : decode cX4_gainOf 94 = .ok (.iload 4, 2) := by decide +kernel
theorem dX4_gainOf_96 : decode cX4_gainOf 96 = .ok (.bipush 12, 2) := by decide +kernel
theorem dX4_gainOf_98 : decode cX4_gainOf 98 = .ok (.aload_n 0, 1) := by decide +kernel
theorem dX4_gainOf_99 : decode cX4_gainOf 99 = .ok (.getfield 24, 3) := by decide +kernel
theorem dX4_gainOf_102 : decode cX4_gainOf 102 = .ok (.imul, 1) := by decide +kernel
theorem dX4_gainOf_103 : decode cX4_gainOf 103 = .ok (.aload_n 0, 1) := by decide +kernel
theorem dX4_gainOf_104 : decode cX4_gainOf 104 = .ok (.getfield 21, 3) := by decide +kernel
theorem dX4_gainOf_107 : decode cX4_gainOf 107 = .ok (.iconst 1, 1) := by decide +kernel
theorem dX4_gainOf_108 : decode cX4_gainOf 108 = .ok (.isub, 1) := by decide +kernel
theorem dX4_gainOf_109 : decode cX4_gainOf 109 = .ok (.iload_n 2, 1) := by decide +kernel
theorem dX4_gainOf_110 : decode cX4_gainOf 110 = .ok (.isub, 1) := by decide +kernel
theorem dX4_gainOf_111 : decode cX4_gainOf 111 = .ok (.imul, 1) := by decide +kernel
theorem dX4_gainOf_112 : decode cX4_gainOf 112 = .ok (.isub, 1) := by decide +kernel
theorem dX4_gainOf_113 : decode cX4_gainOf 113 = .ok (.ireturn, 1) := by decide +kernel

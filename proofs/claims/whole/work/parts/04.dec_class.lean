theorem dX0_init_0 : decode cX0_init 0 = .ok (.aload_n 0, 1) := by decide +kernel
theorem dX0_init_1 : decode cX0_init 1 = .ok (.invokespecial 3, 3) := by decide +kernel
theorem dX0_init_4 : decode cX0_init 4 = .ok (.aload_n 0, 1) := by decide +kernel
theorem dX0_init_5 : decode cX0_init 5 = .ok (.iconst (-1), 1) := by decide +kernel
theorem dX0_init_6 : decode cX0_init 6 = .ok (.putfield 9, 3) := by decide +kernel
theorem dX0_init_9 : decode cX0_init 9 = .ok (.aload_n 0, 1) := by decide +kernel
theorem dX0_init_10 : decode cX0_init 10 = .ok (.iconst 4, 1) := by decide +kernel
theorem dX0_init_11 : decode cX0_init 11 = .ok (.newarray .int, 2) := by decide +kernel
theorem dX0_init_13 : decode cX0_init 13 = .ok (.putfield 15, 3) := by decide +kernel
theorem dX0_init_16 : decode cX0_init 16 = .ok (.aload_n 0, 1) := by decide +kernel
theorem dX0_init_17 : decode cX0_init 17 = .ok (.iconst 4, 1) := by decide +kernel
theorem dX0_init_18 : decode cX0_init 18 = .ok (.newarray .int, 2) := by decide +kernel
theorem dX0_init_20 : decode cX0_init 20 = .ok (.putfield 19, 3) := by decide +kernel
theorem dX0_init_23 : decode cX0_init 23 = .ok (.aload_n 0, 1) := by decide +kernel
theorem dX0_init_24 : decode cX0_init 24 = .ok (.bipush 13, 2) := by decide +kernel
theorem dX0_init_26 : decode cX0_init 26 = .ok (.newarray .long, 2) := by decide +kernel
theorem dX0_init_28 : decode cX0_init 28 = .ok (.putfield 24, 3) := by decide +kernel
theorem dX0_init_31 : decode cX0_init 31 = .ok (.return_, 1) := by decide +kernel
theorem dX0_spend_0 : decode cX0_spend 0 = .ok (.aload_n 1, 1) := by decide +kernel
theorem dX0_spend_1 : decode cX0_spend 1 = .ok (.getfield 28, 3) := by decide +kernel
theorem dX0_spend_4 : decode cX0_spend 4 = .ok (.getfield 34, 3) := by decide +kernel
theorem dX0_spend_7 : decode cX0_spend 7 = .ok (.istore_n 3, 1) := by decide +kernel
theorem dX0_spend_8 : decode cX0_spend 8 = .ok (.iconst 0, 1) := by decide +kernel
theorem dX0_spend_9 : decode cX0_spend 9 = .ok (.istore 4, 2) := by decide +kernel
theorem dX0_spend_11 : decode cX0_spend 11 = .ok (.iload 4, 2) := by decide +kernel
theorem dX0_spend_13 : decode cX0_spend 13 = .ok (.iload_n 3, 1) := by decide +kernel
theorem dX0_spend_14 : decode cX0_spend 14 = .ok (.if_icmp .ge 32, 3) := by decide +kernel
theorem dX0_spend_17 : decode cX0_spend 17 = .ok (.aload_n 0, 1) := by decide +kernel
theorem dX0_spend_18 : decode cX0_spend 18 = .ok (.getfield 15, 3) := by decide +kernel
theorem dX0_spend_21 : decode cX0_spend 21 = .ok (.iload 4, 2) := by decide +kernel
theorem dX0_spend_23 : decode cX0_spend 23 = .ok (.aload_n 0, 1) := by decide +kernel
theorem dX0_spend_24 : decode cX0_spend 24 = .ok (.aload_n 1, 1) := by decide +kernel
theorem dX0_spend_25 : decode cX0_spend 25 = .ok (.aload_n 2, 1) := by decide +kernel
theorem dX0_spend_26 : decode cX0_spend 26 = .ok (.iload 4, 2) := by decide +kernel
theorem dX0_spend_28 : decode cX0_spend 28 = .ok (.invokevirtual 39, 3) := by decide +kernel
theorem dX0_spend_31 : decode cX0_spend 31 = .ok (.iastore, 1) := by decide +kernel
theorem dX0_spend_32 : decode cX0_spend 32 = .ok (.aload_n 0, 1) := by decide +kernel
theorem dX0_spend_33 : decode cX0_spend 33 = .ok (.getfield 19, 3) := by decide +kernel
theorem dX0_spend_36 : decode cX0_spend 36 = .ok (.iload 4, 2) := by decide +kernel
theorem dX0_spend_38 : decode cX0_spend 38 = .ok (.iconst 0, 1) := by decide +kernel
theorem dX0_spend_39 : decode cX0_spend 39 = .ok (.iastore, 1) := by decide +kernel
theorem dX0_spend_40 : decode cX0_spend 40 = .ok (.iinc 4 1, 3) := by decide +kernel
theorem dX0_spend_43 : decode cX0_spend 43 = .ok (.goto (-32), 3) := by decide +kernel
theorem dX0_spend_46 : decode cX0_spend 46 = .ok (.iconst 0, 1) := by decide +kernel
theorem dX0_spend_47 : decode cX0_spend 47 = .ok (.istore 4, 2) := by decide +kernel
theorem dX0_spend_49 : decode cX0_spend 49 = .ok (.iload 4, 2) := by decide +kernel
theorem dX0_spend_51 : decode cX0_spend 51 = .ok (.iload_n 3, 1) := by decide +kernel
theorem dX0_spend_52 : decode cX0_spend 52 = .ok (.if_icmp .ge 36, 3) := by decide +kernel
theorem dX0_spend_55 : decode cX0_spend 55 = .ok (.aload_n 0, 1) := by decide +kernel
theorem dX0_spend_56 : decode cX0_spend 56 = .ok (.getfield 15, 3) := by decide +kernel
theorem dX0_spend_59 : decode cX0_spend 59 = .ok (.iload 4, 2) := by decide +kernel
theorem dX0_spend_61 : decode cX0_spend 61 = .ok (.iaload, 1) := by decide +kernel
theorem dX0_spend_62 : decode cX0_spend 62 = .ok (.ifCond .eq 20, 3) := by decide +kernel
theorem dX0_spend_65 : decode cX0_spend 65 = .ok (.aload_n 0, 1) := by decide +kernel
theorem dX0_spend_66 : decode cX0_spend 66 = .ok (.getfield 19, 3) := by decide +kernel
theorem dX0_spend_69 : decode cX0_spend 69 = .ok (.iload 4, 2) := by decide +kernel
theorem dX0_spend_71 : decode cX0_spend 71 = .ok (.iaload, 1) := by decide +kernel
theorem dX0_spend_72 : decode cX0_spend 72 = .ok (.ifCond .ne 10, 3) := by decide +kernel
theorem dX0_spend_75 : decode cX0_spend 75 = .ok (.aload_n 0, 1) := by decide +kernel
theorem dX0_spend_76 : decode cX0_spend 76 = .ok (.aload_n 1, 1) := by decide +kernel
theorem dX0_spend_77 : decode cX0_spend 77 = .ok (.iload 4, 2) := by decide +kernel
theorem dX0_spend_79 : decode cX0_spend 79 = .ok (.invokevirtual 43, 3) := by decide +kernel
theorem dX0_spend_82 : decode cX0_spend 82 = .ok (.iinc 4 1, 3) := by decide +kernel
theorem dX0_spend_85 : decode cX0_spend 85 = .ok (.goto (-36), 3) := by decide +kernel
theorem dX0_spend_88 : decode cX0_spend 88 = .ok (.aload_n 0, 1) := by decide +kernel
theorem dX0_spend_89 : decode cX0_spend 89 = .ok (.aload_n 1, 1) := by decide +kernel
theorem dX0_spend_90 : decode cX0_spend 90 = .ok (.invokevirtual 47, 3) := by decide +kernel
theorem dX0_spend_93 : decode cX0_spend 93 = .ok (.istore 4, 2) := by decide +kernel
theorem dX0_spend_95 : decode cX0_spend 95 = .ok (.iconst 0, 1) := by decide +kernel
theorem dX0_spend_96 : decode cX0_spend 96 = .ok (.istore 5, 2) := by decide +kernel
theorem dX0_spend_98 : decode cX0_spend 98 = .ok (.iload 5, 2) := by decide +kernel
theorem dX0_spend_100 : decode cX0_spend 100 = .ok (.iload_n 3, 1) := by decide +kernel
theorem dX0_spend_101 : decode cX0_spend 101 = .ok (.if_icmp .ge 30, 3) := by decide +kernel
theorem dX0_spend_104 : decode cX0_spend 104 = .ok (.aload_n 1, 1) := by decide +kernel
theorem dX0_spend_105 : decode cX0_spend 105 = .ok (.iload 5, 2) := by decide +kernel
theorem dX0_spend_107 : decode cX0_spend 107 = .ok (.invokevirtual 51, 3) := by decide +kernel
theorem dX0_spend_110 : decode cX0_spend 110 = .ok (.ifCond .ne 15, 3) := by decide +kernel
theorem dX0_spend_113 : decode cX0_spend 113 = .ok (.iload 4, 2) := by decide +kernel
theorem dX0_spend_115 : decode cX0_spend 115 = .ok (.aload_n 0, 1) := by decide +kernel
theorem dX0_spend_116 : decode cX0_spend 116 = .ok (.aload_n 1, 1) := by decide +kernel
theorem dX0_spend_117 : decode cX0_spend 117 = .ok (.iload 5, 2) := by decide +kernel
theorem dX0_spend_119 : decode cX0_spend 119 = .ok (.invokevirtual 55, 3) := by decide +kernel
theorem dX0_spend_122 : decode cX0_spend 122 = .ok (.iadd, 1) := by decide +kernel
theorem dX0_spend_123 : decode cX0_spend 123 = .ok (.istore 4, 2) := by decide +kernel
theorem dX0_spend_125 : decode cX0_spend 125 = .ok (.iinc 5 1, 3) := by decide +kernel
theorem dX0_spend_128 : decode cX0_spend 128 = .ok (.goto (-30), 3) := by decide +kernel
theorem dX0_spend_131 : decode cX0_spend 131 = .ok (.aload_n 1, 1) := by decide +kernel
theorem dX0_spend_132 : decode cX0_spend 132 = .ok (.dup, 1) := by decide +kernel
theorem dX0_spend_133 : decode cX0_spend 133 = .ok (.getfield 59, 3) := by decide +kernel
theorem dX0_spend_136 : decode cX0_spend 136 = .ok (.iconst 1, 1) := by decide +kernel
theorem dX0_spend_137 : decode cX0_spend 137 = .ok (.iadd, 1) := by decide +kernel
theorem dX0_spend_138 : decode cX0_spend 138 = .ok (.putfield 59, 3) := by decide +kernel
theorem dX0_spend_141 : decode cX0_spend 141 = .ok (.iload 4, 2) := by decide +kernel
theorem dX0_spend_143 : decode cX0_spend 143 = .ok (.ireturn, 1) := by decide +kernel
theorem dX0_willOf_0 : decode cX0_willOf 0 = .ok (.aload_n 1, 1) := by decide +kernel
theorem dX0_willOf_1 : decode cX0_willOf 1 = .ok (.iload_n 3, 1) := by decide +kernel
theorem dX0_willOf_2 : decode cX0_willOf 2 = .ok (.invokevirtual 51, 3) := by decide +kernel
theorem dX0_willOf_5 : decode cX0_willOf 5 = .ok (.ifCond .eq 5, 3) := by decide +kernel
theorem dX0_willOf_8 : decode cX0_willOf 8 = .ok (.iconst 0, 1) := by decide +kernel
theorem dX0_willOf_9 : decode cX0_willOf 9 = .ok (.ireturn, 1) := by decide +kernel
theorem dX0_willOf_10 : decode cX0_willOf 10 = .ok (.aload_n 2, 1) := by decide +kernel
theorem dX0_willOf_11 : decode cX0_willOf 11 = .ok (.ifnonnull 19, 3) := by decide +kernel
theorem dX0_willOf_14 : decode cX0_willOf 14 = .ok (.aload_n 1, 1) := by decide +kernel
theorem dX0_willOf_15 : decode cX0_willOf 15 = .ok (.getfield 62, 3) := by decide +kernel
theorem dX0_willOf_18 : decode cX0_willOf 18 = .ok (.iload_n 3, 1) := by decide +kernel
theorem dX0_willOf_19 : decode cX0_willOf 19 = .ok (.iaload, 1) := by decide +kernel
theorem dX0_willOf_20 : decode cX0_willOf 20 = .ok (.aload_n 1, 1) := by decide +kernel
theorem dX0_willOf_21 : decode cX0_willOf 21 = .ok (.getfield 65, 3) := by decide +kernel
theorem dX0_willOf_24 : decode cX0_willOf 24 = .ok (.iload_n 3, 1) := by decide +kernel
theorem dX0_willOf_25 : decode cX0_willOf 25 = .ok (.iaload, 1) := by decide +kernel
theorem dX0_willOf_26 : decode cX0_willOf 26 = .ok (.invokestatic 68, 3) := by decide +kernel
theorem dX0_willOf_29 : decode cX0_willOf 29 = .ok (.ireturn, 1) := by decide +kernel
theorem dX0_willOf_30 : decode cX0_willOf 30 = .ok (.aload_n 1, 1) := by decide +kernel
theorem dX0_willOf_31 : decode cX0_willOf 31 = .ok (.iload_n 3, 1) := by decide +kernel
theorem dX0_willOf_32 : decode cX0_willOf 32 = .ok (.aload_n 0, 1) := by decide +kernel
theorem dX0_willOf_33 : decode cX0_willOf 33 = .ok (.getfield 24, 3) := by decide +kernel
theorem dX0_willOf_36 : decode cX0_willOf 36 = .ok (.invokevirtual 74, 3) := by decide +kernel
theorem dX0_willOf_39 : decode cX0_willOf 39 = .ok (.aload_n 2, 1) := by decide +kernel
theorem dX0_willOf_40 : decode cX0_willOf 40 = .ok (.aload_n 0, 1) := by decide +kernel
theorem dX0_willOf_41 : decode cX0_willOf 41 = .ok (.getfield 24, 3) := by decide +kernel
theorem dX0_willOf_44 : decode cX0_willOf 44 = .ok (.invokevirtual 78, 3) := by decide +kernel
theorem dX0_willOf_47 : decode cX0_willOf 47 = .ok (.ireturn, 1) := by decide +kernel
theorem dX0_go_0 : decode cX0_go 0 = .ok (.aload_n 1, 1) := by decide +kernel
theorem dX0_go_1 : decode cX0_go 1 = .ok (.aload_n 1, 1) := by decide +kernel
theorem dX0_go_2 : decode cX0_go 2 = .ok (.getfield 65, 3) := by decide +kernel
theorem dX0_go_5 : decode cX0_go 5 = .ok (.iload_n 2, 1) := by decide +kernel
theorem dX0_go_6 : decode cX0_go 6 = .ok (.iaload, 1) := by decide +kernel
theorem dX0_go_7 : decode cX0_go 7 = .ok (.aload_n 0, 1) := by decide +kernel
theorem dX0_go_8 : decode cX0_go 8 = .ok (.getfield 15, 3) := by decide +kernel
theorem dX0_go_11 : decode cX0_go 11 = .ok (.iload_n 2, 1) := by decide +kernel
theorem dX0_go_12 : decode cX0_go 12 = .ok (.iaload, 1) := by decide +kernel
theorem dX0_go_13 : decode cX0_go 13 = .ok (.invokevirtual 82, 3) := by decide +kernel
theorem dX0_go_16 : decode cX0_go 16 = .ok (.istore_n 3, 1) := by decide +kernel
theorem dX0_go_17 : decode cX0_go 17 = .ok (.iload_n 3, 1) := by decide +kernel
theorem dX0_go_18 : decode cX0_go 18 = .ok (.iconst (-1), 1) := by decide +kernel
theorem dX0_go_19 : decode cX0_go 19 = .ok (.if_icmp .ne 4, 3) := by decide +kernel
theorem dX0_go_22 : decode cX0_go 22 = .ok (.return_, 1) := by decide +kernel
theorem dX0_go_23 : decode cX0_go 23 = .ok (.aload_n 1, 1) := by decide +kernel
theorem dX0_go_24 : decode cX0_go 24 = .ok (.iload_n 3, 1) := by decide +kernel
theorem dX0_go_25 : decode cX0_go 25 = .ok (.invokevirtual 85, 3) := by decide +kernel
theorem dX0_go_28 : decode cX0_go 28 = .ok (.ifCond .eq 18, 3) := by decide +kernel
theorem dX0_go_31 : decode cX0_go 31 = .ok (.aload_n 1, 1) := by decide +kernel
theorem dX0_go_32 : decode cX0_go 32 = .ok (.getfield 65, 3) := by decide +kernel
theorem dX0_go_35 : decode cX0_go 35 = .ok (.iload_n 2, 1) := by decide +kernel
theorem dX0_go_36 : decode cX0_go 36 = .ok (.iload_n 3, 1) := by decide +kernel
theorem dX0_go_37 : decode cX0_go 37 = .ok (.iastore, 1) := by decide +kernel
theorem dX0_go_38 : decode cX0_go 38 = .ok (.aload_n 0, 1) := by decide +kernel
theorem dX0_go_39 : decode cX0_go 39 = .ok (.getfield 19, 3) := by decide +kernel
theorem dX0_go_42 : decode cX0_go 42 = .ok (.iload_n 2, 1) := by decide +kernel
theorem dX0_go_43 : decode cX0_go 43 = .ok (.iconst 1, 1) := by decide +kernel
theorem dX0_go_44 : decode cX0_go 44 = .ok (.iastore, 1) := by decide +kernel
theorem dX0_go_45 : decode cX0_go 45 = .ok (.return_, 1) := by decide +kernel
theorem dX0_go_46 : decode cX0_go 46 = .ok (.aload_n 0, 1) := by decide +kernel
theorem dX0_go_47 : decode cX0_go 47 = .ok (.aload_n 1, 1) := by decide +kernel
theorem dX0_go_48 : decode cX0_go 48 = .ok (.iload_n 2, 1) := by decide +kernel
theorem dX0_go_49 : decode cX0_go 49 = .ok (.iload_n 3, 1) := by decide +kernel
theorem dX0_go_50 : decode cX0_go 50 = .ok (.invokevirtual 88, 3) := by decide +kernel
theorem dX0_go_53 : decode cX0_go 53 = .ok (.istore 4, 2) := by decide +kernel
theorem dX0_go_55 : decode cX0_go 55 = .ok (.iload 4, 2) := by decide +kernel
theorem dX0_go_57 : decode cX0_go 57 = .ok (.iconst (-1), 1) := by decide +kernel
theorem dX0_go_58 : decode cX0_go 58 = .ok (.if_icmp .eq 25, 3) := by decide +kernel
theorem dX0_go_61 : decode cX0_go 61 = .ok (.aload_n 1, 1) := by decide +kernel
theorem dX0_go_62 : decode cX0_go 62 = .ok (.iload_n 2, 1) := by decide +kernel
theorem dX0_go_63 : decode cX0_go 63 = .ok (.iload 4, 2) := by decide +kernel
theorem dX0_go_65 : decode cX0_go 65 = .ok (.invokevirtual 92, 3) := by decide +kernel
theorem dX0_go_68 : decode cX0_go 68 = .ok (.aload_n 0, 1) := by decide +kernel
theorem dX0_go_69 : decode cX0_go 69 = .ok (.getfield 19, 3) := by decide +kernel
theorem dX0_go_72 : decode cX0_go 72 = .ok (.iload_n 2, 1) := by decide +kernel
theorem dX0_go_73 : decode cX0_go 73 = .ok (.iconst 2, 1) := by decide +kernel
theorem dX0_go_74 : decode cX0_go 74 = .ok (.iastore, 1) := by decide +kernel
theorem dX0_go_75 : decode cX0_go 75 = .ok (.aload_n 0, 1) := by decide +kernel
theorem dX0_go_76 : decode cX0_go 76 = .ok (.getfield 19, 3) := by decide +kernel
theorem dX0_go_79 : decode cX0_go 79 = .ok (.iload 4, 2) := by decide +kernel
theorem dX0_go_81 : decode cX0_go 81 = .ok (.iconst 2, 1) := by decide +kernel
theorem dX0_go_82 : decode cX0_go 82 = .ok (.iastore, 1) := by decide +kernel
theorem dX0_go_83 : decode cX0_go 83 = .ok (.return_, 1) := by decide +kernel
theorem dX0_partner_0 : decode cX0_partner 0 = .ok (.iconst 0, 1) := by decide +kernel
theorem dX0_partner_1 : decode cX0_partner 1 = .ok (.istore 4, 2) := by decide +kernel
theorem dX0_partner_3 : decode cX0_partner 3 = .ok (.iload 4, 2) := by decide +kernel
theorem dX0_partner_5 : decode cX0_partner 5 = .ok (.aload_n 1, 1) := by decide +kernel
theorem dX0_partner_6 : decode cX0_partner 6 = .ok (.getfield 28, 3) := by decide +kernel
theorem dX0_partner_9 : decode cX0_partner 9 = .ok (.getfield 34, 3) := by decide +kernel
theorem dX0_partner_12 : decode cX0_partner 12 = .ok (.if_icmp .ge 76, 3) := by decide +kernel
theorem dX0_partner_15 : decode cX0_partner 15 = .ok (.aload_n 1, 1) := by decide +kernel
theorem dX0_partner_16 : decode cX0_partner 16 = .ok (.getfield 65, 3) := by decide +kernel
theorem dX0_partner_19 : decode cX0_partner 19 = .ok (.iload 4, 2) := by decide +kernel
theorem dX0_partner_21 : decode cX0_partner 21 = .ok (.iaload, 1) := by decide +kernel
theorem dX0_partner_22 : decode cX0_partner 22 = .ok (.iload_n 3, 1) := by decide +kernel
theorem dX0_partner_23 : decode cX0_partner 23 = .ok (.if_icmp .ne 27, 3) := by decide +kernel
theorem dX0_partner_26 : decode cX0_partner 26 = .ok (.aload_n 0, 1) := by decide +kernel
theorem dX0_partner_27 : decode cX0_partner 27 = .ok (.getfield 19, 3) := by decide +kernel
theorem dX0_partner_30 : decode cX0_partner 30 = .ok (.iload 4, 2) := by decide +kernel
theorem dX0_partner_32 : decode cX0_partner 32 = .ok (.iaload, 1) := by decide +kernel
theorem dX0_partner_33 : decode cX0_partner 33 = .ok (.ifCond .ne 17, 3) := by decide +kernel
theorem dX0_partner_36 : decode cX0_partner 36 = .ok (.aload_n 0, 1) := by decide +kernel
theorem dX0_partner_37 : decode cX0_partner 37 = .ok (.getfield 15, 3) := by decide +kernel
theorem dX0_partner_40 : decode cX0_partner 40 = .ok (.iload 4, 2) := by decide +kernel
theorem dX0_partner_42 : decode cX0_partner 42 = .ok (.iaload, 1) := by decide +kernel
theorem dX0_partner_43 : decode cX0_partner 43 = .ok (.ifCond .eq 7, 3) := by decide +kernel
theorem dX0_partner_46 : decode cX0_partner 46 = .ok (.iconst 1, 1) := by decide +kernel
theorem dX0_partner_47 : decode cX0_partner 47 = .ok (.goto 4, 3) := by decide +kernel
theorem dX0_partner_50 : decode cX0_partner 50 = .ok (.iconst 0, 1) := by decide +kernel
theorem dX0_partner_51 : decode cX0_partner 51 = .ok (.istore 5, 2) := by decide +kernel
theorem dX0_partner_53 : decode cX0_partner 53 = .ok (.iload 5, 2) := by decide +kernel
theorem dX0_partner_55 : decode cX0_partner 55 = .ok (.ifCond .eq 27, 3) := by decide +kernel
theorem dX0_partner_58 : decode cX0_partner 58 = .ok (.aload_n 1, 1) := by decide +kernel
theorem dX0_partner_59 : decode cX0_partner 59 = .ok (.iload_n 3, 1) := by decide +kernel
theorem dX0_partner_60 : decode cX0_partner 60 = .ok (.aload_n 0, 1) := by decide +kernel
theorem dX0_partner_61 : decode cX0_partner 61 = .ok (.getfield 15, 3) := by decide +kernel
theorem dX0_partner_64 : decode cX0_partner 64 = .ok (.iload 4, 2) := by decide +kernel
theorem dX0_partner_66 : decode cX0_partner 66 = .ok (.iaload, 1) := by decide +kernel
theorem dX0_partner_67 : decode cX0_partner 67 = .ok (.invokevirtual 82, 3) := by decide +kernel
theorem dX0_partner_70 : decode cX0_partner 70 = .ok (.aload_n 1, 1) := by decide +kernel
theorem dX0_partner_71 : decode cX0_partner 71 = .ok (.getfield 65, 3) := by decide +kernel
theorem dX0_partner_74 : decode cX0_partner 74 = .ok (.iload_n 2, 1) := by decide +kernel
theorem dX0_partner_75 : decode cX0_partner 75 = .ok (.iaload, 1) := by decide +kernel
theorem dX0_partner_76 : decode cX0_partner 76 = .ok (.if_icmp .ne 6, 3) := by decide +kernel
theorem dX0_partner_79 : decode cX0_partner 79 = .ok (.iload 4, 2) := by decide +kernel
theorem dX0_partner_81 : decode cX0_partner 81 = .ok (.ireturn, 1) := by decide +kernel
theorem dX0_partner_82 : decode cX0_partner 82 = .ok (.iinc 4 1, 3) := by decide +kernel
theorem dX0_partner_85 : decode cX0_partner 85 = .ok (.goto (-82), 3) := by decide +kernel
theorem dX0_partner_88 : decode cX0_partner 88 = .ok (.iconst (-1), 1) := by decide +kernel
theorem dX0_partner_89 : decode cX0_partner 89 = .ok (.ireturn, 1) := by decide +kernel
theorem dX0_wear_0 : decode cX0_wear 0 = .ok (.aload_n 1, 1) := by decide +kernel
theorem dX0_wear_1 : decode cX0_wear 1 = .ok (.getfield 28, 3) := by decide +kernel
theorem dX0_wear_4 : decode cX0_wear 4 = .ok (.astore_n 2, 1) := by decide +kernel
theorem dX0_wear_5 : decode cX0_wear 5 = .ok (.iconst 0, 1) := by decide +kernel
theorem dX0_wear_6 : decode cX0_wear 6 = .ok (.istore_n 3, 1) := by decide +kernel
theorem dX0_wear_7 : decode cX0_wear 7 = .ok (.iload_n 3, 1) := by decide +kernel
theorem dX0_wear_8 : decode cX0_wear 8 = .ok (.aload_n 2, 1) := by decide +kernel
theorem dX0_wear_9 : decode cX0_wear 9 = .ok (.getfield 96, 3) := by decide +kernel
theorem dX0_wear_12 : decode cX0_wear 12 = .ok (.if_icmp .ge 23, 3) := by decide +kernel
theorem dX0_wear_15 : decode cX0_wear 15 = .ok (.aload_n 1, 1) := by decide +kernel
theorem dX0_wear_16 : decode cX0_wear 16 = .ok (.getfield 99, 3) := by decide +kernel
theorem dX0_wear_19 : decode cX0_wear 19 = .ok (.iload_n 3, 1) := by decide +kernel
theorem dX0_wear_20 : decode cX0_wear 20 = .ok (.dup2, 1) := by decide +kernel
theorem dX0_wear_21 : decode cX0_wear 21 = .ok (.iaload, 1) := by decide +kernel
theorem dX0_wear_22 : decode cX0_wear 22 = .ok (.aload_n 1, 1) := by decide +kernel
theorem dX0_wear_23 : decode cX0_wear 23 = .ok (.iload_n 3, 1) := by decide +kernel
theorem dX0_wear_24 : decode cX0_wear 24 = .ok (.invokevirtual 102, 3) := by decide +kernel
theorem dX0_wear_27 : decode cX0_wear 27 = .ok (.iadd, 1) := by decide +kernel
theorem dX0_wear_28 : decode cX0_wear 28 = .ok (.iastore, 1) := by decide +kernel
theorem dX0_wear_29 : decode cX0_wear 29 = .ok (.iinc 3 1, 3) := by decide +kernel
theorem dX0_wear_32 : decode cX0_wear 32 = .ok (.goto (-25), 3) := by decide +kernel
theorem dX0_wear_35 : decode cX0_wear 35 = .ok (.aload_n 0, 1) := by decide +kernel
theorem dX0_wear_36 : decode cX0_wear 36 = .ok (.iconst (-1), 1) := by decide +kernel
theorem dX0_wear_37 : decode cX0_wear 37 = .ok (.putfield 9, 3) := by decide +kernel
theorem dX0_wear_40 : decode cX0_wear 40 = .ok (.iconst 0, 1) := by decide +kernel
theorem dX0_wear_41 : decode cX0_wear 41 = .ok (.istore_n 3, 1) := by decide +kernel
theorem dX0_wear_42 : decode cX0_wear 42 = .ok (.aload_n 2, 1) := by decide +kernel
theorem dX0_wear_43 : decode cX0_wear 43 = .ok (.getfield 96, 3) := by decide +kernel
theorem dX0_wear_46 : decode cX0_wear 46 = .ok (.iconst 1, 1) := by decide +kernel
theorem dX0_wear_47 : decode cX0_wear 47 = .ok (.isub, 1) := by decide +kernel
theorem dX0_wear_48 : decode cX0_wear 48 = .ok (.istore 4, 2) := by decide +kernel
theorem dX0_wear_50 : decode cX0_wear 50 = .ok (.iload 4, 2) := by decide +kernel
theorem dX0_wear_52 : decode cX0_wear 52 = .ok (.ifCond .lt 57, 3) := by decide +kernel
theorem dX0_wear_55 : decode cX0_wear 55 = .ok (.aload_n 1, 1) := by decide +kernel
theorem dX0_wear_56 : decode cX0_wear 56 = .ok (.iload 4, 2) := by decide +kernel
theorem dX0_wear_58 : decode cX0_wear 58 = .ok (.invokevirtual 106, 3) := by decide +kernel
theorem dX0_wear_61 : decode cX0_wear 61 = .ok (.ifCond .ne 42, 3) := by decide +kernel
theorem dX0_wear_64 : decode cX0_wear 64 = .ok (.aload_n 1, 1) := by decide +kernel
theorem dX0_wear_65 : decode cX0_wear 65 = .ok (.getfield 99, 3) := by decide +kernel
theorem dX0_wear_68 : decode cX0_wear 68 = .ok (.iload 4, 2) := by decide +kernel
theorem dX0_wear_70 : decode cX0_wear 70 = .ok (.iaload, 1) := by decide +kernel
theorem dX0_wear_71 : decode cX0_wear 71 = .ok (.aload_n 2, 1) := by decide +kernel
theorem dX0_wear_72 : decode cX0_wear 72 = .ok (.getfield 109, 3) := by decide +kernel
theorem dX0_wear_75 : decode cX0_wear 75 = .ok (.iload 4, 2) := by decide +kernel
theorem dX0_wear_77 : decode cX0_wear 77 = .ok (.iaload, 1) := by decide +kernel
theorem dX0_wear_78 : decode cX0_wear 78 = .ok (.if_icmp .lt 25, 3) := by decide +kernel
theorem dX0_wear_81 : decode cX0_wear 81 = .ok (.iload_n 3, 1) := by decide +kernel
theorem dX0_wear_82 : decode cX0_wear 82 = .ok (.aload_n 1, 1) := by decide +kernel
theorem dX0_wear_83 : decode cX0_wear 83 = .ok (.iload 4, 2) := by decide +kernel
theorem dX0_wear_85 : decode cX0_wear 85 = .ok (.invokevirtual 112, 3) := by decide +kernel
theorem dX0_wear_88 : decode cX0_wear 88 = .ok (.iadd, 1) := by decide +kernel
theorem dX0_wear_89 : decode cX0_wear 89 = .ok (.istore_n 3, 1) := by decide +kernel
theorem dX0_wear_90 : decode cX0_wear 90 = .ok (.aload_n 0, 1) := by decide +kernel
theorem dX0_wear_91 : decode cX0_wear 91 = .ok (.aload_n 0, 1) := by decide +kernel
theorem dX0_wear_92 : decode cX0_wear 92 = .ok (.getfield 9, 3) := by decide +kernel
theorem dX0_wear_95 : decode cX0_wear 95 = .ok (.iload 4, 2) := by decide +kernel
theorem dX0_wear_97 : decode cX0_wear 97 = .ok (.invokestatic 115, 3) := by decide +kernel
theorem dX0_wear_100 : decode cX0_wear 100 = .ok (.putfield 9, 3) := by decide +kernel
theorem dX0_wear_103 : decode cX0_wear 103 = .ok (.iinc 4 (-1), 3) := by decide +kernel
theorem dX0_wear_106 : decode cX0_wear 106 = .ok (.goto (-56), 3) := by decide +kernel
theorem dX0_wear_109 : decode cX0_wear 109 = .ok (.iload_n 3, 1) := by decide +kernel
theorem dX0_wear_110 : decode cX0_wear 110 = .ok (.ireturn, 1) := by decide +kernel
theorem dX0_tire_0 : decode cX0_tire 0 = .ok (.aload_n 1, 1) := by decide +kernel
theorem dX0_tire_1 : decode cX0_tire 1 = .ok (.getfield 28, 3) := by decide +kernel
theorem dX0_tire_4 : decode cX0_tire 4 = .ok (.getfield 120, 3) := by decide +kernel
theorem dX0_tire_7 : decode cX0_tire 7 = .ok (.iload_n 2, 1) := by decide +kernel
theorem dX0_tire_8 : decode cX0_tire 8 = .ok (.iaload, 1) := by decide +kernel
theorem dX0_tire_9 : decode cX0_tire 9 = .ok (.istore_n 3, 1) := by decide +kernel
theorem dX0_tire_10 : decode cX0_tire 10 = .ok (.aload_n 1, 1) := by decide +kernel
theorem dX0_tire_11 : decode cX0_tire 11 = .ok (.getfield 123, 3) := by decide +kernel
theorem dX0_tire_14 : decode cX0_tire 14 = .ok (.iload_n 2, 1) := by decide +kernel
theorem dX0_tire_15 : decode cX0_tire 15 = .ok (.iaload, 1) := by decide +kernel
theorem dX0_tire_16 : decode cX0_tire 16 = .ok (.istore 4, 2) := by decide +kernel
theorem dX0_tire_18 : decode cX0_tire 18 = .ok (.aload_n 0, 1) := by decide +kernel
theorem dX0_tire_19 : decode cX0_tire 19 = .ok (.getfield 19, 3) := by decide +kernel
theorem dX0_tire_22 : decode cX0_tire 22 = .ok (.iload_n 2, 1) := by decide +kernel
theorem dX0_tire_23 : decode cX0_tire 23 = .ok (.iaload, 1) := by decide +kernel
theorem dX0_tire_24 : decode cX0_tire 24 = .ok (.lookupswitch 40 #[(1, 28), (2, 34)], 28) := by decide +kernel
theorem dX0_tire_52 : decode cX0_tire 52 = .ok (.iinc 4 (-1), 3) := by decide +kernel
theorem dX0_tire_55 : decode cX0_tire 55 = .ok (.goto 19, 3) := by decide +kernel
theorem dX0_tire_58 : decode cX0_tire 58 = .ok (.iinc 4 (-3), 3) := by decide +kernel
theorem dX0_tire_61 : decode cX0_tire 61 = .ok (.goto 13, 3) := by decide +kernel
theorem dX0_tire_64 : decode cX0_tire 64 = .ok (.iload_n 3, 1) := by decide +kernel
theorem dX0_tire_65 : decode cX0_tire 65 = .ok (.iload 4, 2) := by decide +kernel
theorem dX0_tire_67 : decode cX0_tire 67 = .ok (.iconst 1, 1) := by decide +kernel
theorem dX0_tire_68 : decode cX0_tire 68 = .ok (.iadd, 1) := by decide +kernel
theorem dX0_tire_69 : decode cX0_tire 69 = .ok (.invokestatic 126, 3) := by decide +kernel
theorem dX0_tire_72 : decode cX0_tire 72 = .ok (.istore 4, 2) := by decide +kernel
theorem dX0_tire_74 : decode cX0_tire 74 = .ok (.iload 4, 2) := by decide +kernel
theorem dX0_tire_76 : decode cX0_tire 76 = .ok (.ifCond .le 13, 3) := by decide +kernel
theorem dX0_tire_79 : decode cX0_tire 79 = .ok (.aload_n 1, 1) := by decide +kernel
theorem dX0_tire_80 : decode cX0_tire 80 = .ok (.getfield 123, 3) := by decide +kernel
theorem dX0_tire_83 : decode cX0_tire 83 = .ok (.iload_n 2, 1) := by decide +kernel
theorem dX0_tire_84 : decode cX0_tire 84 = .ok (.iload 4, 2) := by decide +kernel
theorem dX0_tire_86 : decode cX0_tire 86 = .ok (.iastore, 1) := by decide +kernel
theorem dX0_tire_87 : decode cX0_tire 87 = .ok (.iconst 0, 1) := by decide +kernel
theorem dX0_tire_88 : decode cX0_tire 88 = .ok (.ireturn, 1) := by decide +kernel
theorem dX0_tire_89 : decode cX0_tire 89 = .ok (.aload_n 1, 1) := by decide +kernel
theorem dX0_tire_90 : decode cX0_tire 90 = .ok (.iload_n 2, 1) := by decide +kernel
theorem dX0_tire_91 : decode cX0_tire 91 = .ok (.invokevirtual 129, 3) := by decide +kernel
theorem dX0_tire_94 : decode cX0_tire 94 = .ok (.aload_n 1, 1) := by decide +kernel
theorem dX0_tire_95 : decode cX0_tire 95 = .ok (.getfield 123, 3) := by decide +kernel
theorem dX0_tire_98 : decode cX0_tire 98 = .ok (.iload_n 2, 1) := by decide +kernel
theorem dX0_tire_99 : decode cX0_tire 99 = .ok (.iconst 1, 1) := by decide +kernel
theorem dX0_tire_100 : decode cX0_tire 100 = .ok (.iload_n 3, 1) := by decide +kernel
theorem dX0_tire_101 : decode cX0_tire 101 = .ok (.iconst 2, 1) := by decide +kernel
theorem dX0_tire_102 : decode cX0_tire 102 = .ok (.idiv, 1) := by decide +kernel
theorem dX0_tire_103 : decode cX0_tire 103 = .ok (.invokestatic 115, 3) := by decide +kernel
theorem dX0_tire_106 : decode cX0_tire 106 = .ok (.iastore, 1) := by decide +kernel
theorem dX0_tire_107 : decode cX0_tire 107 = .ok (.iconst 1, 1) := by decide +kernel
theorem dX0_tire_108 : decode cX0_tire 108 = .ok (.ireturn, 1) := by decide +kernel
theorem dX1_init_0 : decode cX1_init 0 = .ok (.aload_n 0, 1) := by decide +kernel
theorem dX1_init_1 : decode cX1_init 1 = .ok (.invokespecial 3, 3) := by decide +kernel
theorem dX1_init_4 : decode cX1_init 4 = .ok (.aload_n 0, 1) := by decide +kernel
theorem dX1_init_5 : decode cX1_init 5 = .ok (.bipush 9, 2) := by decide +kernel
theorem dX1_init_7 : decode cX1_init 7 = .ok (.newarray .int, 2) := by decide +kernel
theorem dX1_init_9 : decode cX1_init 9 = .ok (.putfield 9, 3) := by decide +kernel
theorem dX1_init_12 : decode cX1_init 12 = .ok (.aload_n 0, 1) := by decide +kernel
theorem dX1_init_13 : decode cX1_init 13 = .ok (.bipush 9, 2) := by decide +kernel
theorem dX1_init_15 : decode cX1_init 15 = .ok (.newarray .int, 2) := by decide +kernel
theorem dX1_init_17 : decode cX1_init 17 = .ok (.putfield 15, 3) := by decide +kernel
theorem dX1_init_20 : decode cX1_init 20 = .ok (.aload_n 0, 1) := by decide +kernel
theorem dX1_init_21 : decode cX1_init 21 = .ok (.iconst 4, 1) := by decide +kernel
theorem dX1_init_22 : decode cX1_init 22 = .ok (.newarray .int, 2) := by decide +kernel
theorem dX1_init_24 : decode cX1_init 24 = .ok (.putfield 18, 3) := by decide +kernel
theorem dX1_init_27 : decode cX1_init 27 = .ok (.aload_n 0, 1) := by decide +kernel
theorem dX1_init_28 : decode cX1_init 28 = .ok (.iconst 4, 1) := by decide +kernel
theorem dX1_init_29 : decode cX1_init 29 = .ok (.newarray .int, 2) := by decide +kernel
theorem dX1_init_31 : decode cX1_init 31 = .ok (.putfield 21, 3) := by decide +kernel
theorem dX1_init_34 : decode cX1_init 34 = .ok (.aload_n 0, 1) := by decide +kernel
theorem dX1_init_35 : decode cX1_init 35 = .ok (.iconst 4, 1) := by decide +kernel
theorem dX1_init_36 : decode cX1_init 36 = .ok (.newarray .int, 2) := by decide +kernel
theorem dX1_init_38 : decode cX1_init 38 = .ok (.putfield 24, 3) := by decide +kernel
theorem dX1_init_41 : decode cX1_init 41 = .ok (.aload_n 0, 1) := by decide +kernel
theorem dX1_init_42 : decode cX1_init 42 = .ok (.iconst 4, 1) := by decide +kernel
theorem dX1_init_43 : decode cX1_init 43 = .ok (.newarray .int, 2) := by decide +kernel
theorem dX1_init_45 : decode cX1_init 45 = .ok (.putfield 27, 3) := by decide +kernel
theorem dX1_init_48 : decode cX1_init 48 = .ok (.aload_n 0, 1) := by decide +kernel
theorem dX1_init_49 : decode cX1_init 49 = .ok (.getfield 9, 3) := by decide +kernel
theorem dX1_init_52 : decode cX1_init 52 = .ok (.iconst 2, 1) := by decide +kernel
theorem dX1_init_53 : decode cX1_init 53 = .ok (.invokestatic 30, 3) := by decide +kernel
theorem dX1_init_56 : decode cX1_init 56 = .ok (.aload_n 0, 1) := by decide +kernel
theorem dX1_init_57 : decode cX1_init 57 = .ok (.getfield 15, 3) := by decide +kernel
theorem dX1_init_60 : decode cX1_init 60 = .ok (.sipush 200, 3) := by decide +kernel
theorem dX1_init_63 : decode cX1_init 63 = .ok (.invokestatic 30, 3) := by decide +kernel
theorem dX1_init_66 : decode cX1_init 66 = .ok (.return_, 1) := by decide +kernel
theorem dX1_crowdAtStart_0 : decode cX1_crowdAtStart 0 = .ok (.iconst 0, 1) := by decide +kernel
theorem dX1_crowdAtStart_1 : decode cX1_crowdAtStart 1 = .ok (.istore_n 2, 1) := by decide +kernel
theorem dX1_crowdAtStart_2 : decode cX1_crowdAtStart 2 = .ok (.iconst 0, 1) := by decide +kernel
theorem dX1_crowdAtStart_3 : decode cX1_crowdAtStart 3 = .ok (.istore_n 3, 1) := by decide +kernel
theorem dX1_crowdAtStart_4 : decode cX1_crowdAtStart 4 = .ok (.iload_n 3, 1) := by decide +kernel
theorem dX1_crowdAtStart_5 : decode cX1_crowdAtStart 5 = .ok (.aload_n 0, 1) := by decide +kernel
theorem dX1_crowdAtStart_6 : decode cX1_crowdAtStart 6 = .ok (.getfield 36, 3) := by decide +kernel
theorem dX1_crowdAtStart_9 : decode cX1_crowdAtStart 9 = .ok (.if_icmp .ge 22, 3) := by decide +kernel
theorem dX1_crowdAtStart_12 : decode cX1_crowdAtStart 12 = .ok (.aload_n 0, 1) := by decide +kernel
theorem dX1_crowdAtStart_13 : decode cX1_crowdAtStart 13 = .ok (.getfield 24, 3) := by decide +kernel
theorem dX1_crowdAtStart_16 : decode cX1_crowdAtStart 16 = .ok (.iload_n 3, 1) := by decide +kernel
theorem dX1_crowdAtStart_17 : decode cX1_crowdAtStart 17 = .ok (.iaload, 1) := by decide +kernel
theorem dX1_crowdAtStart_18 : decode cX1_crowdAtStart 18 = .ok (.iload_n 1, 1) := by decide +kernel
theorem dX1_crowdAtStart_19 : decode cX1_crowdAtStart 19 = .ok (.if_icmp .ne 6, 3) := by decide +kernel
theorem dX1_crowdAtStart_22 : decode cX1_crowdAtStart 22 = .ok (.iinc 2 1, 3) := by decide +kernel
theorem dX1_crowdAtStart_25 : decode cX1_crowdAtStart 25 = .ok (.iinc 3 1, 3) := by decide +kernel
theorem dX1_crowdAtStart_28 : decode cX1_crowdAtStart 28 = .ok (.goto (-24), 3) := by decide +kernel
theorem dX1_crowdAtStart_31 : decode cX1_crowdAtStart 31 = .ok (.iload_n 2, 1) := by decide +kernel
theorem dX1_crowdAtStart_32 : decode cX1_crowdAtStart 32 = .ok (.ireturn, 1) := by decide +kernel
theorem dX1_takesPerson_0 : decode cX1_takesPerson 0 = .ok (.aload_n 0, 1) := by decide +kernel
theorem dX1_takesPerson_1 : decode cX1_takesPerson 1 = .ok (.getfield 40, 3) := by decide +kernel
theorem dX1_takesPerson_4 : decode cX1_takesPerson 4 = .ok (.iload_n 1, 1) := by decide +kernel
theorem dX1_takesPerson_5 : decode cX1_takesPerson 5 = .ok (.ishr, 1) := by decide +kernel
theorem dX1_takesPerson_6 : decode cX1_takesPerson 6 = .ok (.iconst 1, 1) := by decide +kernel
theorem dX1_takesPerson_7 : decode cX1_takesPerson 7 = .ok (.iand, 1) := by decide +kernel
theorem dX1_takesPerson_8 : decode cX1_takesPerson 8 = .ok (.ifCond .ne 21, 3) := by decide +kernel
theorem dX1_takesPerson_11 : decode cX1_takesPerson 11 = .ok (.aload_n 0, 1) := by decide +kernel
theorem dX1_takesPerson_12 : decode cX1_takesPerson 12 = .ok (.iload_n 1, 1) := by decide +kernel
theorem dX1_takesPerson_13 : decode cX1_takesPerson 13 = .ok (.invokevirtual 43, 3) := by decide +kernel
theorem dX1_takesPerson_16 : decode cX1_takesPerson 16 = .ok (.aload_n 0, 1) := by decide +kernel
theorem dX1_takesPerson_17 : decode cX1_takesPerson 17 = .ok (.getfield 9, 3) := by decide +kernel
theorem dX1_takesPerson_20 : decode cX1_takesPerson 20 = .ok (.iload_n 1, 1) := by decide +kernel
theorem dX1_takesPerson_21 : decode cX1_takesPerson 21 = .ok (.iaload, 1) := by decide +kernel
theorem dX1_takesPerson_22 : decode cX1_takesPerson 22 = .ok (.if_icmp .ge 7, 3) := by decide +kernel
theorem dX1_takesPerson_25 : decode cX1_takesPerson 25 = .ok (.iconst 1, 1) := by decide +kernel
theorem dX1_takesPerson_26 : decode cX1_takesPerson 26 = .ok (.goto 4, 3) := by decide +kernel
theorem dX1_takesPerson_29 : decode cX1_takesPerson 29 = .ok (.iconst 0, 1) := by decide +kernel
theorem dX1_takesPerson_30 : decode cX1_takesPerson 30 = .ok (.ireturn, 1) := by decide +kernel
theorem dX2_init_0 : decode cX2_init 0 = .ok (.aload_n 0, 1) := by decide +kernel
theorem dX2_init_1 : decode cX2_init 1 = .ok (.invokespecial 3, 3) := by decide +kernel
theorem dX2_init_4 : decode cX2_init 4 = .ok (.aload_n 0, 1) := by decide +kernel
theorem dX2_init_5 : decode cX2_init 5 = .ok (.aload_n 1, 1) := by decide +kernel
theorem dX2_init_6 : decode cX2_init 6 = .ok (.putfield 9, 3) := by decide +kernel
theorem dX2_init_9 : decode cX2_init 9 = .ok (.return_, 1) := by decide +kernel
theorem dX2_readInto_0 : decode cX2_readInto 0 = .ok (.aload_n 0, 1) := by decide +kernel
theorem dX2_readInto_1 : decode cX2_readInto 1 = .ok (.getfield 9, 3) := by decide +kernel
theorem dX2_readInto_4 : decode cX2_readInto 4 = .ok (.invokevirtual 15, 3) := by decide +kernel
theorem dX2_readInto_7 : decode cX2_readInto 7 = .ok (.iconst 0, 1) := by decide +kernel
theorem dX2_readInto_8 : decode cX2_readInto 8 = .ok (.istore_n 2, 1) := by decide +kernel
theorem dX2_readInto_9 : decode cX2_readInto 9 = .ok (.iload_n 2, 1) := by decide +kernel
theorem dX2_readInto_10 : decode cX2_readInto 10 = .ok (.bipush 40, 2) := by decide +kernel
theorem dX2_readInto_12 : decode cX2_readInto 12 = .ok (.if_icmp .gt 60, 3) := by decide +kernel
theorem dX2_readInto_15 : decode cX2_readInto 15 = .ok (.aload_n 0, 1) := by decide +kernel
theorem dX2_readInto_16 : decode cX2_readInto 16 = .ok (.aload_n 1, 1) := by decide +kernel
theorem dX2_readInto_17 : decode cX2_readInto 17 = .ok (.iload_n 2, 1) := by decide +kernel
theorem dX2_readInto_18 : decode cX2_readInto 18 = .ok (.invokevirtual 20, 3) := by decide +kernel
theorem dX2_readInto_21 : decode cX2_readInto 21 = .ok (.ifCond .ne 5, 3) := by decide +kernel
theorem dX2_readInto_24 : decode cX2_readInto 24 = .ok (.iconst 0, 1) := by decide +kernel
theorem dX2_readInto_25 : decode cX2_readInto 25 = .ok (.ireturn, 1) := by decide +kernel
theorem dX2_readInto_26 : decode cX2_readInto 26 = .ok (.aload_n 0, 1) := by decide +kernel
theorem dX2_readInto_27 : decode cX2_readInto 27 = .ok (.getfield 9, 3) := by decide +kernel
theorem dX2_readInto_30 : decode cX2_readInto 30 = .ok (.getfield 24, 3) := by decide +kernel
theorem dX2_readInto_33 : decode cX2_readInto 33 = .ok (.ifCond .ne 5, 3) := by decide +kernel
theorem dX2_readInto_36 : decode cX2_readInto 36 = .ok (.iconst 1, 1) := by decide +kernel
theorem dX2_readInto_37 : decode cX2_readInto 37 = .ok (.ireturn, 1) := by decide +kernel
theorem dX2_readInto_38 : decode cX2_readInto 38 = .ok (.aload_n 0, 1) := by decide +kernel
theorem dX2_readInto_39 : decode cX2_readInto 39 = .ok (.getfield 9, 3) := by decide +kernel
theorem dX2_readInto_42 : decode cX2_readInto 42 = .ok (.bipush 59, 2) := by decide +kernel
theorem dX2_readInto_44 : decode cX2_readInto 44 = .ok (.invokevirtual 28, 3) := by decide +kernel
theorem dX2_readInto_47 : decode cX2_readInto 47 = .ok (.ifCond .ne 12, 3) := by decide +kernel
theorem dX2_readInto_50 : decode cX2_readInto 50 = .ok (.aload_n 0, 1) := by decide +kernel
theorem dX2_readInto_51 : decode cX2_readInto 51 = .ok (.getfield 9, 3) := by decide +kernel
theorem dX2_readInto_54 : decode cX2_readInto 54 = .ok (.iconst 0, 1) := by decide +kernel
theorem dX2_readInto_55 : decode cX2_readInto 55 = .ok (.invokevirtual 32, 3) := by decide +kernel
theorem dX2_readInto_58 : decode cX2_readInto 58 = .ok (.ireturn, 1) := by decide +kernel
theorem dX2_readInto_59 : decode cX2_readInto 59 = .ok (.aload_n 0, 1) := by decide +kernel
theorem dX2_readInto_60 : decode cX2_readInto 60 = .ok (.getfield 9, 3) := by decide +kernel
theorem dX2_readInto_63 : decode cX2_readInto 63 = .ok (.invokevirtual 36, 3) := by decide +kernel
theorem dX2_readInto_66 : decode cX2_readInto 66 = .ok (.iinc 2 1, 3) := by decide +kernel
theorem dX2_readInto_69 : decode cX2_readInto 69 = .ok (.goto (-60), 3) := by decide +kernel
theorem dX2_readInto_72 : decode cX2_readInto 72 = .ok (.iconst 0, 1) := by decide +kernel
theorem dX2_readInto_73 : decode cX2_readInto 73 = .ok (.ireturn, 1) := by decide +kernel
theorem dX2_readClause_0 : decode cX2_readClause 0 = .ok (.aload_n 0, 1) := by decide +kernel
theorem dX2_readClause_1 : decode cX2_readClause 1 = .ok (.getfield 9, 3) := by decide +kernel
theorem dX2_readClause_4 : decode cX2_readClause 4 = .ok (.ldc 39, 2) := by decide +kernel
theorem dX2_readClause_6 : decode cX2_readClause 6 = .ok (.invokevirtual 41, 3) := by decide +kernel
theorem dX2_readClause_9 : decode cX2_readClause 9 = .ok (.istore_n 3, 1) := by decide +kernel
theorem dX2_readClause_10 : decode cX2_readClause 10 = .ok (.iload_n 3, 1) := by decide +kernel
theorem dX2_readClause_11 : decode cX2_readClause 11 = .ok (.iconst (-1), 1) := by decide +kernel
theorem dX2_readClause_12 : decode cX2_readClause 12 = .ok (.if_icmp .ne 12, 3) := by decide +kernel
theorem dX2_readClause_15 : decode cX2_readClause 15 = .ok (.aload_n 0, 1) := by decide +kernel
theorem dX2_readClause_16 : decode cX2_readClause 16 = .ok (.getfield 9, 3) := by decide +kernel
theorem dX2_readClause_19 : decode cX2_readClause 19 = .ok (.iconst 0, 1) := by decide +kernel
theorem dX2_readClause_20 : decode cX2_readClause 20 = .ok (.invokevirtual 32, 3) := by decide +kernel
theorem dX2_readClause_23 : decode cX2_readClause 23 = .ok (.ireturn, 1) := by decide +kernel
theorem dX2_readClause_24 : decode cX2_readClause 24 = .ok (.iload_n 2, 1) := by decide +kernel
theorem dX2_readClause_25 : decode cX2_readClause 25 = .ok (.bipush 40, 2) := by decide +kernel
theorem dX2_readClause_27 : decode cX2_readClause 27 = .ok (.if_icmp .ge 24, 3) := by decide +kernel
theorem dX2_readClause_30 : decode cX2_readClause 30 = .ok (.iload_n 2, 1) := by decide +kernel
theorem dX2_readClause_31 : decode cX2_readClause 31 = .ok (.ifCond .ne 7, 3) := by decide +kernel
theorem dX2_readClause_34 : decode cX2_readClause 34 = .ok (.iconst 1, 1) := by decide +kernel
theorem dX2_readClause_35 : decode cX2_readClause 35 = .ok (.goto 4, 3) := by decide +kernel
theorem dX2_readClause_38 : decode cX2_readClause 38 = .ok (.iconst 0, 1) := by decide +kernel
theorem dX2_readClause_39 : decode cX2_readClause 39 = .ok (.iload_n 3, 1) := by decide +kernel
theorem dX2_readClause_40 : decode cX2_readClause 40 = .ok (.ifCond .ne 7, 3) := by decide +kernel
theorem dX2_readClause_43 : decode cX2_readClause 43 = .ok (.iconst 1, 1) := by decide +kernel
theorem dX2_readClause_44 : decode cX2_readClause 44 = .ok (.goto 4, 3) := by decide +kernel
theorem dX2_readClause_47 : decode cX2_readClause 47 = .ok (.iconst 0, 1) := by decide +kernel
theorem dX2_readClause_48 : decode cX2_readClause 48 = .ok (.if_icmp .eq 12, 3) := by decide +kernel
theorem dX2_readClause_51 : decode cX2_readClause 51 = .ok (.aload_n 0, 1) := by decide +kernel
theorem dX2_readClause_52 : decode cX2_readClause 52 = .ok (.getfield 9, 3) := by decide +kernel
theorem dX2_readClause_55 : decode cX2_readClause 55 = .ok (.iconst 4, 1) := by decide +kernel
theorem dX2_readClause_56 : decode cX2_readClause 56 = .ok (.invokevirtual 32, 3) := by decide +kernel
theorem dX2_readClause_59 : decode cX2_readClause 59 = .ok (.ireturn, 1) := by decide +kernel
theorem dX2_readClause_60 : decode cX2_readClause 60 = .ok (.iload_n 3, 1) := by decide +kernel
theorem dX2_readClause_61 : decode cX2_readClause 61 = .ok (.iconst 3, 1) := by decide +kernel
theorem dX2_readClause_62 : decode cX2_readClause 62 = .ok (.if_icmp .ne 20, 3) := by decide +kernel
theorem dX2_readClause_65 : decode cX2_readClause 65 = .ok (.aload_n 1, 1) := by decide +kernel
theorem dX2_readClause_66 : decode cX2_readClause 66 = .ok (.getfield 45, 3) := by decide +kernel
theorem dX2_readClause_69 : decode cX2_readClause 69 = .ok (.iconst 4, 1) := by decide +kernel
theorem dX2_readClause_70 : decode cX2_readClause 70 = .ok (.if_icmp .lt 12, 3) := by decide +kernel
theorem dX2_readClause_73 : decode cX2_readClause 73 = .ok (.aload_n 0, 1) := by decide +kernel
theorem dX2_readClause_74 : decode cX2_readClause 74 = .ok (.getfield 9, 3) := by decide +kernel
theorem dX2_readClause_77 : decode cX2_readClause 77 = .ok (.iconst 4, 1) := by decide +kernel
theorem dX2_readClause_78 : decode cX2_readClause 78 = .ok (.invokevirtual 32, 3) := by decide +kernel
theorem dX2_readClause_81 : decode cX2_readClause 81 = .ok (.ireturn, 1) := by decide +kernel
theorem dX2_readClause_82 : decode cX2_readClause 82 = .ok (.aload_n 0, 1) := by decide +kernel
theorem dX2_readClause_83 : decode cX2_readClause 83 = .ok (.getfield 9, 3) := by decide +kernel
theorem dX2_readClause_86 : decode cX2_readClause 86 = .ok (.invokevirtual 36, 3) := by decide +kernel
theorem dX2_readClause_89 : decode cX2_readClause 89 = .ok (.iload_n 3, 1) := by decide +kernel
theorem dX2_readClause_90 : decode cX2_readClause 90 = .ok (.tableswitch 44 0 2 #[26, 32, 38], 26) := by decide +kernel
theorem dX2_readClause_116 : decode cX2_readClause 116 = .ok (.aload_n 0, 1) := by decide +kernel
theorem dX2_readClause_117 : decode cX2_readClause 117 = .ok (.aload_n 1, 1) := by decide +kernel
theorem dX2_readClause_118 : decode cX2_readClause 118 = .ok (.invokevirtual 50, 3) := by decide +kernel
theorem dX2_readClause_121 : decode cX2_readClause 121 = .ok (.ireturn, 1) := by decide +kernel
theorem dX2_readClause_122 : decode cX2_readClause 122 = .ok (.aload_n 0, 1) := by decide +kernel
theorem dX2_readClause_123 : decode cX2_readClause 123 = .ok (.aload_n 1, 1) := by decide +kernel
theorem dX2_readClause_124 : decode cX2_readClause 124 = .ok (.invokevirtual 54, 3) := by decide +kernel
theorem dX2_readClause_127 : decode cX2_readClause 127 = .ok (.ireturn, 1) := by decide +kernel
theorem dX2_readClause_128 : decode cX2_readClause 128 = .ok (.aload_n 0, 1) := by decide +kernel
theorem dX2_readClause_129 : decode cX2_readClause 129 = .ok (.aload_n 1, 1) := by decide +kernel
theorem dX2_readClause_130 : decode cX2_readClause 130 = .ok (.invokevirtual 57, 3) := by decide +kernel
theorem dX2_readClause_133 : decode cX2_readClause 133 = .ok (.ireturn, 1) := by decide +kernel
theorem dX2_readClause_134 : decode cX2_readClause 134 = .ok (.aload_n 0, 1) := by decide +kernel
theorem dX2_readClause_135 : decode cX2_readClause 135 = .ok (.aload_n 1, 1) := by decide +kernel
theorem dX2_readClause_136 : decode cX2_readClause 136 = .ok (.invokevirtual 60, 3) := by decide +kernel
theorem dX2_readClause_139 : decode cX2_readClause 139 = .ok (.ireturn, 1) := by decide +kernel
theorem dX2_number_0 : decode cX2_number 0 = .ok (.aload_n 0, 1) := by decide +kernel
theorem dX2_number_1 : decode cX2_number 1 = .ok (.getfield 9, 3) := by decide +kernel
theorem dX2_number_4 : decode cX2_number 4 = .ok (.getfield 24, 3) := by decide +kernel
theorem dX2_number_7 : decode cX2_number 7 = .ok (.iconst 2, 1) := by decide +kernel
theorem dX2_number_8 : decode cX2_number 8 = .ok (.if_icmp .eq 14, 3) := by decide +kernel
theorem dX2_number_11 : decode cX2_number 11 = .ok (.aload_n 0, 1) := by decide +kernel
theorem dX2_number_12 : decode cX2_number 12 = .ok (.getfield 9, 3) := by decide +kernel
theorem dX2_number_15 : decode cX2_number 15 = .ok (.iconst 0, 1) := by decide +kernel
theorem dX2_number_16 : decode cX2_number 16 = .ok (.invokevirtual 32, 3) := by decide +kernel
theorem dX2_number_19 : decode cX2_number 19 = .ok (.pop, 1) := by decide +kernel
theorem dX2_number_20 : decode cX2_number 20 = .ok (.iconst (-1), 1) := by decide +kernel
theorem dX2_number_21 : decode cX2_number 21 = .ok (.ireturn, 1) := by decide +kernel
theorem dX2_number_22 : decode cX2_number 22 = .ok (.aload_n 0, 1) := by decide +kernel
theorem dX2_number_23 : decode cX2_number 23 = .ok (.getfield 9, 3) := by decide +kernel
theorem dX2_number_26 : decode cX2_number 26 = .ok (.invokevirtual 63, 3) := by decide +kernel
theorem dX2_number_29 : decode cX2_number 29 = .ok (.istore_n 3, 1) := by decide +kernel
theorem dX2_number_30 : decode cX2_number 30 = .ok (.iload_n 3, 1) := by decide +kernel
theorem dX2_number_31 : decode cX2_number 31 = .ok (.iload_n 1, 1) := by decide +kernel
theorem dX2_number_32 : decode cX2_number 32 = .ok (.if_icmp .lt 8, 3) := by decide +kernel
theorem dX2_number_35 : decode cX2_number 35 = .ok (.iload_n 3, 1) := by decide +kernel
theorem dX2_number_36 : decode cX2_number 36 = .ok (.iload_n 2, 1) := by decide +kernel
theorem dX2_number_37 : decode cX2_number 37 = .ok (.if_icmp .le 14, 3) := by decide +kernel
theorem dX2_number_40 : decode cX2_number 40 = .ok (.aload_n 0, 1) := by decide +kernel
theorem dX2_number_41 : decode cX2_number 41 = .ok (.getfield 9, 3) := by decide +kernel
theorem dX2_number_44 : decode cX2_number 44 = .ok (.iconst 1, 1) := by decide +kernel
theorem dX2_number_45 : decode cX2_number 45 = .ok (.invokevirtual 32, 3) := by decide +kernel
theorem dX2_number_48 : decode cX2_number 48 = .ok (.pop, 1) := by decide +kernel
theorem dX2_number_49 : decode cX2_number 49 = .ok (.iconst (-1), 1) := by decide +kernel
theorem dX2_number_50 : decode cX2_number 50 = .ok (.ireturn, 1) := by decide +kernel
theorem dX2_number_51 : decode cX2_number 51 = .ok (.iload_n 3, 1) := by decide +kernel
theorem dX2_number_52 : decode cX2_number 52 = .ok (.ireturn, 1) := by decide +kernel
theorem dX2_readRungs_0 : decode cX2_readRungs 0 = .ok (.aload_n 0, 1) := by decide +kernel
theorem dX2_readRungs_1 : decode cX2_readRungs 1 = .ok (.iconst 3, 1) := by decide +kernel
theorem dX2_readRungs_2 : decode cX2_readRungs 2 = .ok (.bipush 9, 2) := by decide +kernel
theorem dX2_readRungs_4 : decode cX2_readRungs 4 = .ok (.invokevirtual 67, 3) := by decide +kernel
theorem dX2_readRungs_7 : decode cX2_readRungs 7 = .ok (.istore_n 2, 1) := by decide +kernel
theorem dX2_readRungs_8 : decode cX2_readRungs 8 = .ok (.iload_n 2, 1) := by decide +kernel
theorem dX2_readRungs_9 : decode cX2_readRungs 9 = .ok (.iconst (-1), 1) := by decide +kernel
theorem dX2_readRungs_10 : decode cX2_readRungs 10 = .ok (.if_icmp .ne 5, 3) := by decide +kernel
theorem dX2_readRungs_13 : decode cX2_readRungs 13 = .ok (.iconst 0, 1) := by decide +kernel
theorem dX2_readRungs_14 : decode cX2_readRungs 14 = .ok (.ireturn, 1) := by decide +kernel
theorem dX2_readRungs_15 : decode cX2_readRungs 15 = .ok (.aload_n 1, 1) := by decide +kernel
theorem dX2_readRungs_16 : decode cX2_readRungs 16 = .ok (.iload_n 2, 1) := by decide +kernel
theorem dX2_readRungs_17 : decode cX2_readRungs 17 = .ok (.putfield 71, 3) := by decide +kernel
theorem dX2_readRungs_20 : decode cX2_readRungs 20 = .ok (.aload_n 0, 1) := by decide +kernel
theorem dX2_readRungs_21 : decode cX2_readRungs 21 = .ok (.getfield 9, 3) := by decide +kernel
theorem dX2_readRungs_24 : decode cX2_readRungs 24 = .ok (.invokevirtual 36, 3) := by decide +kernel
theorem dX2_readRungs_27 : decode cX2_readRungs 27 = .ok (.iconst 1, 1) := by decide +kernel
theorem dX2_readRungs_28 : decode cX2_readRungs 28 = .ok (.ireturn, 1) := by decide +kernel
theorem dX2_readRung_0 : decode cX2_readRung 0 = .ok (.aload_n 0, 1) := by decide +kernel
theorem dX2_readRung_1 : decode cX2_readRung 1 = .ok (.iconst 0, 1) := by decide +kernel
theorem dX2_readRung_2 : decode cX2_readRung 2 = .ok (.aload_n 1, 1) := by decide +kernel
theorem dX2_readRung_3 : decode cX2_readRung 3 = .ok (.getfield 71, 3) := by decide +kernel
theorem dX2_readRung_6 : decode cX2_readRung 6 = .ok (.iconst 1, 1) := by decide +kernel
theorem dX2_readRung_7 : decode cX2_readRung 7 = .ok (.isub, 1) := by decide +kernel
theorem dX2_readRung_8 : decode cX2_readRung 8 = .ok (.invokevirtual 67, 3) := by decide +kernel
theorem dX2_readRung_11 : decode cX2_readRung 11 = .ok (.istore_n 2, 1) := by decide +kernel
theorem dX2_readRung_12 : decode cX2_readRung 12 = .ok (.iload_n 2, 1) := by decide +kernel
theorem dX2_readRung_13 : decode cX2_readRung 13 = .ok (.iconst (-1), 1) := by decide +kernel
theorem dX2_readRung_14 : decode cX2_readRung 14 = .ok (.if_icmp .ne 5, 3) := by decide +kernel
theorem dX2_readRung_17 : decode cX2_readRung 17 = .ok (.iconst 0, 1) := by decide +kernel
theorem dX2_readRung_18 : decode cX2_readRung 18 = .ok (.ireturn, 1) := by decide +kernel
theorem dX2_readRung_19 : decode cX2_readRung 19 = .ok (.aload_n 0, 1) := by decide +kernel
theorem dX2_readRung_20 : decode cX2_readRung 20 = .ok (.getfield 9, 3) := by decide +kernel
theorem dX2_readRung_23 : decode cX2_readRung 23 = .ok (.invokevirtual 36, 3) := by decide +kernel
theorem dX2_readRung_26 : decode cX2_readRung 26 = .ok (.aload_n 0, 1) := by decide +kernel
theorem dX2_readRung_27 : decode cX2_readRung 27 = .ok (.iconst 1, 1) := by decide +kernel
theorem dX2_readRung_28 : decode cX2_readRung 28 = .ok (.aload_n 1, 1) := by decide +kernel
theorem dX2_readRung_29 : decode cX2_readRung 29 = .ok (.iload_n 2, 1) := by decide +kernel
theorem dX2_readRung_30 : decode cX2_readRung 30 = .ok (.invokevirtual 74, 3) := by decide +kernel
theorem dX2_readRung_33 : decode cX2_readRung 33 = .ok (.invokestatic 78, 3) := by decide +kernel
theorem dX2_readRung_36 : decode cX2_readRung 36 = .ok (.iconst 4, 1) := by decide +kernel
theorem dX2_readRung_37 : decode cX2_readRung 37 = .ok (.invokevirtual 67, 3) := by decide +kernel
theorem dX2_readRung_40 : decode cX2_readRung 40 = .ok (.istore_n 3, 1) := by decide +kernel
theorem dX2_readRung_41 : decode cX2_readRung 41 = .ok (.iload_n 3, 1) := by decide +kernel
theorem dX2_readRung_42 : decode cX2_readRung 42 = .ok (.iconst (-1), 1) := by decide +kernel
theorem dX2_readRung_43 : decode cX2_readRung 43 = .ok (.if_icmp .ne 5, 3) := by decide +kernel
theorem dX2_readRung_46 : decode cX2_readRung 46 = .ok (.iconst 0, 1) := by decide +kernel
theorem dX2_readRung_47 : decode cX2_readRung 47 = .ok (.ireturn, 1) := by decide +kernel
theorem dX2_readRung_48 : decode cX2_readRung 48 = .ok (.aload_n 0, 1) := by decide +kernel
theorem dX2_readRung_49 : decode cX2_readRung 49 = .ok (.getfield 9, 3) := by decide +kernel
theorem dX2_readRung_52 : decode cX2_readRung 52 = .ok (.invokevirtual 36, 3) := by decide +kernel
theorem dX2_readRung_55 : decode cX2_readRung 55 = .ok (.aload_n 0, 1) := by decide +kernel
theorem dX2_readRung_56 : decode cX2_readRung 56 = .ok (.iconst 1, 1) := by decide +kernel
theorem dX2_readRung_57 : decode cX2_readRung 57 = .ok (.sipush 999, 3) := by decide +kernel
theorem dX2_readRung_60 : decode cX2_readRung 60 = .ok (.invokevirtual 67, 3) := by decide +kernel
theorem dX2_readRung_63 : decode cX2_readRung 63 = .ok (.istore 4, 2) := by decide +kernel
theorem dX2_readRung_65 : decode cX2_readRung 65 = .ok (.iload 4, 2) := by decide +kernel
theorem dX2_readRung_67 : decode cX2_readRung 67 = .ok (.iconst (-1), 1) := by decide +kernel
theorem dX2_readRung_68 : decode cX2_readRung 68 = .ok (.if_icmp .ne 5, 3) := by decide +kernel
theorem dX2_readRung_71 : decode cX2_readRung 71 = .ok (.iconst 0, 1) := by decide +kernel
theorem dX2_readRung_72 : decode cX2_readRung 72 = .ok (.ireturn, 1) := by decide +kernel
theorem dX2_readRung_73 : decode cX2_readRung 73 = .ok (.aload_n 0, 1) := by decide +kernel
theorem dX2_readRung_74 : decode cX2_readRung 74 = .ok (.getfield 9, 3) := by decide +kernel
theorem dX2_readRung_77 : decode cX2_readRung 77 = .ok (.invokevirtual 36, 3) := by decide +kernel
theorem dX2_readRung_80 : decode cX2_readRung 80 = .ok (.aload_n 1, 1) := by decide +kernel
theorem dX2_readRung_81 : decode cX2_readRung 81 = .ok (.getfield 83, 3) := by decide +kernel
theorem dX2_readRung_84 : decode cX2_readRung 84 = .ok (.iload_n 2, 1) := by decide +kernel
theorem dX2_readRung_85 : decode cX2_readRung 85 = .ok (.iload_n 3, 1) := by decide +kernel
theorem dX2_readRung_86 : decode cX2_readRung 86 = .ok (.iastore, 1) := by decide +kernel
theorem dX2_readRung_87 : decode cX2_readRung 87 = .ok (.aload_n 1, 1) := by decide +kernel
theorem dX2_readRung_88 : decode cX2_readRung 88 = .ok (.getfield 87, 3) := by decide +kernel
theorem dX2_readRung_91 : decode cX2_readRung 91 = .ok (.iload_n 2, 1) := by decide +kernel
theorem dX2_readRung_92 : decode cX2_readRung 92 = .ok (.iload 4, 2) := by decide +kernel
theorem dX2_readRung_94 : decode cX2_readRung 94 = .ok (.iastore, 1) := by decide +kernel
theorem dX2_readRung_95 : decode cX2_readRung 95 = .ok (.iconst 1, 1) := by decide +kernel
theorem dX2_readRung_96 : decode cX2_readRung 96 = .ok (.ireturn, 1) := by decide +kernel
theorem dX2_readBroken_0 : decode cX2_readBroken 0 = .ok (.aload_n 0, 1) := by decide +kernel
theorem dX2_readBroken_1 : decode cX2_readBroken 1 = .ok (.iconst 0, 1) := by decide +kernel
theorem dX2_readBroken_2 : decode cX2_readBroken 2 = .ok (.aload_n 1, 1) := by decide +kernel
theorem dX2_readBroken_3 : decode cX2_readBroken 3 = .ok (.getfield 71, 3) := by decide +kernel
theorem dX2_readBroken_6 : decode cX2_readBroken 6 = .ok (.iconst 1, 1) := by decide +kernel
theorem dX2_readBroken_7 : decode cX2_readBroken 7 = .ok (.isub, 1) := by decide +kernel
theorem dX2_readBroken_8 : decode cX2_readBroken 8 = .ok (.invokevirtual 67, 3) := by decide +kernel
theorem dX2_readBroken_11 : decode cX2_readBroken 11 = .ok (.istore_n 2, 1) := by decide +kernel
theorem dX2_readBroken_12 : decode cX2_readBroken 12 = .ok (.iload_n 2, 1) := by decide +kernel
theorem dX2_readBroken_13 : decode cX2_readBroken 13 = .ok (.iconst (-1), 1) := by decide +kernel
theorem dX2_readBroken_14 : decode cX2_readBroken 14 = .ok (.if_icmp .ne 5, 3) := by decide +kernel
theorem dX2_readBroken_17 : decode cX2_readBroken 17 = .ok (.iconst 0, 1) := by decide +kernel
theorem dX2_readBroken_18 : decode cX2_readBroken 18 = .ok (.ireturn, 1) := by decide +kernel
theorem dX2_readBroken_19 : decode cX2_readBroken 19 = .ok (.aload_n 1, 1) := by decide +kernel
theorem dX2_readBroken_20 : decode cX2_readBroken 20 = .ok (.iload_n 2, 1) := by decide +kernel
theorem dX2_readBroken_21 : decode cX2_readBroken 21 = .ok (.invokevirtual 74, 3) := by decide +kernel
theorem dX2_readBroken_24 : decode cX2_readBroken 24 = .ok (.ifCond .le 12, 3) := by decide +kernel
theorem dX2_readBroken_27 : decode cX2_readBroken 27 = .ok (.aload_n 0, 1) := by decide +kernel
theorem dX2_readBroken_28 : decode cX2_readBroken 28 = .ok (.getfield 9, 3) := by decide +kernel
theorem dX2_readBroken_31 : decode cX2_readBroken 31 = .ok (.iconst 1, 1) := by decide +kernel
theorem dX2_readBroken_32 : decode cX2_readBroken 32 = .ok (.invokevirtual 32, 3) := by decide +kernel
theorem dX2_readBroken_35 : decode cX2_readBroken 35 = .ok (.ireturn, 1) := by decide +kernel
theorem dX2_readBroken_36 : decode cX2_readBroken 36 = .ok (.aload_n 0, 1) := by decide +kernel
theorem dX2_readBroken_37 : decode cX2_readBroken 37 = .ok (.getfield 9, 3) := by decide +kernel
theorem dX2_readBroken_40 : decode cX2_readBroken 40 = .ok (.invokevirtual 36, 3) := by decide +kernel
theorem dX2_readBroken_43 : decode cX2_readBroken 43 = .ok (.aload_n 1, 1) := by decide +kernel
theorem dX2_readBroken_44 : decode cX2_readBroken 44 = .ok (.dup, 1) := by decide +kernel
theorem dX2_readBroken_45 : decode cX2_readBroken 45 = .ok (.getfield 90, 3) := by decide +kernel
theorem dX2_readBroken_48 : decode cX2_readBroken 48 = .ok (.iconst 1, 1) := by decide +kernel
theorem dX2_readBroken_49 : decode cX2_readBroken 49 = .ok (.iload_n 2, 1) := by decide +kernel
theorem dX2_readBroken_50 : decode cX2_readBroken 50 = .ok (.ishl, 1) := by decide +kernel
theorem dX2_readBroken_51 : decode cX2_readBroken 51 = .ok (.ior, 1) := by decide +kernel
theorem dX2_readBroken_52 : decode cX2_readBroken 52 = .ok (.putfield 90, 3) := by decide +kernel
theorem dX2_readBroken_55 : decode cX2_readBroken 55 = .ok (.iconst 1, 1) := by decide +kernel
theorem dX2_readBroken_56 : decode cX2_readBroken 56 = .ok (.ireturn, 1) := by decide +kernel
theorem dX2_readPerson_0 : decode cX2_readPerson 0 = .ok (.aload_n 0, 1) := by decide +kernel
theorem dX2_readPerson_1 : decode cX2_readPerson 1 = .ok (.iconst 0, 1) := by decide +kernel
theorem dX2_readPerson_2 : decode cX2_readPerson 2 = .ok (.aload_n 1, 1) := by decide +kernel
theorem dX2_readPerson_3 : decode cX2_readPerson 3 = .ok (.getfield 71, 3) := by decide +kernel
theorem dX2_readPerson_6 : decode cX2_readPerson 6 = .ok (.iconst 1, 1) := by decide +kernel
theorem dX2_readPerson_7 : decode cX2_readPerson 7 = .ok (.isub, 1) := by decide +kernel
theorem dX2_readPerson_8 : decode cX2_readPerson 8 = .ok (.invokevirtual 67, 3) := by decide +kernel
theorem dX2_readPerson_11 : decode cX2_readPerson 11 = .ok (.istore_n 2, 1) := by decide +kernel
theorem dX2_readPerson_12 : decode cX2_readPerson 12 = .ok (.iload_n 2, 1) := by decide +kernel
theorem dX2_readPerson_13 : decode cX2_readPerson 13 = .ok (.iconst (-1), 1) := by decide +kernel
theorem dX2_readPerson_14 : decode cX2_readPerson 14 = .ok (.if_icmp .ne 5, 3) := by decide +kernel
theorem dX2_readPerson_17 : decode cX2_readPerson 17 = .ok (.iconst 0, 1) := by decide +kernel
theorem dX2_readPerson_18 : decode cX2_readPerson 18 = .ok (.ireturn, 1) := by decide +kernel
theorem dX2_readPerson_19 : decode cX2_readPerson 19 = .ok (.aload_n 1, 1) := by decide +kernel
theorem dX2_readPerson_20 : decode cX2_readPerson 20 = .ok (.iload_n 2, 1) := by decide +kernel
theorem dX2_readPerson_21 : decode cX2_readPerson 21 = .ok (.invokevirtual 93, 3) := by decide +kernel
theorem dX2_readPerson_24 : decode cX2_readPerson 24 = .ok (.ifCond .ne 12, 3) := by decide +kernel
theorem dX2_readPerson_27 : decode cX2_readPerson 27 = .ok (.aload_n 0, 1) := by decide +kernel
theorem dX2_readPerson_28 : decode cX2_readPerson 28 = .ok (.getfield 9, 3) := by decide +kernel
theorem dX2_readPerson_31 : decode cX2_readPerson 31 = .ok (.iconst 1, 1) := by decide +kernel
theorem dX2_readPerson_32 : decode cX2_readPerson 32 = .ok (.invokevirtual 32, 3) := by decide +kernel
theorem dX2_readPerson_35 : decode cX2_readPerson 35 = .ok (.ireturn, 1) := by decide +kernel
theorem dX2_readPerson_36 : decode cX2_readPerson 36 = .ok (.aload_n 0, 1) := by decide +kernel
theorem dX2_readPerson_37 : decode cX2_readPerson 37 = .ok (.getfield 9, 3) := by decide +kernel
theorem dX2_readPerson_40 : decode cX2_readPerson 40 = .ok (.invokevirtual 36, 3) := by decide +kernel
theorem dX2_readPerson_43 : decode cX2_readPerson 43 = .ok (.aload_n 0, 1) := by decide +kernel
theorem dX2_readPerson_44 : decode cX2_readPerson 44 = .ok (.iconst 1, 1) := by decide +kernel
theorem dX2_readPerson_45 : decode cX2_readPerson 45 = .ok (.bipush 20, 2) := by decide +kernel
theorem dX2_readPerson_47 : decode cX2_readPerson 47 = .ok (.invokevirtual 67, 3) := by decide +kernel
theorem dX2_readPerson_50 : decode cX2_readPerson 50 = .ok (.istore_n 3, 1) := by decide +kernel
theorem dX2_readPerson_51 : decode cX2_readPerson 51 = .ok (.iload_n 3, 1) := by decide +kernel
theorem dX2_readPerson_52 : decode cX2_readPerson 52 = .ok (.iconst (-1), 1) := by decide +kernel
theorem dX2_readPerson_53 : decode cX2_readPerson 53 = .ok (.if_icmp .ne 5, 3) := by decide +kernel
theorem dX2_readPerson_56 : decode cX2_readPerson 56 = .ok (.iconst 0, 1) := by decide +kernel
theorem dX2_readPerson_57 : decode cX2_readPerson 57 = .ok (.ireturn, 1) := by decide +kernel
theorem dX2_readPerson_58 : decode cX2_readPerson 58 = .ok (.aload_n 0, 1) := by decide +kernel
theorem dX2_readPerson_59 : decode cX2_readPerson 59 = .ok (.getfield 9, 3) := by decide +kernel
theorem dX2_readPerson_62 : decode cX2_readPerson 62 = .ok (.invokevirtual 36, 3) := by decide +kernel
theorem dX2_readPerson_65 : decode cX2_readPerson 65 = .ok (.aload_n 0, 1) := by decide +kernel
theorem dX2_readPerson_66 : decode cX2_readPerson 66 = .ok (.iconst 1, 1) := by decide +kernel
theorem dX2_readPerson_67 : decode cX2_readPerson 67 = .ok (.bipush 30, 2) := by decide +kernel
theorem dX2_readPerson_69 : decode cX2_readPerson 69 = .ok (.invokevirtual 67, 3) := by decide +kernel
theorem dX2_readPerson_72 : decode cX2_readPerson 72 = .ok (.istore 4, 2) := by decide +kernel
theorem dX2_readPerson_74 : decode cX2_readPerson 74 = .ok (.iload 4, 2) := by decide +kernel
theorem dX2_readPerson_76 : decode cX2_readPerson 76 = .ok (.iconst (-1), 1) := by decide +kernel
theorem dX2_readPerson_77 : decode cX2_readPerson 77 = .ok (.if_icmp .ne 5, 3) := by decide +kernel
theorem dX2_readPerson_80 : decode cX2_readPerson 80 = .ok (.iconst 0, 1) := by decide +kernel
theorem dX2_readPerson_81 : decode cX2_readPerson 81 = .ok (.ireturn, 1) := by decide +kernel
theorem dX2_readPerson_82 : decode cX2_readPerson 82 = .ok (.aload_n 0, 1) := by decide +kernel
theorem dX2_readPerson_83 : decode cX2_readPerson 83 = .ok (.getfield 9, 3) := by decide +kernel
theorem dX2_readPerson_86 : decode cX2_readPerson 86 = .ok (.invokevirtual 36, 3) := by decide +kernel
theorem dX2_readPerson_89 : decode cX2_readPerson 89 = .ok (.aload_n 0, 1) := by decide +kernel
theorem dX2_readPerson_90 : decode cX2_readPerson 90 = .ok (.iconst 0, 1) := by decide +kernel
theorem dX2_readPerson_91 : decode cX2_readPerson 91 = .ok (.aload_n 1, 1) := by decide +kernel
theorem dX2_readPerson_92 : decode cX2_readPerson 92 = .ok (.getfield 71, 3) := by decide +kernel
theorem dX2_readPerson_95 : decode cX2_readPerson 95 = .ok (.iconst 1, 1) := by decide +kernel
theorem dX2_readPerson_96 : decode cX2_readPerson 96 = .ok (.isub, 1) := by decide +kernel
theorem dX2_readPerson_97 : decode cX2_readPerson 97 = .ok (.invokevirtual 67, 3) := by decide +kernel
theorem dX2_readPerson_100 : decode cX2_readPerson 100 = .ok (.istore 5, 2) := by decide +kernel
theorem dX2_readPerson_102 : decode cX2_readPerson 102 = .ok (.iload 5, 2) := by decide +kernel
theorem dX2_readPerson_104 : decode cX2_readPerson 104 = .ok (.iconst (-1), 1) := by decide +kernel
theorem dX2_readPerson_105 : decode cX2_readPerson 105 = .ok (.if_icmp .eq 11, 3) := by decide +kernel
theorem dX2_readPerson_108 : decode cX2_readPerson 108 = .ok (.aload_n 1, 1) := by decide +kernel
theorem dX2_readPerson_109 : decode cX2_readPerson 109 = .ok (.getfield 45, 3) := by decide +kernel
theorem dX2_readPerson_112 : decode cX2_readPerson 112 = .ok (.iconst 4, 1) := by decide +kernel
theorem dX2_readPerson_113 : decode cX2_readPerson 113 = .ok (.if_icmp .lt 5, 3) := by decide +kernel
theorem dX2_readPerson_116 : decode cX2_readPerson 116 = .ok (.iconst 0, 1) := by decide +kernel
theorem dX2_readPerson_117 : decode cX2_readPerson 117 = .ok (.ireturn, 1) := by decide +kernel
theorem dX2_readPerson_118 : decode cX2_readPerson 118 = .ok (.aload_n 0, 1) := by decide +kernel
theorem dX2_readPerson_119 : decode cX2_readPerson 119 = .ok (.getfield 9, 3) := by decide +kernel
theorem dX2_readPerson_122 : decode cX2_readPerson 122 = .ok (.invokevirtual 36, 3) := by decide +kernel
theorem dX2_readPerson_125 : decode cX2_readPerson 125 = .ok (.aload_n 1, 1) := by decide +kernel
theorem dX2_readPerson_126 : decode cX2_readPerson 126 = .ok (.getfield 45, 3) := by decide +kernel
theorem dX2_readPerson_129 : decode cX2_readPerson 129 = .ok (.istore 6, 2) := by decide +kernel
theorem dX2_readPerson_131 : decode cX2_readPerson 131 = .ok (.aload_n 1, 1) := by decide +kernel
theorem dX2_readPerson_132 : decode cX2_readPerson 132 = .ok (.getfield 96, 3) := by decide +kernel
theorem dX2_readPerson_135 : decode cX2_readPerson 135 = .ok (.iload 6, 2) := by decide +kernel
theorem dX2_readPerson_137 : decode cX2_readPerson 137 = .ok (.iload_n 2, 1) := by decide +kernel
theorem dX2_readPerson_138 : decode cX2_readPerson 138 = .ok (.iastore, 1) := by decide +kernel
theorem dX2_readPerson_139 : decode cX2_readPerson 139 = .ok (.aload_n 1, 1) := by decide +kernel
theorem dX2_readPerson_140 : decode cX2_readPerson 140 = .ok (.getfield 99, 3) := by decide +kernel
theorem dX2_readPerson_143 : decode cX2_readPerson 143 = .ok (.iload 6, 2) := by decide +kernel
theorem dX2_readPerson_145 : decode cX2_readPerson 145 = .ok (.iload_n 3, 1) := by decide +kernel
theorem dX2_readPerson_146 : decode cX2_readPerson 146 = .ok (.iastore, 1) := by decide +kernel
theorem dX2_readPerson_147 : decode cX2_readPerson 147 = .ok (.aload_n 1, 1) := by decide +kernel
theorem dX2_readPerson_148 : decode cX2_readPerson 148 = .ok (.getfield 102, 3) := by decide +kernel
theorem dX2_readPerson_151 : decode cX2_readPerson 151 = .ok (.iload 6, 2) := by decide +kernel
theorem dX2_readPerson_153 : decode cX2_readPerson 153 = .ok (.iload 4, 2) := by decide +kernel
theorem dX2_readPerson_155 : decode cX2_readPerson 155 = .ok (.iastore, 1) := by decide +kernel
theorem dX2_readPerson_156 : decode cX2_readPerson 156 = .ok (.aload_n 1, 1) := by decide +kernel
theorem dX2_readPerson_157 : decode cX2_readPerson 157 = .ok (.getfield 105, 3) := by decide +kernel
theorem dX2_readPerson_160 : decode cX2_readPerson 160 = .ok (.iload 6, 2) := by decide +kernel
theorem dX2_readPerson_162 : decode cX2_readPerson 162 = .ok (.iload 5, 2) := by decide +kernel
theorem dX2_readPerson_164 : decode cX2_readPerson 164 = .ok (.iastore, 1) := by decide +kernel
theorem dX2_readPerson_165 : decode cX2_readPerson 165 = .ok (.aload_n 1, 1) := by decide +kernel
theorem dX2_readPerson_166 : decode cX2_readPerson 166 = .ok (.dup, 1) := by decide +kernel
theorem dX2_readPerson_167 : decode cX2_readPerson 167 = .ok (.getfield 45, 3) := by decide +kernel
theorem dX2_readPerson_170 : decode cX2_readPerson 170 = .ok (.iconst 1, 1) := by decide +kernel
theorem dX2_readPerson_171 : decode cX2_readPerson 171 = .ok (.iadd, 1) := by decide +kernel
theorem dX2_readPerson_172 : decode cX2_readPerson 172 = .ok (.putfield 45, 3) := by decide +kernel
theorem dX2_readPerson_175 : decode cX2_readPerson 175 = .ok (.iconst 1, 1) := by decide +kernel
theorem dX2_readPerson_176 : decode cX2_readPerson 176 = .ok (.ireturn, 1) := by decide +kernel
theorem dX3_init_0 : decode cX3_init 0 = .ok (.aload_n 0, 1) := by decide +kernel
theorem dX3_init_1 : decode cX3_init 1 = .ok (.invokespecial 3, 3) := by decide +kernel
theorem dX3_init_4 : decode cX3_init 4 = .ok (.aload_n 0, 1) := by decide +kernel
theorem dX3_init_5 : decode cX3_init 5 = .ok (.bipush 63, 2) := by decide +kernel
theorem dX3_init_7 : decode cX3_init 7 = .ok (.newarray .int, 2) := by decide +kernel
theorem dX3_init_9 : decode cX3_init 9 = .ok (.putfield 11, 3) := by decide +kernel
theorem dX3_init_12 : decode cX3_init 12 = .ok (.aload_n 0, 1) := by decide +kernel
theorem dX3_init_13 : decode cX3_init 13 = .ok (.aload_n 1, 1) := by decide +kernel
theorem dX3_init_14 : decode cX3_init 14 = .ok (.putfield 15, 3) := by decide +kernel
theorem dX3_init_17 : decode cX3_init 17 = .ok (.aload_n 0, 1) := by decide +kernel
theorem dX3_init_18 : decode cX3_init 18 = .ok (.aload_n 2, 1) := by decide +kernel
theorem dX3_init_19 : decode cX3_init 19 = .ok (.putfield 19, 3) := by decide +kernel
theorem dX3_init_22 : decode cX3_init 22 = .ok (.return_, 1) := by decide +kernel
theorem dX3_after_0 : decode cX3_after 0 = .ok (.aload_n 0, 1) := by decide +kernel
theorem dX3_after_1 : decode cX3_after 1 = .ok (.getfield 19, 3) := by decide +kernel
theorem dX3_after_4 : decode cX3_after 4 = .ok (.aload_n 1, 1) := by decide +kernel
theorem dX3_after_5 : decode cX3_after 5 = .ok (.invokevirtual 23, 3) := by decide +kernel
theorem dX3_after_8 : decode cX3_after 8 = .ok (.iconst 0, 1) := by decide +kernel
theorem dX3_after_9 : decode cX3_after 9 = .ok (.istore 4, 2) := by decide +kernel
theorem dX3_after_11 : decode cX3_after 11 = .ok (.iload 4, 2) := by decide +kernel
theorem dX3_after_13 : decode cX3_after 13 = .ok (.iload_n 3, 1) := by decide +kernel
theorem dX3_after_14 : decode cX3_after 14 = .ok (.if_icmp .ge 22, 3) := by decide +kernel
theorem dX3_after_17 : decode cX3_after 17 = .ok (.aload_n 0, 1) := by decide +kernel
theorem dX3_after_18 : decode cX3_after 18 = .ok (.getfield 15, 3) := by decide +kernel
theorem dX3_after_21 : decode cX3_after 21 = .ok (.aload_n 0, 1) := by decide +kernel
theorem dX3_after_22 : decode cX3_after 22 = .ok (.getfield 19, 3) := by decide +kernel
theorem dX3_after_25 : decode cX3_after 25 = .ok (.aload_n 2, 1) := by decide +kernel
theorem dX3_after_26 : decode cX3_after 26 = .ok (.invokevirtual 29, 3) := by decide +kernel
theorem dX3_after_29 : decode cX3_after 29 = .ok (.pop, 1) := by decide +kernel
theorem dX3_after_30 : decode cX3_after 30 = .ok (.iinc 4 1, 3) := by decide +kernel
theorem dX3_after_33 : decode cX3_after 33 = .ok (.goto (-22), 3) := by decide +kernel
theorem dX3_after_36 : decode cX3_after 36 = .ok (.aload_n 0, 1) := by decide +kernel
theorem dX3_after_37 : decode cX3_after 37 = .ok (.getfield 19, 3) := by decide +kernel
theorem dX3_after_40 : decode cX3_after 40 = .ok (.areturn, 1) := by decide +kernel
theorem dX3_foreseesBreak_0 : decode cX3_foreseesBreak 0 = .ok (.aload_n 0, 1) := by decide +kernel
theorem dX3_foreseesBreak_1 : decode cX3_foreseesBreak 1 = .ok (.getfield 19, 3) := by decide +kernel
theorem dX3_foreseesBreak_4 : decode cX3_foreseesBreak 4 = .ok (.aload_n 1, 1) := by decide +kernel
theorem dX3_foreseesBreak_5 : decode cX3_foreseesBreak 5 = .ok (.invokevirtual 23, 3) := by decide +kernel
theorem dX3_foreseesBreak_8 : decode cX3_foreseesBreak 8 = .ok (.iload_n 2, 1) := by decide +kernel
theorem dX3_foreseesBreak_9 : decode cX3_foreseesBreak 9 = .ok (.iconst (-1), 1) := by decide +kernel
theorem dX3_foreseesBreak_10 : decode cX3_foreseesBreak 10 = .ok (.if_icmp .eq 11, 3) := by decide +kernel
theorem dX3_foreseesBreak_13 : decode cX3_foreseesBreak 13 = .ok (.aload_n 0, 1) := by decide +kernel
theorem dX3_foreseesBreak_14 : decode cX3_foreseesBreak 14 = .ok (.getfield 19, 3) := by decide +kernel
theorem dX3_foreseesBreak_17 : decode cX3_foreseesBreak 17 = .ok (.iload_n 2, 1) := by decide +kernel
theorem dX3_foreseesBreak_18 : decode cX3_foreseesBreak 18 = .ok (.invokevirtual 35, 3) := by decide +kernel
theorem dX3_foreseesBreak_21 : decode cX3_foreseesBreak 21 = .ok (.iconst 0, 1) := by decide +kernel
theorem dX3_foreseesBreak_22 : decode cX3_foreseesBreak 22 = .ok (.istore 4, 2) := by decide +kernel
theorem dX3_foreseesBreak_24 : decode cX3_foreseesBreak 24 = .ok (.iload 4, 2) := by decide +kernel
theorem dX3_foreseesBreak_26 : decode cX3_foreseesBreak 26 = .ok (.sipush 200, 3) := by decide +kernel
theorem dX3_foreseesBreak_29 : decode cX3_foreseesBreak 29 = .ok (.if_icmp .ge 54, 3) := by decide +kernel
theorem dX3_foreseesBreak_32 : decode cX3_foreseesBreak 32 = .ok (.aload_n 0, 1) := by decide +kernel
theorem dX3_foreseesBreak_33 : decode cX3_foreseesBreak 33 = .ok (.aload_n 0, 1) := by decide +kernel
theorem dX3_foreseesBreak_34 : decode cX3_foreseesBreak 34 = .ok (.getfield 19, 3) := by decide +kernel
theorem dX3_foreseesBreak_37 : decode cX3_foreseesBreak 37 = .ok (.getfield 39, 3) := by decide +kernel
theorem dX3_foreseesBreak_40 : decode cX3_foreseesBreak 40 = .ok (.putfield 43, 3) := by decide +kernel
theorem dX3_foreseesBreak_43 : decode cX3_foreseesBreak 43 = .ok (.aload_n 0, 1) := by decide +kernel
theorem dX3_foreseesBreak_44 : decode cX3_foreseesBreak 44 = .ok (.getfield 15, 3) := by decide +kernel
theorem dX3_foreseesBreak_47 : decode cX3_foreseesBreak 47 = .ok (.aload_n 0, 1) := by decide +kernel
theorem dX3_foreseesBreak_48 : decode cX3_foreseesBreak 48 = .ok (.getfield 19, 3) := by decide +kernel
theorem dX3_foreseesBreak_51 : decode cX3_foreseesBreak 51 = .ok (.aload_n 3, 1) := by decide +kernel
theorem dX3_foreseesBreak_52 : decode cX3_foreseesBreak 52 = .ok (.invokevirtual 29, 3) := by decide +kernel
theorem dX3_foreseesBreak_55 : decode cX3_foreseesBreak 55 = .ok (.pop, 1) := by decide +kernel
theorem dX3_foreseesBreak_56 : decode cX3_foreseesBreak 56 = .ok (.aload_n 0, 1) := by decide +kernel
theorem dX3_foreseesBreak_57 : decode cX3_foreseesBreak 57 = .ok (.aload_n 0, 1) := by decide +kernel
theorem dX3_foreseesBreak_58 : decode cX3_foreseesBreak 58 = .ok (.getfield 15, 3) := by decide +kernel
theorem dX3_foreseesBreak_61 : decode cX3_foreseesBreak 61 = .ok (.getfield 46, 3) := by decide +kernel
theorem dX3_foreseesBreak_64 : decode cX3_foreseesBreak 64 = .ok (.putfield 49, 3) := by decide +kernel
theorem dX3_foreseesBreak_67 : decode cX3_foreseesBreak 67 = .ok (.aload_n 0, 1) := by decide +kernel
theorem dX3_foreseesBreak_68 : decode cX3_foreseesBreak 68 = .ok (.getfield 49, 3) := by decide +kernel
theorem dX3_foreseesBreak_71 : decode cX3_foreseesBreak 71 = .ok (.iconst (-1), 1) := by decide +kernel
theorem dX3_foreseesBreak_72 : decode cX3_foreseesBreak 72 = .ok (.if_icmp .eq 5, 3) := by decide +kernel
theorem dX3_foreseesBreak_75 : decode cX3_foreseesBreak 75 = .ok (.iconst 1, 1) := by decide +kernel
theorem dX3_foreseesBreak_76 : decode cX3_foreseesBreak 76 = .ok (.ireturn, 1) := by decide +kernel
theorem dX3_foreseesBreak_77 : decode cX3_foreseesBreak 77 = .ok (.iinc 4 1, 3) := by decide +kernel
theorem dX3_foreseesBreak_80 : decode cX3_foreseesBreak 80 = .ok (.goto (-56), 3) := by decide +kernel
theorem dX3_foreseesBreak_83 : decode cX3_foreseesBreak 83 = .ok (.iconst 0, 1) := by decide +kernel
theorem dX3_foreseesBreak_84 : decode cX3_foreseesBreak 84 = .ok (.ireturn, 1) := by decide +kernel
theorem dX3_findMending_0 : decode cX3_findMending 0 = .ok (.aload_n 0, 1) := by decide +kernel
theorem dX3_findMending_1 : decode cX3_findMending 1 = .ok (.bipush (-2), 2) := by decide +kernel
theorem dX3_findMending_3 : decode cX3_findMending 3 = .ok (.putfield 50, 3) := by decide +kernel
theorem dX3_findMending_6 : decode cX3_findMending 6 = .ok (.aload_n 0, 1) := by decide +kernel
theorem dX3_findMending_7 : decode cX3_findMending 7 = .ok (.bipush (-2), 2) := by decide +kernel
theorem dX3_findMending_9 : decode cX3_findMending 9 = .ok (.putfield 53, 3) := by decide +kernel
theorem dX3_findMending_12 : decode cX3_findMending 12 = .ok (.iconst (-1), 1) := by decide +kernel
theorem dX3_findMending_13 : decode cX3_findMending 13 = .ok (.istore_n 3, 1) := by decide +kernel
theorem dX3_findMending_14 : decode cX3_findMending 14 = .ok (.iconst 0, 1) := by decide +kernel
theorem dX3_findMending_15 : decode cX3_findMending 15 = .ok (.istore 4, 2) := by decide +kernel
theorem dX3_findMending_17 : decode cX3_findMending 17 = .ok (.iload 4, 2) := by decide +kernel
theorem dX3_findMending_19 : decode cX3_findMending 19 = .ok (.aload_n 1, 1) := by decide +kernel
theorem dX3_findMending_20 : decode cX3_findMending 20 = .ok (.getfield 56, 3) := by decide +kernel
theorem dX3_findMending_23 : decode cX3_findMending 23 = .ok (.getfield 60, 3) := by decide +kernel
theorem dX3_findMending_26 : decode cX3_findMending 26 = .ok (.if_icmp .ge 81, 3) := by decide +kernel
theorem dX3_findMending_29 : decode cX3_findMending 29 = .ok (.iload_n 3, 1) := by decide +kernel
theorem dX3_findMending_30 : decode cX3_findMending 30 = .ok (.ldc 65, 2) := by decide +kernel
theorem dX3_findMending_32 : decode cX3_findMending 32 = .ok (.if_icmp .ge 75, 3) := by decide +kernel
theorem dX3_findMending_35 : decode cX3_findMending 35 = .ok (.aload_n 1, 1) := by decide +kernel
theorem dX3_findMending_36 : decode cX3_findMending 36 = .ok (.iload 4, 2) := by decide +kernel
theorem dX3_findMending_38 : decode cX3_findMending 38 = .ok (.invokevirtual 66, 3) := by decide +kernel
theorem dX3_findMending_41 : decode cX3_findMending 41 = .ok (.ifCond .ne 6, 3) := by decide +kernel
theorem dX3_findMending_44 : decode cX3_findMending 44 = .ok (.goto 57, 3) := by decide +kernel
theorem dX3_findMending_47 : decode cX3_findMending 47 = .ok (.aload_n 0, 1) := by decide +kernel
theorem dX3_findMending_48 : decode cX3_findMending 48 = .ok (.aload_n 1, 1) := by decide +kernel
theorem dX3_findMending_49 : decode cX3_findMending 49 = .ok (.iload 4, 2) := by decide +kernel
theorem dX3_findMending_51 : decode cX3_findMending 51 = .ok (.aload_n 2, 1) := by decide +kernel
theorem dX3_findMending_52 : decode cX3_findMending 52 = .ok (.invokevirtual 70, 3) := by decide +kernel
theorem dX3_findMending_55 : decode cX3_findMending 55 = .ok (.ifCond .eq 10, 3) := by decide +kernel
theorem dX3_findMending_58 : decode cX3_findMending 58 = .ok (.aload_n 0, 1) := by decide +kernel
theorem dX3_findMending_59 : decode cX3_findMending 59 = .ok (.getfield 43, 3) := by decide +kernel
theorem dX3_findMending_62 : decode cX3_findMending 62 = .ok (.goto 5, 3) := by decide +kernel
theorem dX3_findMending_65 : decode cX3_findMending 65 = .ok (.ldc 65, 2) := by decide +kernel
theorem dX3_findMending_67 : decode cX3_findMending 67 = .ok (.istore 5, 2) := by decide +kernel
theorem dX3_findMending_69 : decode cX3_findMending 69 = .ok (.iload 5, 2) := by decide +kernel
theorem dX3_findMending_71 : decode cX3_findMending 71 = .ok (.iload_n 3, 1) := by decide +kernel
theorem dX3_findMending_72 : decode cX3_findMending 72 = .ok (.if_icmp .le 29, 3) := by decide +kernel
theorem dX3_findMending_75 : decode cX3_findMending 75 = .ok (.iload 5, 2) := by decide +kernel
theorem dX3_findMending_77 : decode cX3_findMending 77 = .ok (.istore_n 3, 1) := by decide +kernel
theorem dX3_findMending_78 : decode cX3_findMending 78 = .ok (.aload_n 0, 1) := by decide +kernel
theorem dX3_findMending_79 : decode cX3_findMending 79 = .ok (.iload 4, 2) := by decide +kernel
theorem dX3_findMending_81 : decode cX3_findMending 81 = .ok (.putfield 50, 3) := by decide +kernel
theorem dX3_findMending_84 : decode cX3_findMending 84 = .ok (.aload_n 0, 1) := by decide +kernel
theorem dX3_findMending_85 : decode cX3_findMending 85 = .ok (.iload 5, 2) := by decide +kernel
theorem dX3_findMending_87 : decode cX3_findMending 87 = .ok (.ldc 65, 2) := by decide +kernel
theorem dX3_findMending_89 : decode cX3_findMending 89 = .ok (.if_icmp .ne 7, 3) := by decide +kernel
theorem dX3_findMending_92 : decode cX3_findMending 92 = .ok (.iconst (-1), 1) := by decide +kernel
theorem dX3_findMending_93 : decode cX3_findMending 93 = .ok (.goto 5, 3) := by decide +kernel
theorem dX3_findMending_96 : decode cX3_findMending 96 = .ok (.iload 5, 2) := by decide +kernel
theorem dX3_findMending_98 : decode cX3_findMending 98 = .ok (.putfield 53, 3) := by decide +kernel
theorem dX3_findMending_101 : decode cX3_findMending 101 = .ok (.iinc 4 1, 3) := by decide +kernel
theorem dX3_findMending_104 : decode cX3_findMending 104 = .ok (.goto (-87), 3) := by decide +kernel
theorem dX3_findMending_107 : decode cX3_findMending 107 = .ok (.return_, 1) := by decide +kernel
theorem dX3_goodsHour_0 : decode cX3_goodsHour 0 = .ok (.aload_n 0, 1) := by decide +kernel
theorem dX3_goodsHour_1 : decode cX3_goodsHour 1 = .ok (.getfield 19, 3) := by decide +kernel
theorem dX3_goodsHour_4 : decode cX3_goodsHour 4 = .ok (.aload_n 1, 1) := by decide +kernel
theorem dX3_goodsHour_5 : decode cX3_goodsHour 5 = .ok (.invokevirtual 23, 3) := by decide +kernel
theorem dX3_goodsHour_8 : decode cX3_goodsHour 8 = .ok (.iload_n 3, 1) := by decide +kernel
theorem dX3_goodsHour_9 : decode cX3_goodsHour 9 = .ok (.iload 4, 2) := by decide +kernel
theorem dX3_goodsHour_11 : decode cX3_goodsHour 11 = .ok (.if_icmp .ne 11, 3) := by decide +kernel
theorem dX3_goodsHour_14 : decode cX3_goodsHour 14 = .ok (.aload_n 0, 1) := by decide +kernel
theorem dX3_goodsHour_15 : decode cX3_goodsHour 15 = .ok (.getfield 19, 3) := by decide +kernel
theorem dX3_goodsHour_18 : decode cX3_goodsHour 18 = .ok (.getfield 39, 3) := by decide +kernel
theorem dX3_goodsHour_21 : decode cX3_goodsHour 21 = .ok (.ireturn, 1) := by decide +kernel
theorem dX3_goodsHour_22 : decode cX3_goodsHour 22 = .ok (.iload 4, 2) := by decide +kernel
theorem dX3_goodsHour_24 : decode cX3_goodsHour 24 = .ok (.iload_n 3, 1) := by decide +kernel
theorem dX3_goodsHour_25 : decode cX3_goodsHour 25 = .ok (.if_icmp .le 7, 3) := by decide +kernel
theorem dX3_goodsHour_28 : decode cX3_goodsHour 28 = .ok (.iconst 1, 1) := by decide +kernel
theorem dX3_goodsHour_29 : decode cX3_goodsHour 29 = .ok (.goto 4, 3) := by decide +kernel
theorem dX3_goodsHour_32 : decode cX3_goodsHour 32 = .ok (.iconst (-1), 1) := by decide +kernel
theorem dX3_goodsHour_33 : decode cX3_goodsHour 33 = .ok (.istore 5, 2) := by decide +kernel
theorem dX3_goodsHour_35 : decode cX3_goodsHour 35 = .ok (.iload_n 3, 1) := by decide +kernel
theorem dX3_goodsHour_36 : decode cX3_goodsHour 36 = .ok (.istore 6, 2) := by decide +kernel
theorem dX3_goodsHour_38 : decode cX3_goodsHour 38 = .ok (.iconst 0, 1) := by decide +kernel
theorem dX3_goodsHour_39 : decode cX3_goodsHour 39 = .ok (.istore 7, 2) := by decide +kernel
theorem dX3_goodsHour_41 : decode cX3_goodsHour 41 = .ok (.iload 7, 2) := by decide +kernel
theorem dX3_goodsHour_43 : decode cX3_goodsHour 43 = .ok (.sipush 200, 3) := by decide +kernel
theorem dX3_goodsHour_46 : decode cX3_goodsHour 46 = .ok (.if_icmp .ge 75, 3) := by decide +kernel
theorem dX3_goodsHour_49 : decode cX3_goodsHour 49 = .ok (.aload_n 0, 1) := by decide +kernel
theorem dX3_goodsHour_50 : decode cX3_goodsHour 50 = .ok (.getfield 19, 3) := by decide +kernel
theorem dX3_goodsHour_53 : decode cX3_goodsHour 53 = .ok (.getfield 39, 3) := by decide +kernel
theorem dX3_goodsHour_56 : decode cX3_goodsHour 56 = .ok (.istore 8, 2) := by decide +kernel
theorem dX3_goodsHour_58 : decode cX3_goodsHour 58 = .ok (.aload_n 0, 1) := by decide +kernel
theorem dX3_goodsHour_59 : decode cX3_goodsHour 59 = .ok (.getfield 15, 3) := by decide +kernel
theorem dX3_goodsHour_62 : decode cX3_goodsHour 62 = .ok (.aload_n 0, 1) := by decide +kernel
theorem dX3_goodsHour_63 : decode cX3_goodsHour 63 = .ok (.getfield 19, 3) := by decide +kernel
theorem dX3_goodsHour_66 : decode cX3_goodsHour 66 = .ok (.aload_n 2, 1) := by decide +kernel
theorem dX3_goodsHour_67 : decode cX3_goodsHour 67 = .ok (.invokevirtual 29, 3) := by decide +kernel
theorem dX3_goodsHour_70 : decode cX3_goodsHour 70 = .ok (.pop, 1) := by decide +kernel
theorem dX3_goodsHour_71 : decode cX3_goodsHour 71 = .ok (.aload_n 0, 1) := by decide +kernel
theorem dX3_goodsHour_72 : decode cX3_goodsHour 72 = .ok (.getfield 19, 3) := by decide +kernel
theorem dX3_goodsHour_75 : decode cX3_goodsHour 75 = .ok (.iload 6, 2) := by decide +kernel
theorem dX3_goodsHour_77 : decode cX3_goodsHour 77 = .ok (.invokevirtual 74, 3) := by decide +kernel
theorem dX3_goodsHour_80 : decode cX3_goodsHour 80 = .ok (.ifCond .le 25, 3) := by decide +kernel
theorem dX3_goodsHour_83 : decode cX3_goodsHour 83 = .ok (.aload_n 0, 1) := by decide +kernel
theorem dX3_goodsHour_84 : decode cX3_goodsHour 84 = .ok (.getfield 19, 3) := by decide +kernel
theorem dX3_goodsHour_87 : decode cX3_goodsHour 87 = .ok (.iload 6, 2) := by decide +kernel
theorem dX3_goodsHour_89 : decode cX3_goodsHour 89 = .ok (.iload 5, 2) := by decide +kernel
theorem dX3_goodsHour_91 : decode cX3_goodsHour 91 = .ok (.iadd, 1) := by decide +kernel
theorem dX3_goodsHour_92 : decode cX3_goodsHour 92 = .ok (.invokevirtual 74, 3) := by decide +kernel
theorem dX3_goodsHour_95 : decode cX3_goodsHour 95 = .ok (.ifCond .le 10, 3) := by decide +kernel
theorem dX3_goodsHour_98 : decode cX3_goodsHour 98 = .ok (.iload 6, 2) := by decide +kernel
theorem dX3_goodsHour_100 : decode cX3_goodsHour 100 = .ok (.iload 5, 2) := by decide +kernel
theorem dX3_goodsHour_102 : decode cX3_goodsHour 102 = .ok (.iadd, 1) := by decide +kernel
theorem dX3_goodsHour_103 : decode cX3_goodsHour 103 = .ok (.istore 6, 2) := by decide +kernel
theorem dX3_goodsHour_105 : decode cX3_goodsHour 105 = .ok (.iload 6, 2) := by decide +kernel
theorem dX3_goodsHour_107 : decode cX3_goodsHour 107 = .ok (.iload 4, 2) := by decide +kernel
theorem dX3_goodsHour_109 : decode cX3_goodsHour 109 = .ok (.if_icmp .ne 6, 3) := by decide +kernel
theorem dX3_goodsHour_112 : decode cX3_goodsHour 112 = .ok (.iload 8, 2) := by decide +kernel
theorem dX3_goodsHour_114 : decode cX3_goodsHour 114 = .ok (.ireturn, 1) := by decide +kernel
theorem dX3_goodsHour_115 : decode cX3_goodsHour 115 = .ok (.iinc 7 1, 3) := by decide +kernel
theorem dX3_goodsHour_118 : decode cX3_goodsHour 118 = .ok (.goto (-77), 3) := by decide +kernel
theorem dX3_goodsHour_121 : decode cX3_goodsHour 121 = .ok (.bipush (-2), 2) := by decide +kernel
theorem dX3_goodsHour_123 : decode cX3_goodsHour 123 = .ok (.ireturn, 1) := by decide +kernel
theorem dX3_tryRules_0 : decode cX3_tryRules 0 = .ok (.aload_n 0, 1) := by decide +kernel
theorem dX3_tryRules_1 : decode cX3_tryRules 1 = .ok (.iconst 0, 1) := by decide +kernel
theorem dX3_tryRules_2 : decode cX3_tryRules 2 = .ok (.putfield 78, 3) := by decide +kernel
theorem dX3_tryRules_5 : decode cX3_tryRules 5 = .ok (.aload_n 0, 1) := by decide +kernel
theorem dX3_tryRules_6 : decode cX3_tryRules 6 = .ok (.bipush (-2), 2) := by decide +kernel
theorem dX3_tryRules_8 : decode cX3_tryRules 8 = .ok (.putfield 81, 3) := by decide +kernel
theorem dX3_tryRules_11 : decode cX3_tryRules 11 = .ok (.iconst (-1), 1) := by decide +kernel
theorem dX3_tryRules_12 : decode cX3_tryRules 12 = .ok (.istore 5, 2) := by decide +kernel
theorem dX3_tryRules_14 : decode cX3_tryRules 14 = .ok (.iload 5, 2) := by decide +kernel
theorem dX3_tryRules_16 : decode cX3_tryRules 16 = .ok (.iload_n 3, 1) := by decide +kernel
theorem dX3_tryRules_17 : decode cX3_tryRules 17 = .ok (.if_icmp .ge 66, 3) := by decide +kernel
theorem dX3_tryRules_20 : decode cX3_tryRules 20 = .ok (.iload 5, 2) := by decide +kernel
theorem dX3_tryRules_22 : decode cX3_tryRules 22 = .ok (.aload_n 2, 1) := by decide +kernel
theorem dX3_tryRules_23 : decode cX3_tryRules 23 = .ok (.arraylength, 1) := by decide +kernel
theorem dX3_tryRules_24 : decode cX3_tryRules 24 = .ok (.if_icmp .ge 59, 3) := by decide +kernel
theorem dX3_tryRules_27 : decode cX3_tryRules 27 = .ok (.aload_n 0, 1) := by decide +kernel
theorem dX3_tryRules_28 : decode cX3_tryRules 28 = .ok (.aload_n 1, 1) := by decide +kernel
theorem dX3_tryRules_29 : decode cX3_tryRules 29 = .ok (.iload 5, 2) := by decide +kernel
theorem dX3_tryRules_31 : decode cX3_tryRules 31 = .ok (.iconst (-1), 1) := by decide +kernel
theorem dX3_tryRules_32 : decode cX3_tryRules 32 = .ok (.if_icmp .ne 7, 3) := by decide +kernel
theorem dX3_tryRules_35 : decode cX3_tryRules 35 = .ok (.aconst_null, 1) := by decide +kernel
theorem dX3_tryRules_36 : decode cX3_tryRules 36 = .ok (.goto 7, 3) := by decide +kernel
theorem dX3_tryRules_39 : decode cX3_tryRules 39 = .ok (.aload_n 2, 1) := by decide +kernel
theorem dX3_tryRules_40 : decode cX3_tryRules 40 = .ok (.iload 5, 2) := by decide +kernel
theorem dX3_tryRules_42 : decode cX3_tryRules 42 = .ok (.aaload, 1) := by decide +kernel
theorem dX3_tryRules_43 : decode cX3_tryRules 43 = .ok (.iload 4, 2) := by decide +kernel
theorem dX3_tryRules_45 : decode cX3_tryRules 45 = .ok (.invokevirtual 84, 3) := by decide +kernel
theorem dX3_tryRules_48 : decode cX3_tryRules 48 = .ok (.ifCond .ne 6, 3) := by decide +kernel
theorem dX3_tryRules_51 : decode cX3_tryRules 51 = .ok (.goto 26, 3) := by decide +kernel
theorem dX3_tryRules_54 : decode cX3_tryRules 54 = .ok (.aload_n 0, 1) := by decide +kernel
theorem dX3_tryRules_55 : decode cX3_tryRules 55 = .ok (.getfield 78, 3) := by decide +kernel
theorem dX3_tryRules_58 : decode cX3_tryRules 58 = .ok (.ifCond .ne 9, 3) := by decide +kernel
theorem dX3_tryRules_61 : decode cX3_tryRules 61 = .ok (.aload_n 0, 1) := by decide +kernel
theorem dX3_tryRules_62 : decode cX3_tryRules 62 = .ok (.iload 5, 2) := by decide +kernel
theorem dX3_tryRules_64 : decode cX3_tryRules 64 = .ok (.putfield 81, 3) := by decide +kernel
theorem dX3_tryRules_67 : decode cX3_tryRules 67 = .ok (.aload_n 0, 1) := by decide +kernel
theorem dX3_tryRules_68 : decode cX3_tryRules 68 = .ok (.dup, 1) := by decide +kernel
theorem dX3_tryRules_69 : decode cX3_tryRules 69 = .ok (.getfield 78, 3) := by decide +kernel
theorem dX3_tryRules_72 : decode cX3_tryRules 72 = .ok (.iconst 1, 1) := by decide +kernel
theorem dX3_tryRules_73 : decode cX3_tryRules 73 = .ok (.iadd, 1) := by decide +kernel
theorem dX3_tryRules_74 : decode cX3_tryRules 74 = .ok (.putfield 78, 3) := by decide +kernel
theorem dX3_tryRules_77 : decode cX3_tryRules 77 = .ok (.iinc 5 1, 3) := by decide +kernel
theorem dX3_tryRules_80 : decode cX3_tryRules 80 = .ok (.goto (-66), 3) := by decide +kernel
theorem dX3_tryRules_83 : decode cX3_tryRules 83 = .ok (.return_, 1) := by decide +kernel
theorem dX3_fits_0 : decode cX3_fits 0 = .ok (.aload_n 0, 1) := by decide +kernel
theorem dX3_fits_1 : decode cX3_fits 1 = .ok (.getfield 19, 3) := by decide +kernel
theorem dX3_fits_4 : decode cX3_fits 4 = .ok (.aload_n 1, 1) := by decide +kernel
theorem dX3_fits_5 : decode cX3_fits 5 = .ok (.getfield 88, 3) := by decide +kernel
theorem dX3_fits_8 : decode cX3_fits 8 = .ok (.getfield 56, 3) := by decide +kernel
theorem dX3_fits_11 : decode cX3_fits 11 = .ok (.invokevirtual 93, 3) := by decide +kernel
theorem dX3_fits_14 : decode cX3_fits 14 = .ok (.aload_n 1, 1) := by decide +kernel
theorem dX3_fits_15 : decode cX3_fits 15 = .ok (.invokevirtual 97, 3) := by decide +kernel
theorem dX3_fits_18 : decode cX3_fits 18 = .ok (.iload_n 3, 1) := by decide +kernel
theorem dX3_fits_19 : decode cX3_fits 19 = .ok (.invokestatic 101, 3) := by decide +kernel
theorem dX3_fits_22 : decode cX3_fits 22 = .ok (.istore 4, 2) := by decide +kernel
theorem dX3_fits_24 : decode cX3_fits 24 = .ok (.iconst 0, 1) := by decide +kernel
theorem dX3_fits_25 : decode cX3_fits 25 = .ok (.istore 5, 2) := by decide +kernel
theorem dX3_fits_27 : decode cX3_fits 27 = .ok (.iload 5, 2) := by decide +kernel
theorem dX3_fits_29 : decode cX3_fits 29 = .ok (.iload 4, 2) := by decide +kernel
theorem dX3_fits_31 : decode cX3_fits 31 = .ok (.if_icmp .gt 45, 3) := by decide +kernel
theorem dX3_fits_34 : decode cX3_fits 34 = .ok (.aload_n 1, 1) := by decide +kernel
theorem dX3_fits_35 : decode cX3_fits 35 = .ok (.aload_n 0, 1) := by decide +kernel
theorem dX3_fits_36 : decode cX3_fits 36 = .ok (.getfield 19, 3) := by decide +kernel
theorem dX3_fits_39 : decode cX3_fits 39 = .ok (.invokevirtual 107, 3) := by decide +kernel
theorem dX3_fits_42 : decode cX3_fits 42 = .ok (.ifCond .ne 5, 3) := by decide +kernel
theorem dX3_fits_45 : decode cX3_fits 45 = .ok (.iconst 0, 1) := by decide +kernel
theorem dX3_fits_46 : decode cX3_fits 46 = .ok (.ireturn, 1) := by decide +kernel
theorem dX3_fits_47 : decode cX3_fits 47 = .ok (.iload 5, 2) := by decide +kernel
theorem dX3_fits_49 : decode cX3_fits 49 = .ok (.iload_n 3, 1) := by decide +kernel
theorem dX3_fits_50 : decode cX3_fits 50 = .ok (.if_icmp .ne 7, 3) := by decide +kernel
theorem dX3_fits_53 : decode cX3_fits 53 = .ok (.aload_n 0, 1) := by decide +kernel
theorem dX3_fits_54 : decode cX3_fits 54 = .ok (.invokevirtual 111, 3) := by decide +kernel
theorem dX3_fits_57 : decode cX3_fits 57 = .ok (.aload_n 0, 1) := by decide +kernel
theorem dX3_fits_58 : decode cX3_fits 58 = .ok (.getfield 15, 3) := by decide +kernel
theorem dX3_fits_61 : decode cX3_fits 61 = .ok (.aload_n 0, 1) := by decide +kernel
theorem dX3_fits_62 : decode cX3_fits 62 = .ok (.getfield 19, 3) := by decide +kernel
theorem dX3_fits_65 : decode cX3_fits 65 = .ok (.aload_n 2, 1) := by decide +kernel
theorem dX3_fits_66 : decode cX3_fits 66 = .ok (.invokevirtual 29, 3) := by decide +kernel
theorem dX3_fits_69 : decode cX3_fits 69 = .ok (.pop, 1) := by decide +kernel
theorem dX3_fits_70 : decode cX3_fits 70 = .ok (.iinc 5 1, 3) := by decide +kernel
theorem dX3_fits_73 : decode cX3_fits 73 = .ok (.goto (-46), 3) := by decide +kernel
theorem dX3_fits_76 : decode cX3_fits 76 = .ok (.iconst 1, 1) := by decide +kernel
theorem dX3_fits_77 : decode cX3_fits 77 = .ok (.ireturn, 1) := by decide +kernel
theorem dX3_keepCrowds_0 : decode cX3_keepCrowds 0 = .ok (.aload_n 0, 1) := by decide +kernel
theorem dX3_keepCrowds_1 : decode cX3_keepCrowds 1 = .ok (.getfield 78, 3) := by decide +kernel
theorem dX3_keepCrowds_4 : decode cX3_keepCrowds 4 = .ok (.bipush 9, 2) := by decide +kernel
theorem dX3_keepCrowds_6 : decode cX3_keepCrowds 6 = .ok (.imul, 1) := by decide +kernel
theorem dX3_keepCrowds_7 : decode cX3_keepCrowds 7 = .ok (.istore_n 1, 1) := by decide +kernel
theorem dX3_keepCrowds_8 : decode cX3_keepCrowds 8 = .ok (.iconst 0, 1) := by decide +kernel
theorem dX3_keepCrowds_9 : decode cX3_keepCrowds 9 = .ok (.istore_n 2, 1) := by decide +kernel
theorem dX3_keepCrowds_10 : decode cX3_keepCrowds 10 = .ok (.iload_n 2, 1) := by decide +kernel
theorem dX3_keepCrowds_11 : decode cX3_keepCrowds 11 = .ok (.aload_n 0, 1) := by decide +kernel
theorem dX3_keepCrowds_12 : decode cX3_keepCrowds 12 = .ok (.getfield 19, 3) := by decide +kernel
theorem dX3_keepCrowds_15 : decode cX3_keepCrowds 15 = .ok (.getfield 56, 3) := by decide +kernel
theorem dX3_keepCrowds_18 : decode cX3_keepCrowds 18 = .ok (.getfield 60, 3) := by decide +kernel
theorem dX3_keepCrowds_21 : decode cX3_keepCrowds 21 = .ok (.if_icmp .ge 36, 3) := by decide +kernel
theorem dX3_keepCrowds_24 : decode cX3_keepCrowds 24 = .ok (.iload_n 1, 1) := by decide +kernel
theorem dX3_keepCrowds_25 : decode cX3_keepCrowds 25 = .ok (.iload_n 2, 1) := by decide +kernel
theorem dX3_keepCrowds_26 : decode cX3_keepCrowds 26 = .ok (.iadd, 1) := by decide +kernel
theorem dX3_keepCrowds_27 : decode cX3_keepCrowds 27 = .ok (.aload_n 0, 1) := by decide +kernel
theorem dX3_keepCrowds_28 : decode cX3_keepCrowds 28 = .ok (.getfield 11, 3) := by decide +kernel
theorem dX3_keepCrowds_31 : decode cX3_keepCrowds 31 = .ok (.arraylength, 1) := by decide +kernel
theorem dX3_keepCrowds_32 : decode cX3_keepCrowds 32 = .ok (.if_icmp .ge 25, 3) := by decide +kernel
theorem dX3_keepCrowds_35 : decode cX3_keepCrowds 35 = .ok (.aload_n 0, 1) := by decide +kernel
theorem dX3_keepCrowds_36 : decode cX3_keepCrowds 36 = .ok (.getfield 11, 3) := by decide +kernel
theorem dX3_keepCrowds_39 : decode cX3_keepCrowds 39 = .ok (.iload_n 1, 1) := by decide +kernel
theorem dX3_keepCrowds_40 : decode cX3_keepCrowds 40 = .ok (.iload_n 2, 1) := by decide +kernel
theorem dX3_keepCrowds_41 : decode cX3_keepCrowds 41 = .ok (.iadd, 1) := by decide +kernel
theorem dX3_keepCrowds_42 : decode cX3_keepCrowds 42 = .ok (.aload_n 0, 1) := by decide +kernel
theorem dX3_keepCrowds_43 : decode cX3_keepCrowds 43 = .ok (.getfield 19, 3) := by decide +kernel
theorem dX3_keepCrowds_46 : decode cX3_keepCrowds 46 = .ok (.iload_n 2, 1) := by decide +kernel
theorem dX3_keepCrowds_47 : decode cX3_keepCrowds 47 = .ok (.invokevirtual 74, 3) := by decide +kernel
theorem dX3_keepCrowds_50 : decode cX3_keepCrowds 50 = .ok (.iastore, 1) := by decide +kernel
theorem dX3_keepCrowds_51 : decode cX3_keepCrowds 51 = .ok (.iinc 2 1, 3) := by decide +kernel
theorem dX3_keepCrowds_54 : decode cX3_keepCrowds 54 = .ok (.goto (-44), 3) := by decide +kernel
theorem dX3_keepCrowds_57 : decode cX3_keepCrowds 57 = .ok (.return_, 1) := by decide +kernel
theorem dX3_findPartingRung_0 : decode cX3_findPartingRung 0 = .ok (.aload_n 0, 1) := by decide +kernel
theorem dX3_findPartingRung_1 : decode cX3_findPartingRung 1 = .ok (.iconst (-1), 1) := by decide +kernel
theorem dX3_findPartingRung_2 : decode cX3_findPartingRung 2 = .ok (.putfield 114, 3) := by decide +kernel
theorem dX3_findPartingRung_5 : decode cX3_findPartingRung 5 = .ok (.aload_n 0, 1) := by decide +kernel
theorem dX3_findPartingRung_6 : decode cX3_findPartingRung 6 = .ok (.bipush 8, 2) := by decide +kernel
theorem dX3_findPartingRung_8 : decode cX3_findPartingRung 8 = .ok (.putfield 117, 3) := by decide +kernel
theorem dX3_findPartingRung_11 : decode cX3_findPartingRung 11 = .ok (.iconst 0, 1) := by decide +kernel
theorem dX3_findPartingRung_12 : decode cX3_findPartingRung 12 = .ok (.istore_n 2, 1) := by decide +kernel
theorem dX3_findPartingRung_13 : decode cX3_findPartingRung 13 = .ok (.iload_n 2, 1) := by decide +kernel
theorem dX3_findPartingRung_14 : decode cX3_findPartingRung 14 = .ok (.iload_n 1, 1) := by decide +kernel
theorem dX3_findPartingRung_15 : decode cX3_findPartingRung 15 = .ok (.if_icmp .ge 39, 3) := by decide +kernel
theorem dX3_findPartingRung_18 : decode cX3_findPartingRung 18 = .ok (.iload_n 2, 1) := by decide +kernel
theorem dX3_findPartingRung_19 : decode cX3_findPartingRung 19 = .ok (.bipush 9, 2) := by decide +kernel
theorem dX3_findPartingRung_21 : decode cX3_findPartingRung 21 = .ok (.if_icmp .ge 33, 3) := by decide +kernel
theorem dX3_findPartingRung_24 : decode cX3_findPartingRung 24 = .ok (.aload_n 0, 1) := by decide +kernel
theorem dX3_findPartingRung_25 : decode cX3_findPartingRung 25 = .ok (.iload_n 2, 1) := by decide +kernel
theorem dX3_findPartingRung_26 : decode cX3_findPartingRung 26 = .ok (.invokevirtual 120, 3) := by decide +kernel
theorem dX3_findPartingRung_29 : decode cX3_findPartingRung 29 = .ok (.istore_n 3, 1) := by decide +kernel
theorem dX3_findPartingRung_30 : decode cX3_findPartingRung 30 = .ok (.iload_n 3, 1) := by decide +kernel
theorem dX3_findPartingRung_31 : decode cX3_findPartingRung 31 = .ok (.aload_n 0, 1) := by decide +kernel
theorem dX3_findPartingRung_32 : decode cX3_findPartingRung 32 = .ok (.getfield 117, 3) := by decide +kernel
theorem dX3_findPartingRung_35 : decode cX3_findPartingRung 35 = .ok (.if_icmp .ge 13, 3) := by decide +kernel
theorem dX3_findPartingRung_38 : decode cX3_findPartingRung 38 = .ok (.aload_n 0, 1) := by decide +kernel
theorem dX3_findPartingRung_39 : decode cX3_findPartingRung 39 = .ok (.iload_n 3, 1) := by decide +kernel
theorem dX3_findPartingRung_40 : decode cX3_findPartingRung 40 = .ok (.putfield 117, 3) := by decide +kernel
theorem dX3_findPartingRung_43 : decode cX3_findPartingRung 43 = .ok (.aload_n 0, 1) := by decide +kernel
theorem dX3_findPartingRung_44 : decode cX3_findPartingRung 44 = .ok (.iload_n 2, 1) := by decide +kernel
theorem dX3_findPartingRung_45 : decode cX3_findPartingRung 45 = .ok (.putfield 114, 3) := by decide +kernel
theorem dX3_findPartingRung_48 : decode cX3_findPartingRung 48 = .ok (.iinc 2 1, 3) := by decide +kernel
theorem dX3_findPartingRung_51 : decode cX3_findPartingRung 51 = .ok (.goto (-38), 3) := by decide +kernel
theorem dX3_findPartingRung_54 : decode cX3_findPartingRung 54 = .ok (.return_, 1) := by decide +kernel
theorem dX3_largestGroup_0 : decode cX3_largestGroup 0 = .ok (.iconst 0, 1) := by decide +kernel
theorem dX3_largestGroup_1 : decode cX3_largestGroup 1 = .ok (.istore_n 2, 1) := by decide +kernel
theorem dX3_largestGroup_2 : decode cX3_largestGroup 2 = .ok (.iconst 0, 1) := by decide +kernel
theorem dX3_largestGroup_3 : decode cX3_largestGroup 3 = .ok (.istore_n 3, 1) := by decide +kernel
theorem dX3_largestGroup_4 : decode cX3_largestGroup 4 = .ok (.iload_n 3, 1) := by decide +kernel
theorem dX3_largestGroup_5 : decode cX3_largestGroup 5 = .ok (.iconst 4, 1) := by decide +kernel
theorem dX3_largestGroup_6 : decode cX3_largestGroup 6 = .ok (.if_icmp .gt 63, 3) := by decide +kernel
theorem dX3_largestGroup_9 : decode cX3_largestGroup 9 = .ok (.iconst 0, 1) := by decide +kernel
theorem dX3_largestGroup_10 : decode cX3_largestGroup 10 = .ok (.istore 4, 2) := by decide +kernel
theorem dX3_largestGroup_12 : decode cX3_largestGroup 12 = .ok (.iconst 0, 1) := by decide +kernel
theorem dX3_largestGroup_13 : decode cX3_largestGroup 13 = .ok (.istore 5, 2) := by decide +kernel
theorem dX3_largestGroup_15 : decode cX3_largestGroup 15 = .ok (.iload 5, 2) := by decide +kernel
theorem dX3_largestGroup_17 : decode cX3_largestGroup 17 = .ok (.aload_n 0, 1) := by decide +kernel
theorem dX3_largestGroup_18 : decode cX3_largestGroup 18 = .ok (.getfield 78, 3) := by decide +kernel
theorem dX3_largestGroup_21 : decode cX3_largestGroup 21 = .ok (.if_icmp .ge 35, 3) := by decide +kernel
theorem dX3_largestGroup_24 : decode cX3_largestGroup 24 = .ok (.iload 5, 2) := by decide +kernel
theorem dX3_largestGroup_26 : decode cX3_largestGroup 26 = .ok (.bipush 7, 2) := by decide +kernel
theorem dX3_largestGroup_28 : decode cX3_largestGroup 28 = .ok (.if_icmp .ge 28, 3) := by decide +kernel
theorem dX3_largestGroup_31 : decode cX3_largestGroup 31 = .ok (.aload_n 0, 1) := by decide +kernel
theorem dX3_largestGroup_32 : decode cX3_largestGroup 32 = .ok (.getfield 11, 3) := by decide +kernel
theorem dX3_largestGroup_35 : decode cX3_largestGroup 35 = .ok (.iload 5, 2) := by decide +kernel
theorem dX3_largestGroup_37 : decode cX3_largestGroup 37 = .ok (.bipush 9, 2) := by decide +kernel
theorem dX3_largestGroup_39 : decode cX3_largestGroup 39 = .ok (.imul, 1) := by decide +kernel
theorem dX3_largestGroup_40 : decode cX3_largestGroup 40 = .ok (.iload_n 1, 1) := by decide +kernel
theorem dX3_largestGroup_41 : decode cX3_largestGroup 41 = .ok (.iadd, 1) := by decide +kernel
theorem dX3_largestGroup_42 : decode cX3_largestGroup 42 = .ok (.iaload, 1) := by decide +kernel
theorem dX3_largestGroup_43 : decode cX3_largestGroup 43 = .ok (.iload_n 3, 1) := by decide +kernel
theorem dX3_largestGroup_44 : decode cX3_largestGroup 44 = .ok (.if_icmp .ne 6, 3) := by decide +kernel
theorem dX3_largestGroup_47 : decode cX3_largestGroup 47 = .ok (.iinc 4 1, 3) := by decide +kernel
theorem dX3_largestGroup_50 : decode cX3_largestGroup 50 = .ok (.iinc 5 1, 3) := by decide +kernel
theorem dX3_largestGroup_53 : decode cX3_largestGroup 53 = .ok (.goto (-38), 3) := by decide +kernel
theorem dX3_largestGroup_56 : decode cX3_largestGroup 56 = .ok (.iload_n 2, 1) := by decide +kernel
theorem dX3_largestGroup_57 : decode cX3_largestGroup 57 = .ok (.iload 4, 2) := by decide +kernel
theorem dX3_largestGroup_59 : decode cX3_largestGroup 59 = .ok (.invokestatic 101, 3) := by decide +kernel
theorem dX3_largestGroup_62 : decode cX3_largestGroup 62 = .ok (.istore_n 2, 1) := by decide +kernel
theorem dX3_largestGroup_63 : decode cX3_largestGroup 63 = .ok (.iinc 3 1, 3) := by decide +kernel
theorem dX3_largestGroup_66 : decode cX3_largestGroup 66 = .ok (.goto (-62), 3) := by decide +kernel
theorem dX3_largestGroup_69 : decode cX3_largestGroup 69 = .ok (.iload_n 2, 1) := by decide +kernel
theorem dX3_largestGroup_70 : decode cX3_largestGroup 70 = .ok (.ireturn, 1) := by decide +kernel
theorem dX3_blow_0 : decode cX3_blow 0 = .ok (.aload_n 0, 1) := by decide +kernel
theorem dX3_blow_1 : decode cX3_blow 1 = .ok (.aload_n 1, 1) := by decide +kernel
theorem dX3_blow_2 : decode cX3_blow 2 = .ok (.getfield 123, 3) := by decide +kernel
theorem dX3_blow_5 : decode cX3_blow 5 = .ok (.putfield 126, 3) := by decide +kernel
theorem dX3_blow_8 : decode cX3_blow 8 = .ok (.aload_n 0, 1) := by decide +kernel
theorem dX3_blow_9 : decode cX3_blow 9 = .ok (.iconst 0, 1) := by decide +kernel
theorem dX3_blow_10 : decode cX3_blow 10 = .ok (.putfield 129, 3) := by decide +kernel
theorem dX3_blow_13 : decode cX3_blow 13 = .ok (.aload_n 0, 1) := by decide +kernel
theorem dX3_blow_14 : decode cX3_blow 14 = .ok (.iconst 0, 1) := by decide +kernel
theorem dX3_blow_15 : decode cX3_blow 15 = .ok (.putfield 132, 3) := by decide +kernel
theorem dX3_blow_18 : decode cX3_blow 18 = .ok (.aload_n 1, 1) := by decide +kernel
theorem dX3_blow_19 : decode cX3_blow 19 = .ok (.getfield 88, 3) := by decide +kernel
theorem dX3_blow_22 : decode cX3_blow 22 = .ok (.invokevirtual 135, 3) := by decide +kernel
theorem dX3_blow_25 : decode cX3_blow 25 = .ok (.invokestatic 138, 3) := by decide +kernel
theorem dX3_blow_28 : decode cX3_blow 28 = .ok (.istore 6, 2) := by decide +kernel
theorem dX3_blow_30 : decode cX3_blow 30 = .ok (.iconst 0, 1) := by decide +kernel
theorem dX3_blow_31 : decode cX3_blow 31 = .ok (.istore 7, 2) := by decide +kernel
theorem dX3_blow_33 : decode cX3_blow 33 = .ok (.iload 7, 2) := by decide +kernel
theorem dX3_blow_35 : decode cX3_blow 35 = .ok (.iload_n 3, 1) := by decide +kernel
theorem dX3_blow_36 : decode cX3_blow 36 = .ok (.if_icmp .ge 85, 3) := by decide +kernel
theorem dX3_blow_39 : decode cX3_blow 39 = .ok (.aload_n 0, 1) := by decide +kernel
theorem dX3_blow_40 : decode cX3_blow 40 = .ok (.getfield 19, 3) := by decide +kernel
theorem dX3_blow_43 : decode cX3_blow 43 = .ok (.aload_n 1, 1) := by decide +kernel
theorem dX3_blow_44 : decode cX3_blow 44 = .ok (.getfield 88, 3) := by decide +kernel
theorem dX3_blow_47 : decode cX3_blow 47 = .ok (.invokevirtual 23, 3) := by decide +kernel
theorem dX3_blow_50 : decode cX3_blow 50 = .ok (.iconst 0, 1) := by decide +kernel
theorem dX3_blow_51 : decode cX3_blow 51 = .ok (.istore 8, 2) := by decide +kernel
theorem dX3_blow_53 : decode cX3_blow 53 = .ok (.iload 8, 2) := by decide +kernel
theorem dX3_blow_55 : decode cX3_blow 55 = .ok (.iload 4, 2) := by decide +kernel
theorem dX3_blow_57 : decode cX3_blow 57 = .ok (.if_icmp .ge 36, 3) := by decide +kernel
theorem dX3_blow_60 : decode cX3_blow 60 = .ok (.aload_n 0, 1) := by decide +kernel
theorem dX3_blow_61 : decode cX3_blow 61 = .ok (.iload 5, 2) := by decide +kernel
theorem dX3_blow_63 : decode cX3_blow 63 = .ok (.invokevirtual 143, 3) := by decide +kernel
theorem dX3_blow_66 : decode cX3_blow 66 = .ok (.aload_n 0, 1) := by decide +kernel
theorem dX3_blow_67 : decode cX3_blow 67 = .ok (.dup, 1) := by decide +kernel
theorem dX3_blow_68 : decode cX3_blow 68 = .ok (.getfield 129, 3) := by decide +kernel
theorem dX3_blow_71 : decode cX3_blow 71 = .ok (.aload_n 0, 1) := by decide +kernel
theorem dX3_blow_72 : decode cX3_blow 72 = .ok (.getfield 15, 3) := by decide +kernel
theorem dX3_blow_75 : decode cX3_blow 75 = .ok (.aload_n 0, 1) := by decide +kernel
theorem dX3_blow_76 : decode cX3_blow 76 = .ok (.getfield 19, 3) := by decide +kernel
theorem dX3_blow_79 : decode cX3_blow 79 = .ok (.aload_n 2, 1) := by decide +kernel
theorem dX3_blow_80 : decode cX3_blow 80 = .ok (.invokevirtual 29, 3) := by decide +kernel
theorem dX3_blow_83 : decode cX3_blow 83 = .ok (.iadd, 1) := by decide +kernel
theorem dX3_blow_84 : decode cX3_blow 84 = .ok (.putfield 129, 3) := by decide +kernel
theorem dX3_blow_87 : decode cX3_blow 87 = .ok (.iinc 8 1, 3) := by decide +kernel
theorem dX3_blow_90 : decode cX3_blow 90 = .ok (.goto (-37), 3) := by decide +kernel
theorem dX3_blow_93 : decode cX3_blow 93 = .ok (.aload_n 0, 1) := by decide +kernel
theorem dX3_blow_94 : decode cX3_blow 94 = .ok (.dup, 1) := by decide +kernel
theorem dX3_blow_95 : decode cX3_blow 95 = .ok (.getfield 132, 3) := by decide +kernel
theorem dX3_blow_98 : decode cX3_blow 98 = .ok (.iload 6, 2) := by decide +kernel
theorem dX3_blow_100 : decode cX3_blow 100 = .ok (.aload_n 0, 1) := by decide +kernel
theorem dX3_blow_101 : decode cX3_blow 101 = .ok (.getfield 19, 3) := by decide +kernel
theorem dX3_blow_104 : decode cX3_blow 104 = .ok (.invokevirtual 135, 3) := by decide +kernel
theorem dX3_blow_107 : decode cX3_blow 107 = .ok (.invokestatic 138, 3) := by decide +kernel
theorem dX3_blow_110 : decode cX3_blow 110 = .ok (.isub, 1) := by decide +kernel
theorem dX3_blow_111 : decode cX3_blow 111 = .ok (.iadd, 1) := by decide +kernel
theorem dX3_blow_112 : decode cX3_blow 112 = .ok (.putfield 132, 3) := by decide +kernel
theorem dX3_blow_115 : decode cX3_blow 115 = .ok (.iinc 7 1, 3) := by decide +kernel
theorem dX3_blow_118 : decode cX3_blow 118 = .ok (.goto (-85), 3) := by decide +kernel
theorem dX3_blow_121 : decode cX3_blow 121 = .ok (.return_, 1) := by decide +kernel
theorem dX3_loosen_0 : decode cX3_loosen 0 = .ok (.iconst 0, 1) := by decide +kernel
theorem dX3_loosen_1 : decode cX3_loosen 1 = .ok (.istore_n 2, 1) := by decide +kernel
theorem dX3_loosen_2 : decode cX3_loosen 2 = .ok (.iload_n 2, 1) := by decide +kernel
theorem dX3_loosen_3 : decode cX3_loosen 3 = .ok (.aload_n 0, 1) := by decide +kernel
theorem dX3_loosen_4 : decode cX3_loosen 4 = .ok (.getfield 19, 3) := by decide +kernel
theorem dX3_loosen_7 : decode cX3_loosen 7 = .ok (.getfield 56, 3) := by decide +kernel
theorem dX3_loosen_10 : decode cX3_loosen 10 = .ok (.getfield 146, 3) := by decide +kernel
theorem dX3_loosen_13 : decode cX3_loosen 13 = .ok (.if_icmp .ge 55, 3) := by decide +kernel
theorem dX3_loosen_16 : decode cX3_loosen 16 = .ok (.aload_n 0, 1) := by decide +kernel
theorem dX3_loosen_17 : decode cX3_loosen 17 = .ok (.getfield 19, 3) := by decide +kernel
theorem dX3_loosen_20 : decode cX3_loosen 20 = .ok (.iload_n 2, 1) := by decide +kernel
theorem dX3_loosen_21 : decode cX3_loosen 21 = .ok (.invokevirtual 149, 3) := by decide +kernel
theorem dX3_loosen_24 : decode cX3_loosen 24 = .ok (.ifCond .ne 38, 3) := by decide +kernel
theorem dX3_loosen_27 : decode cX3_loosen 27 = .ok (.aload_n 0, 1) := by decide +kernel
theorem dX3_loosen_28 : decode cX3_loosen 28 = .ok (.invokevirtual 152, 3) := by decide +kernel
theorem dX3_loosen_31 : decode cX3_loosen 31 = .ok (.bipush 100, 2) := by decide +kernel
theorem dX3_loosen_33 : decode cX3_loosen 33 = .ok (.irem, 1) := by decide +kernel
theorem dX3_loosen_34 : decode cX3_loosen 34 = .ok (.iload_n 1, 1) := by decide +kernel
theorem dX3_loosen_35 : decode cX3_loosen 35 = .ok (.if_icmp .ge 27, 3) := by decide +kernel
theorem dX3_loosen_38 : decode cX3_loosen 38 = .ok (.aload_n 0, 1) := by decide +kernel
theorem dX3_loosen_39 : decode cX3_loosen 39 = .ok (.getfield 19, 3) := by decide +kernel
theorem dX3_loosen_42 : decode cX3_loosen 42 = .ok (.getfield 155, 3) := by decide +kernel
theorem dX3_loosen_45 : decode cX3_loosen 45 = .ok (.iload_n 2, 1) := by decide +kernel
theorem dX3_loosen_46 : decode cX3_loosen 46 = .ok (.iconst 1, 1) := by decide +kernel
theorem dX3_loosen_47 : decode cX3_loosen 47 = .ok (.aload_n 0, 1) := by decide +kernel
theorem dX3_loosen_48 : decode cX3_loosen 48 = .ok (.getfield 19, 3) := by decide +kernel
theorem dX3_loosen_51 : decode cX3_loosen 51 = .ok (.getfield 155, 3) := by decide +kernel
theorem dX3_loosen_54 : decode cX3_loosen 54 = .ok (.iload_n 2, 1) := by decide +kernel
theorem dX3_loosen_55 : decode cX3_loosen 55 = .ok (.iaload, 1) := by decide +kernel
theorem dX3_loosen_56 : decode cX3_loosen 56 = .ok (.iconst 1, 1) := by decide +kernel
theorem dX3_loosen_57 : decode cX3_loosen 57 = .ok (.isub, 1) := by decide +kernel
theorem dX3_loosen_58 : decode cX3_loosen 58 = .ok (.invokestatic 101, 3) := by decide +kernel
theorem dX3_loosen_61 : decode cX3_loosen 61 = .ok (.iastore, 1) := by decide +kernel
theorem dX3_loosen_62 : decode cX3_loosen 62 = .ok (.iinc 2 1, 3) := by decide +kernel
theorem dX3_loosen_65 : decode cX3_loosen 65 = .ok (.goto (-63), 3) := by decide +kernel
theorem dX3_loosen_68 : decode cX3_loosen 68 = .ok (.return_, 1) := by decide +kernel
theorem dX3_draw_0 : decode cX3_draw 0 = .ok (.aload_n 0, 1) := by decide +kernel
theorem dX3_draw_1 : decode cX3_draw 1 = .ok (.aload_n 0, 1) := by decide +kernel
theorem dX3_draw_2 : decode cX3_draw 2 = .ok (.getfield 126, 3) := by decide +kernel
theorem dX3_draw_5 : decode cX3_draw 5 = .ok (.i2l, 1) := by decide +kernel
theorem dX3_draw_6 : decode cX3_draw 6 = .ok (.ldc2_w 158, 3) := by decide +kernel
theorem dX3_draw_9 : decode cX3_draw 9 = .ok (.lmul, 1) := by decide +kernel
theorem dX3_draw_10 : decode cX3_draw 10 = .ok (.ldc2_w 160, 3) := by decide +kernel
theorem dX3_draw_13 : decode cX3_draw 13 = .ok (.ladd, 1) := by decide +kernel
theorem dX3_draw_14 : decode cX3_draw 14 = .ok (.ldc2_w 162, 3) := by decide +kernel
theorem dX3_draw_17 : decode cX3_draw 17 = .ok (.lrem, 1) := by decide +kernel
theorem dX3_draw_18 : decode cX3_draw 18 = .ok (.l2i, 1) := by decide +kernel
theorem dX3_draw_19 : decode cX3_draw 19 = .ok (.putfield 126, 3) := by decide +kernel
theorem dX3_draw_22 : decode cX3_draw 22 = .ok (.aload_n 0, 1) := by decide +kernel
theorem dX3_draw_23 : decode cX3_draw 23 = .ok (.getfield 126, 3) := by decide +kernel
theorem dX3_draw_26 : decode cX3_draw 26 = .ok (.ldc 164, 2) := by decide +kernel
theorem dX3_draw_28 : decode cX3_draw 28 = .ok (.idiv, 1) := by decide +kernel
theorem dX3_draw_29 : decode cX3_draw 29 = .ok (.ireturn, 1) := by decide +kernel
theorem dX4_init_0 : decode cX4_init 0 = .ok (.aload_n 0, 1) := by decide +kernel
theorem dX4_init_1 : decode cX4_init 1 = .ok (.invokespecial 3, 3) := by decide +kernel
theorem dX4_init_4 : decode cX4_init 4 = .ok (.aload_n 0, 1) := by decide +kernel
theorem dX4_init_5 : decode cX4_init 5 = .ok (.iconst 0, 1) := by decide +kernel
theorem dX4_init_6 : decode cX4_init 6 = .ok (.newarray .int, 2) := by decide +kernel
theorem dX4_init_8 : decode cX4_init 8 = .ok (.putfield 9, 3) := by decide +kernel
theorem dX4_init_11 : decode cX4_init 11 = .ok (.aload_n 0, 1) := by decide +kernel
theorem dX4_init_12 : decode cX4_init 12 = .ok (.iconst 0, 1) := by decide +kernel
theorem dX4_init_13 : decode cX4_init 13 = .ok (.newarray .int, 2) := by decide +kernel
theorem dX4_init_15 : decode cX4_init 15 = .ok (.putfield 15, 3) := by decide +kernel
theorem dX4_init_18 : decode cX4_init 18 = .ok (.aload_n 0, 1) := by decide +kernel
theorem dX4_init_19 : decode cX4_init 19 = .ok (.iconst 4, 1) := by decide +kernel
theorem dX4_init_20 : decode cX4_init 20 = .ok (.newarray .int, 2) := by decide +kernel
theorem dX4_init_22 : decode cX4_init 22 = .ok (.putfield 18, 3) := by decide +kernel
theorem dX4_init_25 : decode cX4_init 25 = .ok (.aload_n 0, 1) := by decide +kernel
theorem dX4_init_26 : decode cX4_init 26 = .ok (.iconst 4, 1) := by decide +kernel
theorem dX4_init_27 : decode cX4_init 27 = .ok (.newarray .int, 2) := by decide +kernel
theorem dX4_init_29 : decode cX4_init 29 = .ok (.putfield 21, 3) := by decide +kernel
theorem dX4_init_32 : decode cX4_init 32 = .ok (.aload_n 0, 1) := by decide +kernel
theorem dX4_init_33 : decode cX4_init 33 = .ok (.bipush 9, 2) := by decide +kernel
theorem dX4_init_35 : decode cX4_init 35 = .ok (.newarray .int, 2) := by decide +kernel
theorem dX4_init_37 : decode cX4_init 37 = .ok (.putfield 24, 3) := by decide +kernel
theorem dX4_init_40 : decode cX4_init 40 = .ok (.aload_n 0, 1) := by decide +kernel
theorem dX4_init_41 : decode cX4_init 41 = .ok (.bipush 9, 2) := by decide +kernel
theorem dX4_init_43 : decode cX4_init 43 = .ok (.newarray .int, 2) := by decide +kernel
theorem dX4_init_45 : decode cX4_init 45 = .ok (.putfield 27, 3) := by decide +kernel
theorem dX4_init_48 : decode cX4_init 48 = .ok (.aload_n 0, 1) := by decide +kernel
theorem dX4_init_49 : decode cX4_init 49 = .ok (.bipush 9, 2) := by decide +kernel
theorem dX4_init_51 : decode cX4_init 51 = .ok (.newarray .int, 2) := by decide +kernel
theorem dX4_init_53 : decode cX4_init 53 = .ok (.putfield 30, 3) := by decide +kernel
theorem dX4_init_56 : decode cX4_init 56 = .ok (.aload_n 0, 1) := by decide +kernel
theorem dX4_init_57 : decode cX4_init 57 = .ok (.aload_n 1, 1) := by decide +kernel
theorem dX4_init_58 : decode cX4_init 58 = .ok (.putfield 33, 3) := by decide +kernel
theorem dX4_init_61 : decode cX4_init 61 = .ok (.return_, 1) := by decide +kernel
theorem dX4_fewestMoves_0 : decode cX4_fewestMoves 0 = .ok (.aload_n 0, 1) := by decide +kernel
theorem dX4_fewestMoves_1 : decode cX4_fewestMoves 1 = .ok (.iload_n 1, 1) := by decide +kernel
theorem dX4_fewestMoves_2 : decode cX4_fewestMoves 2 = .ok (.invokevirtual 37, 3) := by decide +kernel
theorem dX4_fewestMoves_5 : decode cX4_fewestMoves 5 = .ok (.ifCond .ne 6, 3) := by decide +kernel
theorem dX4_fewestMoves_8 : decode cX4_fewestMoves 8 = .ok (.bipush (-2), 2) := by decide +kernel
theorem dX4_fewestMoves_10 : decode cX4_fewestMoves 10 = .ok (.ireturn, 1) := by decide +kernel
theorem dX4_fewestMoves_11 : decode cX4_fewestMoves 11 = .ok (.iconst 0, 1) := by decide +kernel
theorem dX4_fewestMoves_12 : decode cX4_fewestMoves 12 = .ok (.istore_n 2, 1) := by decide +kernel
theorem dX4_fewestMoves_13 : decode cX4_fewestMoves 13 = .ok (.iload_n 2, 1) := by decide +kernel
theorem dX4_fewestMoves_14 : decode cX4_fewestMoves 14 = .ok (.aload_n 0, 1) := by decide +kernel
theorem dX4_fewestMoves_15 : decode cX4_fewestMoves 15 = .ok (.getfield 41, 3) := by decide +kernel
theorem dX4_fewestMoves_18 : decode cX4_fewestMoves 18 = .ok (.if_icmp .ge 102, 3) := by decide +kernel
theorem dX4_fewestMoves_21 : decode cX4_fewestMoves 21 = .ok (.iload_n 2, 1) := by decide +kernel
theorem dX4_fewestMoves_22 : decode cX4_fewestMoves 22 = .ok (.aload_n 0, 1) := by decide +kernel
theorem dX4_fewestMoves_23 : decode cX4_fewestMoves 23 = .ok (.getfield 15, 3) := by decide +kernel
theorem dX4_fewestMoves_26 : decode cX4_fewestMoves 26 = .ok (.arraylength, 1) := by decide +kernel
theorem dX4_fewestMoves_27 : decode cX4_fewestMoves 27 = .ok (.if_icmp .ge 93, 3) := by decide +kernel
theorem dX4_fewestMoves_30 : decode cX4_fewestMoves 30 = .ok (.aload_n 0, 1) := by decide +kernel
theorem dX4_fewestMoves_31 : decode cX4_fewestMoves 31 = .ok (.aload_n 0, 1) := by decide +kernel
theorem dX4_fewestMoves_32 : decode cX4_fewestMoves 32 = .ok (.getfield 15, 3) := by decide +kernel
theorem dX4_fewestMoves_35 : decode cX4_fewestMoves 35 = .ok (.iload_n 2, 1) := by decide +kernel
theorem dX4_fewestMoves_36 : decode cX4_fewestMoves 36 = .ok (.iaload, 1) := by decide +kernel
theorem dX4_fewestMoves_37 : decode cX4_fewestMoves 37 = .ok (.invokevirtual 45, 3) := by decide +kernel
theorem dX4_fewestMoves_40 : decode cX4_fewestMoves 40 = .ok (.aload_n 0, 1) := by decide +kernel
theorem dX4_fewestMoves_41 : decode cX4_fewestMoves 41 = .ok (.invokevirtual 49, 3) := by decide +kernel
theorem dX4_fewestMoves_44 : decode cX4_fewestMoves 44 = .ok (.ifCond .eq 26, 3) := by decide +kernel
theorem dX4_fewestMoves_47 : decode cX4_fewestMoves 47 = .ok (.aload_n 0, 1) := by decide +kernel
theorem dX4_fewestMoves_48 : decode cX4_fewestMoves 48 = .ok (.aload_n 0, 1) := by decide +kernel
theorem dX4_fewestMoves_49 : decode cX4_fewestMoves 49 = .ok (.getfield 15, 3) := by decide +kernel
theorem dX4_fewestMoves_52 : decode cX4_fewestMoves 52 = .ok (.iload_n 2, 1) := by decide +kernel
theorem dX4_fewestMoves_53 : decode cX4_fewestMoves 53 = .ok (.iaload, 1) := by decide +kernel
theorem dX4_fewestMoves_54 : decode cX4_fewestMoves 54 = .ok (.putfield 53, 3) := by decide +kernel
theorem dX4_fewestMoves_57 : decode cX4_fewestMoves 57 = .ok (.aload_n 0, 1) := by decide +kernel
theorem dX4_fewestMoves_58 : decode cX4_fewestMoves 58 = .ok (.aload_n 0, 1) := by decide +kernel
theorem dX4_fewestMoves_59 : decode cX4_fewestMoves 59 = .ok (.invokevirtual 56, 3) := by decide +kernel
theorem dX4_fewestMoves_62 : decode cX4_fewestMoves 62 = .ok (.putfield 60, 3) := by decide +kernel
theorem dX4_fewestMoves_65 : decode cX4_fewestMoves 65 = .ok (.aload_n 0, 1) := by decide +kernel
theorem dX4_fewestMoves_66 : decode cX4_fewestMoves 66 = .ok (.getfield 60, 3) := by decide +kernel
theorem dX4_fewestMoves_69 : decode cX4_fewestMoves 69 = .ok (.ireturn, 1) := by decide +kernel
theorem dX4_fewestMoves_70 : decode cX4_fewestMoves 70 = .ok (.iconst 0, 1) := by decide +kernel
theorem dX4_fewestMoves_71 : decode cX4_fewestMoves 71 = .ok (.istore_n 3, 1) := by decide +kernel
theorem dX4_fewestMoves_72 : decode cX4_fewestMoves 72 = .ok (.iload_n 3, 1) := by decide +kernel
theorem dX4_fewestMoves_73 : decode cX4_fewestMoves 73 = .ok (.aload_n 0, 1) := by decide +kernel
theorem dX4_fewestMoves_74 : decode cX4_fewestMoves 74 = .ok (.getfield 33, 3) := by decide +kernel
theorem dX4_fewestMoves_77 : decode cX4_fewestMoves 77 = .ok (.getfield 63, 3) := by decide +kernel
theorem dX4_fewestMoves_80 : decode cX4_fewestMoves 80 = .ok (.getfield 69, 3) := by decide +kernel
theorem dX4_fewestMoves_83 : decode cX4_fewestMoves 83 = .ok (.if_icmp .ge 31, 3) := by decide +kernel
theorem dX4_fewestMoves_86 : decode cX4_fewestMoves 86 = .ok (.aload_n 0, 1) := by decide +kernel
theorem dX4_fewestMoves_87 : decode cX4_fewestMoves 87 = .ok (.aload_n 0, 1) := by decide +kernel
theorem dX4_fewestMoves_88 : decode cX4_fewestMoves 88 = .ok (.getfield 15, 3) := by decide +kernel
theorem dX4_fewestMoves_91 : decode cX4_fewestMoves 91 = .ok (.iload_n 2, 1) := by decide +kernel
theorem dX4_fewestMoves_92 : decode cX4_fewestMoves 92 = .ok (.iaload, 1) := by decide +kernel
theorem dX4_fewestMoves_93 : decode cX4_fewestMoves 93 = .ok (.iload_n 3, 1) := by decide +kernel
theorem dX4_fewestMoves_94 : decode cX4_fewestMoves 94 = .ok (.invokevirtual 74, 3) := by decide +kernel
theorem dX4_fewestMoves_97 : decode cX4_fewestMoves 97 = .ok (.aload_n 0, 1) := by decide +kernel
theorem dX4_fewestMoves_98 : decode cX4_fewestMoves 98 = .ok (.aload_n 0, 1) := by decide +kernel
theorem dX4_fewestMoves_99 : decode cX4_fewestMoves 99 = .ok (.getfield 15, 3) := by decide +kernel
theorem dX4_fewestMoves_102 : decode cX4_fewestMoves 102 = .ok (.iload_n 2, 1) := by decide +kernel
theorem dX4_fewestMoves_103 : decode cX4_fewestMoves 103 = .ok (.iaload, 1) := by decide +kernel
theorem dX4_fewestMoves_104 : decode cX4_fewestMoves 104 = .ok (.iload_n 3, 1) := by decide +kernel
theorem dX4_fewestMoves_105 : decode cX4_fewestMoves 105 = .ok (.invokevirtual 78, 3) := by decide +kernel
theorem dX4_fewestMoves_108 : decode cX4_fewestMoves 108 = .ok (.iinc 3 1, 3) := by decide +kernel
theorem dX4_fewestMoves_111 : decode cX4_fewestMoves 111 = .ok (.goto (-39), 3) := by decide +kernel
theorem dX4_fewestMoves_114 : decode cX4_fewestMoves 114 = .ok (.iinc 2 1, 3) := by decide +kernel
theorem dX4_fewestMoves_117 : decode cX4_fewestMoves 117 = .ok (.goto (-104), 3) := by decide +kernel
theorem dX4_fewestMoves_120 : decode cX4_fewestMoves 120 = .ok (.bipush (-2), 2) := by decide +kernel
theorem dX4_fewestMoves_122 : decode cX4_fewestMoves 122 = .ok (.ireturn, 1) := by decide +kernel
theorem dX4_lengthOfRow_0 : decode cX4_lengthOfRow 0 = .ok (.aload_n 0, 1) := by decide +kernel
theorem dX4_lengthOfRow_1 : decode cX4_lengthOfRow 1 = .ok (.getfield 53, 3) := by decide +kernel
theorem dX4_lengthOfRow_4 : decode cX4_lengthOfRow 4 = .ok (.istore_n 1, 1) := by decide +kernel
theorem dX4_lengthOfRow_5 : decode cX4_lengthOfRow 5 = .ok (.iconst 0, 1) := by decide +kernel
theorem dX4_lengthOfRow_6 : decode cX4_lengthOfRow 6 = .ok (.istore_n 2, 1) := by decide +kernel
theorem dX4_lengthOfRow_7 : decode cX4_lengthOfRow 7 = .ok (.iload_n 2, 1) := by decide +kernel
theorem dX4_lengthOfRow_8 : decode cX4_lengthOfRow 8 = .ok (.sipush 6561, 3) := by decide +kernel
theorem dX4_lengthOfRow_11 : decode cX4_lengthOfRow 11 = .ok (.if_icmp .ge 30, 3) := by decide +kernel
theorem dX4_lengthOfRow_14 : decode cX4_lengthOfRow 14 = .ok (.aload_n 0, 1) := by decide +kernel
theorem dX4_lengthOfRow_15 : decode cX4_lengthOfRow 15 = .ok (.getfield 9, 3) := by decide +kernel
theorem dX4_lengthOfRow_18 : decode cX4_lengthOfRow 18 = .ok (.iload_n 1, 1) := by decide +kernel
theorem dX4_lengthOfRow_19 : decode cX4_lengthOfRow 19 = .ok (.iaload, 1) := by decide +kernel
theorem dX4_lengthOfRow_20 : decode cX4_lengthOfRow 20 = .ok (.bipush (-2), 2) := by decide +kernel
theorem dX4_lengthOfRow_22 : decode cX4_lengthOfRow 22 = .ok (.if_icmp .eq 19, 3) := by decide +kernel
theorem dX4_lengthOfRow_25 : decode cX4_lengthOfRow 25 = .ok (.aload_n 0, 1) := by decide +kernel
theorem dX4_lengthOfRow_26 : decode cX4_lengthOfRow 26 = .ok (.getfield 9, 3) := by decide +kernel
theorem dX4_lengthOfRow_29 : decode cX4_lengthOfRow 29 = .ok (.iload_n 1, 1) := by decide +kernel
theorem dX4_lengthOfRow_30 : decode cX4_lengthOfRow 30 = .ok (.iaload, 1) := by decide +kernel
theorem dX4_lengthOfRow_31 : decode cX4_lengthOfRow 31 = .ok (.bipush 64, 2) := by decide +kernel
theorem dX4_lengthOfRow_33 : decode cX4_lengthOfRow 33 = .ok (.idiv, 1) := by decide +kernel
theorem dX4_lengthOfRow_34 : decode cX4_lengthOfRow 34 = .ok (.istore_n 1, 1) := by decide +kernel
theorem dX4_lengthOfRow_35 : decode cX4_lengthOfRow 35 = .ok (.iinc 2 1, 3) := by decide +kernel
theorem dX4_lengthOfRow_38 : decode cX4_lengthOfRow 38 = .ok (.goto (-31), 3) := by decide +kernel
theorem dX4_lengthOfRow_41 : decode cX4_lengthOfRow 41 = .ok (.iload_n 2, 1) := by decide +kernel
theorem dX4_lengthOfRow_42 : decode cX4_lengthOfRow 42 = .ok (.ireturn, 1) := by decide +kernel
theorem dX4_toldMove_0 : decode cX4_toldMove 0 = .ok (.aload_n 0, 1) := by decide +kernel
theorem dX4_toldMove_1 : decode cX4_toldMove 1 = .ok (.getfield 53, 3) := by decide +kernel
theorem dX4_toldMove_4 : decode cX4_toldMove 4 = .ok (.istore_n 3, 1) := by decide +kernel
theorem dX4_toldMove_5 : decode cX4_toldMove 5 = .ok (.aload_n 0, 1) := by decide +kernel
theorem dX4_toldMove_6 : decode cX4_toldMove 6 = .ok (.getfield 60, 3) := by decide +kernel
theorem dX4_toldMove_9 : decode cX4_toldMove 9 = .ok (.iconst 1, 1) := by decide +kernel
theorem dX4_toldMove_10 : decode cX4_toldMove 10 = .ok (.isub, 1) := by decide +kernel
theorem dX4_toldMove_11 : decode cX4_toldMove 11 = .ok (.istore 4, 2) := by decide +kernel
theorem dX4_toldMove_13 : decode cX4_toldMove 13 = .ok (.iload 4, 2) := by decide +kernel
theorem dX4_toldMove_15 : decode cX4_toldMove 15 = .ok (.iload_n 1, 1) := by decide +kernel
theorem dX4_toldMove_16 : decode cX4_toldMove 16 = .ok (.if_icmp .le 19, 3) := by decide +kernel
theorem dX4_toldMove_19 : decode cX4_toldMove 19 = .ok (.aload_n 0, 1) := by decide +kernel
theorem dX4_toldMove_20 : decode cX4_toldMove 20 = .ok (.getfield 9, 3) := by decide +kernel
theorem dX4_toldMove_23 : decode cX4_toldMove 23 = .ok (.iload_n 3, 1) := by decide +kernel
theorem dX4_toldMove_24 : decode cX4_toldMove 24 = .ok (.iaload, 1) := by decide +kernel
theorem dX4_toldMove_25 : decode cX4_toldMove 25 = .ok (.bipush 64, 2) := by decide +kernel
theorem dX4_toldMove_27 : decode cX4_toldMove 27 = .ok (.idiv, 1) := by decide +kernel
theorem dX4_toldMove_28 : decode cX4_toldMove 28 = .ok (.istore_n 3, 1) := by decide +kernel
theorem dX4_toldMove_29 : decode cX4_toldMove 29 = .ok (.iinc 4 (-1), 3) := by decide +kernel
theorem dX4_toldMove_32 : decode cX4_toldMove 32 = .ok (.goto (-19), 3) := by decide +kernel
theorem dX4_toldMove_35 : decode cX4_toldMove 35 = .ok (.aload_n 0, 1) := by decide +kernel
theorem dX4_toldMove_36 : decode cX4_toldMove 36 = .ok (.getfield 9, 3) := by decide +kernel
theorem dX4_toldMove_39 : decode cX4_toldMove 39 = .ok (.iload_n 3, 1) := by decide +kernel
theorem dX4_toldMove_40 : decode cX4_toldMove 40 = .ok (.iaload, 1) := by decide +kernel
theorem dX4_toldMove_41 : decode cX4_toldMove 41 = .ok (.bipush 64, 2) := by decide +kernel
theorem dX4_toldMove_43 : decode cX4_toldMove 43 = .ok (.irem, 1) := by decide +kernel
theorem dX4_toldMove_44 : decode cX4_toldMove 44 = .ok (.istore 4, 2) := by decide +kernel
theorem dX4_toldMove_46 : decode cX4_toldMove 46 = .ok (.iconst 2, 1) := by decide +kernel
theorem dX4_toldMove_47 : decode cX4_toldMove 47 = .ok (.iload 4, 2) := by decide +kernel
theorem dX4_toldMove_49 : decode cX4_toldMove 49 = .ok (.bipush 8, 2) := by decide +kernel
theorem dX4_toldMove_51 : decode cX4_toldMove 51 = .ok (.irem, 1) := by decide +kernel
theorem dX4_toldMove_52 : decode cX4_toldMove 52 = .ok (.invokestatic 81, 3) := by decide +kernel
theorem dX4_toldMove_55 : decode cX4_toldMove 55 = .ok (.istore 5, 2) := by decide +kernel
theorem dX4_toldMove_57 : decode cX4_toldMove 57 = .ok (.iload_n 2, 1) := by decide +kernel
theorem dX4_toldMove_58 : decode cX4_toldMove 58 = .ok (.lookupswitch 35 #[(0, 26), (1, 32)], 26) := by decide +kernel
theorem dX4_toldMove_84 : decode cX4_toldMove 84 = .ok (.iload 4, 2) := by decide +kernel
theorem dX4_toldMove_86 : decode cX4_toldMove 86 = .ok (.bipush 8, 2) := by decide +kernel
theorem dX4_toldMove_88 : decode cX4_toldMove 88 = .ok (.idiv, 1) := by decide +kernel
theorem dX4_toldMove_89 : decode cX4_toldMove 89 = .ok (.ireturn, 1) := by decide +kernel
theorem dX4_toldMove_90 : decode cX4_toldMove 90 = .ok (.iload 5, 2) := by decide +kernel
theorem dX4_toldMove_92 : decode cX4_toldMove 92 = .ok (.ireturn, 1) := by decide +kernel
theorem dX4_toldMove_93 : decode cX4_toldMove 93 = .ok (.iload 5, 2) := by decide +kernel
theorem dX4_toldMove_95 : decode cX4_toldMove 95 = .ok (.iconst 2, 1) := by decide +kernel
theorem dX4_toldMove_96 : decode cX4_toldMove 96 = .ok (.if_icmp .ne 13, 3) := by decide +kernel
theorem dX4_toldMove_99 : decode cX4_toldMove 99 = .ok (.iload 4, 2) := by decide +kernel
theorem dX4_toldMove_101 : decode cX4_toldMove 101 = .ok (.bipush 8, 2) := by decide +kernel
theorem dX4_toldMove_103 : decode cX4_toldMove 103 = .ok (.irem, 1) := by decide +kernel
theorem dX4_toldMove_104 : decode cX4_toldMove 104 = .ok (.iconst 2, 1) := by decide +kernel
theorem dX4_toldMove_105 : decode cX4_toldMove 105 = .ok (.isub, 1) := by decide +kernel
theorem dX4_toldMove_106 : decode cX4_toldMove 106 = .ok (.goto 4, 3) := by decide +kernel
theorem dX4_toldMove_109 : decode cX4_toldMove 109 = .ok (.iconst (-1), 1) := by decide +kernel
theorem dX4_toldMove_110 : decode cX4_toldMove 110 = .ok (.ireturn, 1) := by decide +kernel
theorem dX4_fewestPasses_0 : decode cX4_fewestPasses 0 = .ok (.aload_n 0, 1) := by decide +kernel
theorem dX4_fewestPasses_1 : decode cX4_fewestPasses 1 = .ok (.iload_n 1, 1) := by decide +kernel
theorem dX4_fewestPasses_2 : decode cX4_fewestPasses 2 = .ok (.invokevirtual 37, 3) := by decide +kernel
theorem dX4_fewestPasses_5 : decode cX4_fewestPasses 5 = .ok (.ifCond .ne 6, 3) := by decide +kernel
theorem dX4_fewestPasses_8 : decode cX4_fewestPasses 8 = .ok (.bipush (-2), 2) := by decide +kernel
theorem dX4_fewestPasses_10 : decode cX4_fewestPasses 10 = .ok (.ireturn, 1) := by decide +kernel
theorem dX4_fewestPasses_11 : decode cX4_fewestPasses 11 = .ok (.iconst 0, 1) := by decide +kernel
theorem dX4_fewestPasses_12 : decode cX4_fewestPasses 12 = .ok (.istore_n 2, 1) := by decide +kernel
theorem dX4_fewestPasses_13 : decode cX4_fewestPasses 13 = .ok (.iconst 0, 1) := by decide +kernel
theorem dX4_fewestPasses_14 : decode cX4_fewestPasses 14 = .ok (.istore_n 3, 1) := by decide +kernel
theorem dX4_fewestPasses_15 : decode cX4_fewestPasses 15 = .ok (.iload_n 3, 1) := by decide +kernel
theorem dX4_fewestPasses_16 : decode cX4_fewestPasses 16 = .ok (.sipush 6561, 3) := by decide +kernel
theorem dX4_fewestPasses_19 : decode cX4_fewestPasses 19 = .ok (.if_icmp .ge 185, 3) := by decide +kernel
theorem dX4_fewestPasses_22 : decode cX4_fewestPasses 22 = .ok (.iload_n 2, 1) := by decide +kernel
theorem dX4_fewestPasses_23 : decode cX4_fewestPasses 23 = .ok (.aload_n 0, 1) := by decide +kernel
theorem dX4_fewestPasses_24 : decode cX4_fewestPasses 24 = .ok (.getfield 41, 3) := by decide +kernel
theorem dX4_fewestPasses_27 : decode cX4_fewestPasses 27 = .ok (.if_icmp .ge 177, 3) := by decide +kernel
theorem dX4_fewestPasses_30 : decode cX4_fewestPasses 30 = .ok (.iload_n 2, 1) := by decide +kernel
theorem dX4_fewestPasses_31 : decode cX4_fewestPasses 31 = .ok (.istore 4, 2) := by decide +kernel
theorem dX4_fewestPasses_33 : decode cX4_fewestPasses 33 = .ok (.iload 4, 2) := by decide +kernel
theorem dX4_fewestPasses_35 : decode cX4_fewestPasses 35 = .ok (.aload_n 0, 1) := by decide +kernel
theorem dX4_fewestPasses_36 : decode cX4_fewestPasses 36 = .ok (.getfield 41, 3) := by decide +kernel
theorem dX4_fewestPasses_39 : decode cX4_fewestPasses 39 = .ok (.if_icmp .ge 76, 3) := by decide +kernel
theorem dX4_fewestPasses_42 : decode cX4_fewestPasses 42 = .ok (.iload 4, 2) := by decide +kernel
theorem dX4_fewestPasses_44 : decode cX4_fewestPasses 44 = .ok (.aload_n 0, 1) := by decide +kernel
theorem dX4_fewestPasses_45 : decode cX4_fewestPasses 45 = .ok (.getfield 15, 3) := by decide +kernel
theorem dX4_fewestPasses_48 : decode cX4_fewestPasses 48 = .ok (.arraylength, 1) := by decide +kernel
theorem dX4_fewestPasses_49 : decode cX4_fewestPasses 49 = .ok (.if_icmp .ge 66, 3) := by decide +kernel
theorem dX4_fewestPasses_52 : decode cX4_fewestPasses 52 = .ok (.aload_n 0, 1) := by decide +kernel
theorem dX4_fewestPasses_53 : decode cX4_fewestPasses 53 = .ok (.aload_n 0, 1) := by decide +kernel
theorem dX4_fewestPasses_54 : decode cX4_fewestPasses 54 = .ok (.getfield 15, 3) := by decide +kernel
theorem dX4_fewestPasses_57 : decode cX4_fewestPasses 57 = .ok (.iload 4, 2) := by decide +kernel
theorem dX4_fewestPasses_59 : decode cX4_fewestPasses 59 = .ok (.iaload, 1) := by decide +kernel
theorem dX4_fewestPasses_60 : decode cX4_fewestPasses 60 = .ok (.invokevirtual 45, 3) := by decide +kernel
theorem dX4_fewestPasses_63 : decode cX4_fewestPasses 63 = .ok (.aload_n 0, 1) := by decide +kernel
theorem dX4_fewestPasses_64 : decode cX4_fewestPasses 64 = .ok (.invokevirtual 49, 3) := by decide +kernel
theorem dX4_fewestPasses_67 : decode cX4_fewestPasses 67 = .ok (.ifCond .eq 5, 3) := by decide +kernel
theorem dX4_fewestPasses_70 : decode cX4_fewestPasses 70 = .ok (.iload_n 3, 1) := by decide +kernel
theorem dX4_fewestPasses_71 : decode cX4_fewestPasses 71 = .ok (.ireturn, 1) := by decide +kernel
theorem dX4_fewestPasses_72 : decode cX4_fewestPasses 72 = .ok (.iconst 0, 1) := by decide +kernel
theorem dX4_fewestPasses_73 : decode cX4_fewestPasses 73 = .ok (.istore 5, 2) := by decide +kernel
theorem dX4_fewestPasses_75 : decode cX4_fewestPasses 75 = .ok (.iload 5, 2) := by decide +kernel
theorem dX4_fewestPasses_77 : decode cX4_fewestPasses 77 = .ok (.aload_n 0, 1) := by decide +kernel
theorem dX4_fewestPasses_78 : decode cX4_fewestPasses 78 = .ok (.getfield 33, 3) := by decide +kernel
theorem dX4_fewestPasses_81 : decode cX4_fewestPasses 81 = .ok (.getfield 63, 3) := by decide +kernel
theorem dX4_fewestPasses_84 : decode cX4_fewestPasses 84 = .ok (.getfield 69, 3) := by decide +kernel
theorem dX4_fewestPasses_87 : decode cX4_fewestPasses 87 = .ok (.if_icmp .ge 22, 3) := by decide +kernel
theorem dX4_fewestPasses_90 : decode cX4_fewestPasses 90 = .ok (.aload_n 0, 1) := by decide +kernel
theorem dX4_fewestPasses_91 : decode cX4_fewestPasses 91 = .ok (.aload_n 0, 1) := by decide +kernel
theorem dX4_fewestPasses_92 : decode cX4_fewestPasses 92 = .ok (.getfield 15, 3) := by decide +kernel
theorem dX4_fewestPasses_95 : decode cX4_fewestPasses 95 = .ok (.iload 4, 2) := by decide +kernel
theorem dX4_fewestPasses_97 : decode cX4_fewestPasses 97 = .ok (.iaload, 1) := by decide +kernel
theorem dX4_fewestPasses_98 : decode cX4_fewestPasses 98 = .ok (.iload 5, 2) := by decide +kernel
theorem dX4_fewestPasses_100 : decode cX4_fewestPasses 100 = .ok (.invokevirtual 74, 3) := by decide +kernel
theorem dX4_fewestPasses_103 : decode cX4_fewestPasses 103 = .ok (.iinc 5 1, 3) := by decide +kernel
theorem dX4_fewestPasses_106 : decode cX4_fewestPasses 106 = .ok (.goto (-31), 3) := by decide +kernel
theorem dX4_fewestPasses_109 : decode cX4_fewestPasses 109 = .ok (.iinc 4 1, 3) := by decide +kernel
theorem dX4_fewestPasses_112 : decode cX4_fewestPasses 112 = .ok (.goto (-79), 3) := by decide +kernel
theorem dX4_fewestPasses_115 : decode cX4_fewestPasses 115 = .ok (.aload_n 0, 1) := by decide +kernel
theorem dX4_fewestPasses_116 : decode cX4_fewestPasses 116 = .ok (.getfield 41, 3) := by decide +kernel
theorem dX4_fewestPasses_119 : decode cX4_fewestPasses 119 = .ok (.istore 4, 2) := by decide +kernel
theorem dX4_fewestPasses_121 : decode cX4_fewestPasses 121 = .ok (.iload_n 2, 1) := by decide +kernel
theorem dX4_fewestPasses_122 : decode cX4_fewestPasses 122 = .ok (.istore 5, 2) := by decide +kernel
theorem dX4_fewestPasses_124 : decode cX4_fewestPasses 124 = .ok (.iload 5, 2) := by decide +kernel
theorem dX4_fewestPasses_126 : decode cX4_fewestPasses 126 = .ok (.iload 4, 2) := by decide +kernel
theorem dX4_fewestPasses_128 : decode cX4_fewestPasses 128 = .ok (.if_icmp .ge 67, 3) := by decide +kernel
theorem dX4_fewestPasses_131 : decode cX4_fewestPasses 131 = .ok (.iload 5, 2) := by decide +kernel
theorem dX4_fewestPasses_133 : decode cX4_fewestPasses 133 = .ok (.aload_n 0, 1) := by decide +kernel
theorem dX4_fewestPasses_134 : decode cX4_fewestPasses 134 = .ok (.getfield 15, 3) := by decide +kernel
theorem dX4_fewestPasses_137 : decode cX4_fewestPasses 137 = .ok (.arraylength, 1) := by decide +kernel
theorem dX4_fewestPasses_138 : decode cX4_fewestPasses 138 = .ok (.if_icmp .ge 57, 3) := by decide +kernel
theorem dX4_fewestPasses_141 : decode cX4_fewestPasses 141 = .ok (.aload_n 0, 1) := by decide +kernel
theorem dX4_fewestPasses_142 : decode cX4_fewestPasses 142 = .ok (.aload_n 0, 1) := by decide +kernel
theorem dX4_fewestPasses_143 : decode cX4_fewestPasses 143 = .ok (.getfield 15, 3) := by decide +kernel
theorem dX4_fewestPasses_146 : decode cX4_fewestPasses 146 = .ok (.iload 5, 2) := by decide +kernel
theorem dX4_fewestPasses_148 : decode cX4_fewestPasses 148 = .ok (.iaload, 1) := by decide +kernel
theorem dX4_fewestPasses_149 : decode cX4_fewestPasses 149 = .ok (.invokevirtual 45, 3) := by decide +kernel
theorem dX4_fewestPasses_152 : decode cX4_fewestPasses 152 = .ok (.iconst 0, 1) := by decide +kernel
theorem dX4_fewestPasses_153 : decode cX4_fewestPasses 153 = .ok (.istore 6, 2) := by decide +kernel
theorem dX4_fewestPasses_155 : decode cX4_fewestPasses 155 = .ok (.iload 6, 2) := by decide +kernel
theorem dX4_fewestPasses_157 : decode cX4_fewestPasses 157 = .ok (.aload_n 0, 1) := by decide +kernel
theorem dX4_fewestPasses_158 : decode cX4_fewestPasses 158 = .ok (.getfield 33, 3) := by decide +kernel
theorem dX4_fewestPasses_161 : decode cX4_fewestPasses 161 = .ok (.getfield 63, 3) := by decide +kernel
theorem dX4_fewestPasses_164 : decode cX4_fewestPasses 164 = .ok (.getfield 69, 3) := by decide +kernel
theorem dX4_fewestPasses_167 : decode cX4_fewestPasses 167 = .ok (.if_icmp .ge 22, 3) := by decide +kernel
theorem dX4_fewestPasses_170 : decode cX4_fewestPasses 170 = .ok (.aload_n 0, 1) := by decide +kernel
theorem dX4_fewestPasses_171 : decode cX4_fewestPasses 171 = .ok (.aload_n 0, 1) := by decide +kernel
theorem dX4_fewestPasses_172 : decode cX4_fewestPasses 172 = .ok (.getfield 15, 3) := by decide +kernel
theorem dX4_fewestPasses_175 : decode cX4_fewestPasses 175 = .ok (.iload 5, 2) := by decide +kernel
theorem dX4_fewestPasses_177 : decode cX4_fewestPasses 177 = .ok (.iaload, 1) := by decide +kernel
theorem dX4_fewestPasses_178 : decode cX4_fewestPasses 178 = .ok (.iload 6, 2) := by decide +kernel
theorem dX4_fewestPasses_180 : decode cX4_fewestPasses 180 = .ok (.invokevirtual 78, 3) := by decide +kernel
theorem dX4_fewestPasses_183 : decode cX4_fewestPasses 183 = .ok (.iinc 6 1, 3) := by decide +kernel
theorem dX4_fewestPasses_186 : decode cX4_fewestPasses 186 = .ok (.goto (-31), 3) := by decide +kernel
theorem dX4_fewestPasses_189 : decode cX4_fewestPasses 189 = .ok (.iinc 5 1, 3) := by decide +kernel
theorem dX4_fewestPasses_192 : decode cX4_fewestPasses 192 = .ok (.goto (-68), 3) := by decide +kernel
theorem dX4_fewestPasses_195 : decode cX4_fewestPasses 195 = .ok (.iload 4, 2) := by decide +kernel
theorem dX4_fewestPasses_197 : decode cX4_fewestPasses 197 = .ok (.istore_n 2, 1) := by decide +kernel
theorem dX4_fewestPasses_198 : decode cX4_fewestPasses 198 = .ok (.iinc 3 1, 3) := by decide +kernel
theorem dX4_fewestPasses_201 : decode cX4_fewestPasses 201 = .ok (.goto (-186), 3) := by decide +kernel
theorem dX4_fewestPasses_204 : decode cX4_fewestPasses 204 = .ok (.bipush (-2), 2) := by decide +kernel
theorem dX4_fewestPasses_206 : decode cX4_fewestPasses 206 = .ok (.ireturn, 1) := by decide +kernel
theorem dX4_begin_0 : decode cX4_begin 0 = .ok (.iload_n 1, 1) := by decide +kernel
theorem dX4_begin_1 : decode cX4_begin 1 = .ok (.aload_n 0, 1) := by decide +kernel
theorem dX4_begin_2 : decode cX4_begin 2 = .ok (.getfield 33, 3) := by decide +kernel
theorem dX4_begin_5 : decode cX4_begin 5 = .ok (.invokevirtual 87, 3) := by decide +kernel
theorem dX4_begin_8 : decode cX4_begin 8 = .ok (.iconst (-1), 1) := by decide +kernel
theorem dX4_begin_9 : decode cX4_begin 9 = .ok (.ixor, 1) := by decide +kernel
theorem dX4_begin_10 : decode cX4_begin 10 = .ok (.iand, 1) := by decide +kernel
theorem dX4_begin_11 : decode cX4_begin 11 = .ok (.ifCond .eq 5, 3) := by decide +kernel
theorem dX4_begin_14 : decode cX4_begin 14 = .ok (.iconst 0, 1) := by decide +kernel
theorem dX4_begin_15 : decode cX4_begin 15 = .ok (.ireturn, 1) := by decide +kernel
theorem dX4_begin_16 : decode cX4_begin 16 = .ok (.aload_n 0, 1) := by decide +kernel
theorem dX4_begin_17 : decode cX4_begin 17 = .ok (.iload_n 1, 1) := by decide +kernel
theorem dX4_begin_18 : decode cX4_begin 18 = .ok (.putfield 90, 3) := by decide +kernel
theorem dX4_begin_21 : decode cX4_begin 21 = .ok (.aload_n 0, 1) := by decide +kernel
theorem dX4_begin_22 : decode cX4_begin 22 = .ok (.getfield 9, 3) := by decide +kernel
theorem dX4_begin_25 : decode cX4_begin 25 = .ok (.arraylength, 1) := by decide +kernel
theorem dX4_begin_26 : decode cX4_begin 26 = .ok (.ifCond .ne 21, 3) := by decide +kernel
theorem dX4_begin_29 : decode cX4_begin 29 = .ok (.aload_n 0, 1) := by decide +kernel
theorem dX4_begin_30 : decode cX4_begin 30 = .ok (.sipush 6561, 3) := by decide +kernel
theorem dX4_begin_33 : decode cX4_begin 33 = .ok (.newarray .int, 2) := by decide +kernel
theorem dX4_begin_35 : decode cX4_begin 35 = .ok (.putfield 9, 3) := by decide +kernel
theorem dX4_begin_38 : decode cX4_begin 38 = .ok (.aload_n 0, 1) := by decide +kernel
theorem dX4_begin_39 : decode cX4_begin 39 = .ok (.sipush 6561, 3) := by decide +kernel
theorem dX4_begin_42 : decode cX4_begin 42 = .ok (.newarray .int, 2) := by decide +kernel
theorem dX4_begin_44 : decode cX4_begin 44 = .ok (.putfield 15, 3) := by decide +kernel
theorem dX4_begin_47 : decode cX4_begin 47 = .ok (.aload_n 0, 1) := by decide +kernel
theorem dX4_begin_48 : decode cX4_begin 48 = .ok (.getfield 9, 3) := by decide +kernel
theorem dX4_begin_51 : decode cX4_begin 51 = .ok (.iconst (-1), 1) := by decide +kernel
theorem dX4_begin_52 : decode cX4_begin 52 = .ok (.invokestatic 93, 3) := by decide +kernel
theorem dX4_begin_55 : decode cX4_begin 55 = .ok (.iconst 0, 1) := by decide +kernel
theorem dX4_begin_56 : decode cX4_begin 56 = .ok (.istore_n 2, 1) := by decide +kernel
theorem dX4_begin_57 : decode cX4_begin 57 = .ok (.iload_n 2, 1) := by decide +kernel
theorem dX4_begin_58 : decode cX4_begin 58 = .ok (.aload_n 0, 1) := by decide +kernel
theorem dX4_begin_59 : decode cX4_begin 59 = .ok (.getfield 33, 3) := by decide +kernel
theorem dX4_begin_62 : decode cX4_begin 62 = .ok (.getfield 63, 3) := by decide +kernel
theorem dX4_begin_65 : decode cX4_begin 65 = .ok (.getfield 99, 3) := by decide +kernel
theorem dX4_begin_68 : decode cX4_begin 68 = .ok (.if_icmp .ge 39, 3) := by decide +kernel
theorem dX4_begin_71 : decode cX4_begin 71 = .ok (.aload_n 0, 1) := by decide +kernel
theorem dX4_begin_72 : decode cX4_begin 72 = .ok (.getfield 27, 3) := by decide +kernel
theorem dX4_begin_75 : decode cX4_begin 75 = .ok (.iload_n 2, 1) := by decide +kernel
theorem dX4_begin_76 : decode cX4_begin 76 = .ok (.aload_n 0, 1) := by decide +kernel
theorem dX4_begin_77 : decode cX4_begin 77 = .ok (.getfield 33, 3) := by decide +kernel
theorem dX4_begin_80 : decode cX4_begin 80 = .ok (.iload_n 2, 1) := by decide +kernel
theorem dX4_begin_81 : decode cX4_begin 81 = .ok (.iconst 1, 1) := by decide +kernel
theorem dX4_begin_82 : decode cX4_begin 82 = .ok (.invokevirtual 102, 3) := by decide +kernel
theorem dX4_begin_85 : decode cX4_begin 85 = .ok (.iastore, 1) := by decide +kernel
theorem dX4_begin_86 : decode cX4_begin 86 = .ok (.aload_n 0, 1) := by decide +kernel
theorem dX4_begin_87 : decode cX4_begin 87 = .ok (.getfield 30, 3) := by decide +kernel
theorem dX4_begin_90 : decode cX4_begin 90 = .ok (.iload_n 2, 1) := by decide +kernel
theorem dX4_begin_91 : decode cX4_begin 91 = .ok (.aload_n 0, 1) := by decide +kernel
theorem dX4_begin_92 : decode cX4_begin 92 = .ok (.getfield 33, 3) := by decide +kernel
theorem dX4_begin_95 : decode cX4_begin 95 = .ok (.iload_n 2, 1) := by decide +kernel
theorem dX4_begin_96 : decode cX4_begin 96 = .ok (.iconst (-1), 1) := by decide +kernel
theorem dX4_begin_97 : decode cX4_begin 97 = .ok (.invokevirtual 102, 3) := by decide +kernel
theorem dX4_begin_100 : decode cX4_begin 100 = .ok (.iastore, 1) := by decide +kernel
theorem dX4_begin_101 : decode cX4_begin 101 = .ok (.iinc 2 1, 3) := by decide +kernel
theorem dX4_begin_104 : decode cX4_begin 104 = .ok (.goto (-47), 3) := by decide +kernel
theorem dX4_begin_107 : decode cX4_begin 107 = .ok (.iconst 0, 1) := by decide +kernel
theorem dX4_begin_108 : decode cX4_begin 108 = .ok (.istore_n 2, 1) := by decide +kernel
theorem dX4_begin_109 : decode cX4_begin 109 = .ok (.iconst 1, 1) := by decide +kernel
theorem dX4_begin_110 : decode cX4_begin 110 = .ok (.istore_n 3, 1) := by decide +kernel
theorem dX4_begin_111 : decode cX4_begin 111 = .ok (.iconst 0, 1) := by decide +kernel
theorem dX4_begin_112 : decode cX4_begin 112 = .ok (.istore 4, 2) := by decide +kernel
theorem dX4_begin_114 : decode cX4_begin 114 = .ok (.iload 4, 2) := by decide +kernel
theorem dX4_begin_116 : decode cX4_begin 116 = .ok (.aload_n 0, 1) := by decide +kernel
theorem dX4_begin_117 : decode cX4_begin 117 = .ok (.getfield 33, 3) := by decide +kernel
theorem dX4_begin_120 : decode cX4_begin 120 = .ok (.getfield 63, 3) := by decide +kernel
theorem dX4_begin_123 : decode cX4_begin 123 = .ok (.getfield 69, 3) := by decide +kernel
theorem dX4_begin_126 : decode cX4_begin 126 = .ok (.if_icmp .ge 49, 3) := by decide +kernel
theorem dX4_begin_129 : decode cX4_begin 129 = .ok (.aload_n 0, 1) := by decide +kernel
theorem dX4_begin_130 : decode cX4_begin 130 = .ok (.getfield 18, 3) := by decide +kernel
theorem dX4_begin_133 : decode cX4_begin 133 = .ok (.iload 4, 2) := by decide +kernel
theorem dX4_begin_135 : decode cX4_begin 135 = .ok (.iload_n 3, 1) := by decide +kernel
theorem dX4_begin_136 : decode cX4_begin 136 = .ok (.iastore, 1) := by decide +kernel
theorem dX4_begin_137 : decode cX4_begin 137 = .ok (.iload_n 2, 1) := by decide +kernel
theorem dX4_begin_138 : decode cX4_begin 138 = .ok (.iload_n 3, 1) := by decide +kernel
theorem dX4_begin_139 : decode cX4_begin 139 = .ok (.iconst 0, 1) := by decide +kernel
theorem dX4_begin_140 : decode cX4_begin 140 = .ok (.aload_n 0, 1) := by decide +kernel
theorem dX4_begin_141 : decode cX4_begin 141 = .ok (.getfield 33, 3) := by decide +kernel
theorem dX4_begin_144 : decode cX4_begin 144 = .ok (.getfield 105, 3) := by decide +kernel
theorem dX4_begin_147 : decode cX4_begin 147 = .ok (.iload 4, 2) := by decide +kernel
theorem dX4_begin_149 : decode cX4_begin 149 = .ok (.iaload, 1) := by decide +kernel
theorem dX4_begin_150 : decode cX4_begin 150 = .ok (.invokestatic 106, 3) := by decide +kernel
theorem dX4_begin_153 : decode cX4_begin 153 = .ok (.imul, 1) := by decide +kernel
theorem dX4_begin_154 : decode cX4_begin 154 = .ok (.iadd, 1) := by decide +kernel
theorem dX4_begin_155 : decode cX4_begin 155 = .ok (.istore_n 2, 1) := by decide +kernel
theorem dX4_begin_156 : decode cX4_begin 156 = .ok (.iload_n 3, 1) := by decide +kernel
theorem dX4_begin_157 : decode cX4_begin 157 = .ok (.aload_n 0, 1) := by decide +kernel
theorem dX4_begin_158 : decode cX4_begin 158 = .ok (.getfield 33, 3) := by decide +kernel
theorem dX4_begin_161 : decode cX4_begin 161 = .ok (.getfield 63, 3) := by decide +kernel
theorem dX4_begin_164 : decode cX4_begin 164 = .ok (.getfield 99, 3) := by decide +kernel
theorem dX4_begin_167 : decode cX4_begin 167 = .ok (.imul, 1) := by decide +kernel
theorem dX4_begin_168 : decode cX4_begin 168 = .ok (.istore_n 3, 1) := by decide +kernel
theorem dX4_begin_169 : decode cX4_begin 169 = .ok (.iinc 4 1, 3) := by decide +kernel
theorem dX4_begin_172 : decode cX4_begin 172 = .ok (.goto (-58), 3) := by decide +kernel
theorem dX4_begin_175 : decode cX4_begin 175 = .ok (.aload_n 0, 1) := by decide +kernel
theorem dX4_begin_176 : decode cX4_begin 176 = .ok (.iconst 0, 1) := by decide +kernel
theorem dX4_begin_177 : decode cX4_begin 177 = .ok (.putfield 41, 3) := by decide +kernel
theorem dX4_begin_180 : decode cX4_begin 180 = .ok (.aload_n 0, 1) := by decide +kernel
theorem dX4_begin_181 : decode cX4_begin 181 = .ok (.iload_n 2, 1) := by decide +kernel
theorem dX4_begin_182 : decode cX4_begin 182 = .ok (.bipush (-2), 2) := by decide +kernel
theorem dX4_begin_184 : decode cX4_begin 184 = .ok (.invokevirtual 109, 3) := by decide +kernel
theorem dX4_begin_187 : decode cX4_begin 187 = .ok (.iconst 1, 1) := by decide +kernel
theorem dX4_begin_188 : decode cX4_begin 188 = .ok (.ireturn, 1) := by decide +kernel
theorem dX4_comeTo_0 : decode cX4_comeTo 0 = .ok (.iload_n 1, 1) := by decide +kernel
theorem dX4_comeTo_1 : decode cX4_comeTo 1 = .ok (.ifCond .lt 61, 3) := by decide +kernel
theorem dX4_comeTo_4 : decode cX4_comeTo 4 = .ok (.iload_n 1, 1) := by decide +kernel
theorem dX4_comeTo_5 : decode cX4_comeTo 5 = .ok (.aload_n 0, 1) := by decide +kernel
theorem dX4_comeTo_6 : decode cX4_comeTo 6 = .ok (.getfield 9, 3) := by decide +kernel
theorem dX4_comeTo_9 : decode cX4_comeTo 9 = .ok (.arraylength, 1) := by decide +kernel
theorem dX4_comeTo_10 : decode cX4_comeTo 10 = .ok (.if_icmp .ge 52, 3) := by decide +kernel
theorem dX4_comeTo_13 : decode cX4_comeTo 13 = .ok (.aload_n 0, 1) := by decide +kernel
theorem dX4_comeTo_14 : decode cX4_comeTo 14 = .ok (.getfield 41, 3) := by decide +kernel
theorem dX4_comeTo_17 : decode cX4_comeTo 17 = .ok (.aload_n 0, 1) := by decide +kernel
theorem dX4_comeTo_18 : decode cX4_comeTo 18 = .ok (.getfield 15, 3) := by decide +kernel
theorem dX4_comeTo_21 : decode cX4_comeTo 21 = .ok (.arraylength, 1) := by decide +kernel
theorem dX4_comeTo_22 : decode cX4_comeTo 22 = .ok (.if_icmp .ge 40, 3) := by decide +kernel
theorem dX4_comeTo_25 : decode cX4_comeTo 25 = .ok (.aload_n 0, 1) := by decide +kernel
theorem dX4_comeTo_26 : decode cX4_comeTo 26 = .ok (.getfield 9, 3) := by decide +kernel
theorem dX4_comeTo_29 : decode cX4_comeTo 29 = .ok (.iload_n 1, 1) := by decide +kernel
theorem dX4_comeTo_30 : decode cX4_comeTo 30 = .ok (.iaload, 1) := by decide +kernel
theorem dX4_comeTo_31 : decode cX4_comeTo 31 = .ok (.iconst (-1), 1) := by decide +kernel
theorem dX4_comeTo_32 : decode cX4_comeTo 32 = .ok (.if_icmp .ne 30, 3) := by decide +kernel
theorem dX4_comeTo_35 : decode cX4_comeTo 35 = .ok (.aload_n 0, 1) := by decide +kernel
theorem dX4_comeTo_36 : decode cX4_comeTo 36 = .ok (.getfield 9, 3) := by decide +kernel
theorem dX4_comeTo_39 : decode cX4_comeTo 39 = .ok (.iload_n 1, 1) := by decide +kernel
theorem dX4_comeTo_40 : decode cX4_comeTo 40 = .ok (.iload_n 2, 1) := by decide +kernel
theorem dX4_comeTo_41 : decode cX4_comeTo 41 = .ok (.iastore, 1) := by decide +kernel
theorem dX4_comeTo_42 : decode cX4_comeTo 42 = .ok (.aload_n 0, 1) := by decide +kernel
theorem dX4_comeTo_43 : decode cX4_comeTo 43 = .ok (.getfield 15, 3) := by decide +kernel
theorem dX4_comeTo_46 : decode cX4_comeTo 46 = .ok (.aload_n 0, 1) := by decide +kernel
theorem dX4_comeTo_47 : decode cX4_comeTo 47 = .ok (.getfield 41, 3) := by decide +kernel
theorem dX4_comeTo_50 : decode cX4_comeTo 50 = .ok (.iload_n 1, 1) := by decide +kernel
theorem dX4_comeTo_51 : decode cX4_comeTo 51 = .ok (.iastore, 1) := by decide +kernel
theorem dX4_comeTo_52 : decode cX4_comeTo 52 = .ok (.aload_n 0, 1) := by decide +kernel
theorem dX4_comeTo_53 : decode cX4_comeTo 53 = .ok (.dup, 1) := by decide +kernel
theorem dX4_comeTo_54 : decode cX4_comeTo 54 = .ok (.getfield 41, 3) := by decide +kernel
theorem dX4_comeTo_57 : decode cX4_comeTo 57 = .ok (.iconst 1, 1) := by decide +kernel
theorem dX4_comeTo_58 : decode cX4_comeTo 58 = .ok (.iadd, 1) := by decide +kernel
theorem dX4_comeTo_59 : decode cX4_comeTo 59 = .ok (.putfield 41, 3) := by decide +kernel
theorem dX4_comeTo_62 : decode cX4_comeTo 62 = .ok (.return_, 1) := by decide +kernel
theorem dX4_unfold_0 : decode cX4_unfold 0 = .ok (.aload_n 0, 1) := by decide +kernel
theorem dX4_unfold_1 : decode cX4_unfold 1 = .ok (.getfield 33, 3) := by decide +kernel
theorem dX4_unfold_4 : decode cX4_unfold 4 = .ok (.getfield 63, 3) := by decide +kernel
theorem dX4_unfold_7 : decode cX4_unfold 7 = .ok (.getfield 99, 3) := by decide +kernel
theorem dX4_unfold_10 : decode cX4_unfold 10 = .ok (.istore_n 2, 1) := by decide +kernel
theorem dX4_unfold_11 : decode cX4_unfold 11 = .ok (.aload_n 0, 1) := by decide +kernel
theorem dX4_unfold_12 : decode cX4_unfold 12 = .ok (.getfield 24, 3) := by decide +kernel
theorem dX4_unfold_15 : decode cX4_unfold 15 = .ok (.iconst 0, 1) := by decide +kernel
theorem dX4_unfold_16 : decode cX4_unfold 16 = .ok (.invokestatic 93, 3) := by decide +kernel
theorem dX4_unfold_19 : decode cX4_unfold 19 = .ok (.iload_n 1, 1) := by decide +kernel
theorem dX4_unfold_20 : decode cX4_unfold 20 = .ok (.istore_n 3, 1) := by decide +kernel
theorem dX4_unfold_21 : decode cX4_unfold 21 = .ok (.iconst 0, 1) := by decide +kernel
theorem dX4_unfold_22 : decode cX4_unfold 22 = .ok (.istore 4, 2) := by decide +kernel
theorem dX4_unfold_24 : decode cX4_unfold 24 = .ok (.iload 4, 2) := by decide +kernel
theorem dX4_unfold_26 : decode cX4_unfold 26 = .ok (.aload_n 0, 1) := by decide +kernel
theorem dX4_unfold_27 : decode cX4_unfold 27 = .ok (.getfield 33, 3) := by decide +kernel
theorem dX4_unfold_30 : decode cX4_unfold 30 = .ok (.getfield 63, 3) := by decide +kernel
theorem dX4_unfold_33 : decode cX4_unfold 33 = .ok (.getfield 69, 3) := by decide +kernel
theorem dX4_unfold_36 : decode cX4_unfold 36 = .ok (.if_icmp .ge 55, 3) := by decide +kernel
theorem dX4_unfold_39 : decode cX4_unfold 39 = .ok (.iload_n 2, 1) := by decide +kernel
theorem dX4_unfold_40 : decode cX4_unfold 40 = .ok (.ifCond .le 51, 3) := by decide +kernel
theorem dX4_unfold_43 : decode cX4_unfold 43 = .ok (.aload_n 0, 1) := by decide +kernel
theorem dX4_unfold_44 : decode cX4_unfold 44 = .ok (.getfield 21, 3) := by decide +kernel
theorem dX4_unfold_47 : decode cX4_unfold 47 = .ok (.iload 4, 2) := by decide +kernel
theorem dX4_unfold_49 : decode cX4_unfold 49 = .ok (.iload_n 3, 1) := by decide +kernel
theorem dX4_unfold_50 : decode cX4_unfold 50 = .ok (.iload_n 2, 1) := by decide +kernel
theorem dX4_unfold_51 : decode cX4_unfold 51 = .ok (.irem, 1) := by decide +kernel
theorem dX4_unfold_52 : decode cX4_unfold 52 = .ok (.iastore, 1) := by decide +kernel
theorem dX4_unfold_53 : decode cX4_unfold 53 = .ok (.iload_n 3, 1) := by decide +kernel
theorem dX4_unfold_54 : decode cX4_unfold 54 = .ok (.iload_n 2, 1) := by decide +kernel
theorem dX4_unfold_55 : decode cX4_unfold 55 = .ok (.idiv, 1) := by decide +kernel
theorem dX4_unfold_56 : decode cX4_unfold 56 = .ok (.istore_n 3, 1) := by decide +kernel
theorem dX4_unfold_57 : decode cX4_unfold 57 = .ok (.aload_n 0, 1) := by decide +kernel
theorem dX4_unfold_58 : decode cX4_unfold 58 = .ok (.getfield 33, 3) := by decide +kernel
theorem dX4_unfold_61 : decode cX4_unfold 61 = .ok (.iload 4, 2) := by decide +kernel
theorem dX4_unfold_63 : decode cX4_unfold 63 = .ok (.invokevirtual 112, 3) := by decide +kernel
theorem dX4_unfold_66 : decode cX4_unfold 66 = .ok (.ifCond .ne 19, 3) := by decide +kernel
theorem dX4_unfold_69 : decode cX4_unfold 69 = .ok (.aload_n 0, 1) := by decide +kernel
theorem dX4_unfold_70 : decode cX4_unfold 70 = .ok (.getfield 24, 3) := by decide +kernel
theorem dX4_unfold_73 : decode cX4_unfold 73 = .ok (.aload_n 0, 1) := by decide +kernel
theorem dX4_unfold_74 : decode cX4_unfold 74 = .ok (.getfield 21, 3) := by decide +kernel
theorem dX4_unfold_77 : decode cX4_unfold 77 = .ok (.iload 4, 2) := by decide +kernel
theorem dX4_unfold_79 : decode cX4_unfold 79 = .ok (.iaload, 1) := by decide +kernel
theorem dX4_unfold_80 : decode cX4_unfold 80 = .ok (.dup2, 1) := by decide +kernel
theorem dX4_unfold_81 : decode cX4_unfold 81 = .ok (.iaload, 1) := by decide +kernel
theorem dX4_unfold_82 : decode cX4_unfold 82 = .ok (.iconst 1, 1) := by decide +kernel
theorem dX4_unfold_83 : decode cX4_unfold 83 = .ok (.iadd, 1) := by decide +kernel
theorem dX4_unfold_84 : decode cX4_unfold 84 = .ok (.iastore, 1) := by decide +kernel
theorem dX4_unfold_85 : decode cX4_unfold 85 = .ok (.iinc 4 1, 3) := by decide +kernel
theorem dX4_unfold_88 : decode cX4_unfold 88 = .ok (.goto (-64), 3) := by decide +kernel
theorem dX4_unfold_91 : decode cX4_unfold 91 = .ok (.return_, 1) := by decide +kernel
theorem dX4_isThere_0 : decode cX4_isThere 0 = .ok (.iconst 0, 1) := by decide +kernel
theorem dX4_isThere_1 : decode cX4_isThere 1 = .ok (.istore_n 1, 1) := by decide +kernel
theorem dX4_isThere_2 : decode cX4_isThere 2 = .ok (.iload_n 1, 1) := by decide +kernel
theorem dX4_isThere_3 : decode cX4_isThere 3 = .ok (.aload_n 0, 1) := by decide +kernel
theorem dX4_isThere_4 : decode cX4_isThere 4 = .ok (.getfield 33, 3) := by decide +kernel
theorem dX4_isThere_7 : decode cX4_isThere 7 = .ok (.getfield 63, 3) := by decide +kernel
theorem dX4_isThere_10 : decode cX4_isThere 10 = .ok (.getfield 69, 3) := by decide +kernel
theorem dX4_isThere_13 : decode cX4_isThere 13 = .ok (.if_icmp .ge 40, 3) := by decide +kernel
theorem dX4_isThere_16 : decode cX4_isThere 16 = .ok (.aload_n 0, 1) := by decide +kernel
theorem dX4_isThere_17 : decode cX4_isThere 17 = .ok (.getfield 90, 3) := by decide +kernel
theorem dX4_isThere_20 : decode cX4_isThere 20 = .ok (.iload_n 1, 1) := by decide +kernel
theorem dX4_isThere_21 : decode cX4_isThere 21 = .ok (.ishr, 1) := by decide +kernel
theorem dX4_isThere_22 : decode cX4_isThere 22 = .ok (.iconst 1, 1) := by decide +kernel
theorem dX4_isThere_23 : decode cX4_isThere 23 = .ok (.iand, 1) := by decide +kernel
theorem dX4_isThere_24 : decode cX4_isThere 24 = .ok (.ifCond .eq 23, 3) := by decide +kernel
theorem dX4_isThere_27 : decode cX4_isThere 27 = .ok (.aload_n 0, 1) := by decide +kernel
theorem dX4_isThere_28 : decode cX4_isThere 28 = .ok (.getfield 21, 3) := by decide +kernel
theorem dX4_isThere_31 : decode cX4_isThere 31 = .ok (.iload_n 1, 1) := by decide +kernel
theorem dX4_isThere_32 : decode cX4_isThere 32 = .ok (.iaload, 1) := by decide +kernel
theorem dX4_isThere_33 : decode cX4_isThere 33 = .ok (.aload_n 0, 1) := by decide +kernel
theorem dX4_isThere_34 : decode cX4_isThere 34 = .ok (.getfield 33, 3) := by decide +kernel
theorem dX4_isThere_37 : decode cX4_isThere 37 = .ok (.getfield 115, 3) := by decide +kernel
theorem dX4_isThere_40 : decode cX4_isThere 40 = .ok (.iload_n 1, 1) := by decide +kernel
theorem dX4_isThere_41 : decode cX4_isThere 41 = .ok (.iaload, 1) := by decide +kernel
theorem dX4_isThere_42 : decode cX4_isThere 42 = .ok (.if_icmp .eq 5, 3) := by decide +kernel
theorem dX4_isThere_45 : decode cX4_isThere 45 = .ok (.iconst 0, 1) := by decide +kernel
theorem dX4_isThere_46 : decode cX4_isThere 46 = .ok (.ireturn, 1) := by decide +kernel
theorem dX4_isThere_47 : decode cX4_isThere 47 = .ok (.iinc 1 1, 3) := by decide +kernel
theorem dX4_isThere_50 : decode cX4_isThere 50 = .ok (.goto (-48), 3) := by decide +kernel
theorem dX4_isThere_53 : decode cX4_isThere 53 = .ok (.iconst 1, 1) := by decide +kernel
theorem dX4_isThere_54 : decode cX4_isThere 54 = .ok (.ireturn, 1) := by decide +kernel
theorem dX4_trySteps_0 : decode cX4_trySteps 0 = .ok (.aload_n 0, 1) := by decide +kernel
theorem dX4_trySteps_1 : decode cX4_trySteps 1 = .ok (.getfield 33, 3) := by decide +kernel
theorem dX4_trySteps_4 : decode cX4_trySteps 4 = .ok (.iload_n 2, 1) := by decide +kernel
theorem dX4_trySteps_5 : decode cX4_trySteps 5 = .ok (.invokevirtual 112, 3) := by decide +kernel
theorem dX4_trySteps_8 : decode cX4_trySteps 8 = .ok (.ifCond .ne 39, 3) := by decide +kernel
theorem dX4_trySteps_11 : decode cX4_trySteps 11 = .ok (.aload_n 0, 1) := by decide +kernel
theorem dX4_trySteps_12 : decode cX4_trySteps 12 = .ok (.iload_n 1, 1) := by decide +kernel
theorem dX4_trySteps_13 : decode cX4_trySteps 13 = .ok (.iload_n 2, 1) := by decide +kernel
theorem dX4_trySteps_14 : decode cX4_trySteps 14 = .ok (.aload_n 0, 1) := by decide +kernel
theorem dX4_trySteps_15 : decode cX4_trySteps 15 = .ok (.getfield 27, 3) := by decide +kernel
theorem dX4_trySteps_18 : decode cX4_trySteps 18 = .ok (.aload_n 0, 1) := by decide +kernel
theorem dX4_trySteps_19 : decode cX4_trySteps 19 = .ok (.getfield 21, 3) := by decide +kernel
theorem dX4_trySteps_22 : decode cX4_trySteps 22 = .ok (.iload_n 2, 1) := by decide +kernel
theorem dX4_trySteps_23 : decode cX4_trySteps 23 = .ok (.iaload, 1) := by decide +kernel
theorem dX4_trySteps_24 : decode cX4_trySteps 24 = .ok (.iaload, 1) := by decide +kernel
theorem dX4_trySteps_25 : decode cX4_trySteps 25 = .ok (.iconst 0, 1) := by decide +kernel
theorem dX4_trySteps_26 : decode cX4_trySteps 26 = .ok (.invokevirtual 118, 3) := by decide +kernel
theorem dX4_trySteps_29 : decode cX4_trySteps 29 = .ok (.aload_n 0, 1) := by decide +kernel
theorem dX4_trySteps_30 : decode cX4_trySteps 30 = .ok (.iload_n 1, 1) := by decide +kernel
theorem dX4_trySteps_31 : decode cX4_trySteps 31 = .ok (.iload_n 2, 1) := by decide +kernel
theorem dX4_trySteps_32 : decode cX4_trySteps 32 = .ok (.aload_n 0, 1) := by decide +kernel
theorem dX4_trySteps_33 : decode cX4_trySteps 33 = .ok (.getfield 30, 3) := by decide +kernel
theorem dX4_trySteps_36 : decode cX4_trySteps 36 = .ok (.aload_n 0, 1) := by decide +kernel
theorem dX4_trySteps_37 : decode cX4_trySteps 37 = .ok (.getfield 21, 3) := by decide +kernel
theorem dX4_trySteps_40 : decode cX4_trySteps 40 = .ok (.iload_n 2, 1) := by decide +kernel
theorem dX4_trySteps_41 : decode cX4_trySteps 41 = .ok (.iaload, 1) := by decide +kernel
theorem dX4_trySteps_42 : decode cX4_trySteps 42 = .ok (.iaload, 1) := by decide +kernel
theorem dX4_trySteps_43 : decode cX4_trySteps 43 = .ok (.iconst 1, 1) := by decide +kernel
theorem dX4_trySteps_44 : decode cX4_trySteps 44 = .ok (.invokevirtual 118, 3) := by decide +kernel
theorem dX4_trySteps_47 : decode cX4_trySteps 47 = .ok (.return_, 1) := by decide +kernel
theorem dX4_tryStep_0 : decode cX4_tryStep 0 = .ok (.iload_n 3, 1) := by decide +kernel
theorem dX4_tryStep_1 : decode cX4_tryStep 1 = .ok (.iconst (-1), 1) := by decide +kernel
theorem dX4_tryStep_2 : decode cX4_tryStep 2 = .ok (.if_icmp .eq 57, 3) := by decide +kernel
theorem dX4_tryStep_5 : decode cX4_tryStep 5 = .ok (.aload_n 0, 1) := by decide +kernel
theorem dX4_tryStep_6 : decode cX4_tryStep 6 = .ok (.getfield 24, 3) := by decide +kernel
theorem dX4_tryStep_9 : decode cX4_tryStep 9 = .ok (.iload_n 3, 1) := by decide +kernel
theorem dX4_tryStep_10 : decode cX4_tryStep 10 = .ok (.iaload, 1) := by decide +kernel
theorem dX4_tryStep_11 : decode cX4_tryStep 11 = .ok (.aload_n 0, 1) := by decide +kernel
theorem dX4_tryStep_12 : decode cX4_tryStep 12 = .ok (.getfield 33, 3) := by decide +kernel
theorem dX4_tryStep_15 : decode cX4_tryStep 15 = .ok (.getfield 63, 3) := by decide +kernel
theorem dX4_tryStep_18 : decode cX4_tryStep 18 = .ok (.getfield 122, 3) := by decide +kernel
theorem dX4_tryStep_21 : decode cX4_tryStep 21 = .ok (.iload_n 3, 1) := by decide +kernel
theorem dX4_tryStep_22 : decode cX4_tryStep 22 = .ok (.iaload, 1) := by decide +kernel
theorem dX4_tryStep_23 : decode cX4_tryStep 23 = .ok (.if_icmp .ge 36, 3) := by decide +kernel
theorem dX4_tryStep_26 : decode cX4_tryStep 26 = .ok (.aload_n 0, 1) := by decide +kernel
theorem dX4_tryStep_27 : decode cX4_tryStep 27 = .ok (.iload_n 1, 1) := by decide +kernel
theorem dX4_tryStep_28 : decode cX4_tryStep 28 = .ok (.iload_n 3, 1) := by decide +kernel
theorem dX4_tryStep_29 : decode cX4_tryStep 29 = .ok (.aload_n 0, 1) := by decide +kernel
theorem dX4_tryStep_30 : decode cX4_tryStep 30 = .ok (.getfield 21, 3) := by decide +kernel
theorem dX4_tryStep_33 : decode cX4_tryStep 33 = .ok (.iload_n 2, 1) := by decide +kernel
theorem dX4_tryStep_34 : decode cX4_tryStep 34 = .ok (.iaload, 1) := by decide +kernel
theorem dX4_tryStep_35 : decode cX4_tryStep 35 = .ok (.isub, 1) := by decide +kernel
theorem dX4_tryStep_36 : decode cX4_tryStep 36 = .ok (.aload_n 0, 1) := by decide +kernel
theorem dX4_tryStep_37 : decode cX4_tryStep 37 = .ok (.getfield 18, 3) := by decide +kernel
theorem dX4_tryStep_40 : decode cX4_tryStep 40 = .ok (.iload_n 2, 1) := by decide +kernel
theorem dX4_tryStep_41 : decode cX4_tryStep 41 = .ok (.iaload, 1) := by decide +kernel
theorem dX4_tryStep_42 : decode cX4_tryStep 42 = .ok (.imul, 1) := by decide +kernel
theorem dX4_tryStep_43 : decode cX4_tryStep 43 = .ok (.iadd, 1) := by decide +kernel
theorem dX4_tryStep_44 : decode cX4_tryStep 44 = .ok (.iload_n 1, 1) := by decide +kernel
theorem dX4_tryStep_45 : decode cX4_tryStep 45 = .ok (.bipush 64, 2) := by decide +kernel
theorem dX4_tryStep_47 : decode cX4_tryStep 47 = .ok (.imul, 1) := by decide +kernel
theorem dX4_tryStep_48 : decode cX4_tryStep 48 = .ok (.iload_n 2, 1) := by decide +kernel
theorem dX4_tryStep_49 : decode cX4_tryStep 49 = .ok (.bipush 8, 2) := by decide +kernel
theorem dX4_tryStep_51 : decode cX4_tryStep 51 = .ok (.imul, 1) := by decide +kernel
theorem dX4_tryStep_52 : decode cX4_tryStep 52 = .ok (.iadd, 1) := by decide +kernel
theorem dX4_tryStep_53 : decode cX4_tryStep 53 = .ok (.iload 4, 2) := by decide +kernel
theorem dX4_tryStep_55 : decode cX4_tryStep 55 = .ok (.iadd, 1) := by decide +kernel
theorem dX4_tryStep_56 : decode cX4_tryStep 56 = .ok (.invokevirtual 109, 3) := by decide +kernel
theorem dX4_tryStep_59 : decode cX4_tryStep 59 = .ok (.return_, 1) := by decide +kernel
theorem dX4_tryPasses_0 : decode cX4_tryPasses 0 = .ok (.aload_n 0, 1) := by decide +kernel
theorem dX4_tryPasses_1 : decode cX4_tryPasses 1 = .ok (.getfield 33, 3) := by decide +kernel
theorem dX4_tryPasses_4 : decode cX4_tryPasses 4 = .ok (.iload_n 2, 1) := by decide +kernel
theorem dX4_tryPasses_5 : decode cX4_tryPasses 5 = .ok (.invokevirtual 112, 3) := by decide +kernel
theorem dX4_tryPasses_8 : decode cX4_tryPasses 8 = .ok (.ifCond .eq 4, 3) := by decide +kernel
theorem dX4_tryPasses_11 : decode cX4_tryPasses 11 = .ok (.return_, 1) := by decide +kernel
theorem dX4_tryPasses_12 : decode cX4_tryPasses 12 = .ok (.iload_n 2, 1) := by decide +kernel
theorem dX4_tryPasses_13 : decode cX4_tryPasses 13 = .ok (.iconst 1, 1) := by decide +kernel
theorem dX4_tryPasses_14 : decode cX4_tryPasses 14 = .ok (.iadd, 1) := by decide +kernel
theorem dX4_tryPasses_15 : decode cX4_tryPasses 15 = .ok (.istore_n 3, 1) := by decide +kernel
theorem dX4_tryPasses_16 : decode cX4_tryPasses 16 = .ok (.iload_n 3, 1) := by decide +kernel
theorem dX4_tryPasses_17 : decode cX4_tryPasses 17 = .ok (.aload_n 0, 1) := by decide +kernel
theorem dX4_tryPasses_18 : decode cX4_tryPasses 18 = .ok (.getfield 33, 3) := by decide +kernel
theorem dX4_tryPasses_21 : decode cX4_tryPasses 21 = .ok (.getfield 63, 3) := by decide +kernel
theorem dX4_tryPasses_24 : decode cX4_tryPasses 24 = .ok (.getfield 69, 3) := by decide +kernel
theorem dX4_tryPasses_27 : decode cX4_tryPasses 27 = .ok (.if_icmp .ge 122, 3) := by decide +kernel
theorem dX4_tryPasses_30 : decode cX4_tryPasses 30 = .ok (.aload_n 0, 1) := by decide +kernel
theorem dX4_tryPasses_31 : decode cX4_tryPasses 31 = .ok (.getfield 27, 3) := by decide +kernel
theorem dX4_tryPasses_34 : decode cX4_tryPasses 34 = .ok (.aload_n 0, 1) := by decide +kernel
theorem dX4_tryPasses_35 : decode cX4_tryPasses 35 = .ok (.getfield 21, 3) := by decide +kernel
theorem dX4_tryPasses_38 : decode cX4_tryPasses 38 = .ok (.iload_n 2, 1) := by decide +kernel
theorem dX4_tryPasses_39 : decode cX4_tryPasses 39 = .ok (.iaload, 1) := by decide +kernel
theorem dX4_tryPasses_40 : decode cX4_tryPasses 40 = .ok (.iaload, 1) := by decide +kernel
theorem dX4_tryPasses_41 : decode cX4_tryPasses 41 = .ok (.aload_n 0, 1) := by decide +kernel
theorem dX4_tryPasses_42 : decode cX4_tryPasses 42 = .ok (.getfield 21, 3) := by decide +kernel
theorem dX4_tryPasses_45 : decode cX4_tryPasses 45 = .ok (.iload_n 3, 1) := by decide +kernel
theorem dX4_tryPasses_46 : decode cX4_tryPasses 46 = .ok (.iaload, 1) := by decide +kernel
theorem dX4_tryPasses_47 : decode cX4_tryPasses 47 = .ok (.if_icmp .eq 23, 3) := by decide +kernel
theorem dX4_tryPasses_50 : decode cX4_tryPasses 50 = .ok (.aload_n 0, 1) := by decide +kernel
theorem dX4_tryPasses_51 : decode cX4_tryPasses 51 = .ok (.getfield 30, 3) := by decide +kernel
theorem dX4_tryPasses_54 : decode cX4_tryPasses 54 = .ok (.aload_n 0, 1) := by decide +kernel
theorem dX4_tryPasses_55 : decode cX4_tryPasses 55 = .ok (.getfield 21, 3) := by decide +kernel
theorem dX4_tryPasses_58 : decode cX4_tryPasses 58 = .ok (.iload_n 2, 1) := by decide +kernel
theorem dX4_tryPasses_59 : decode cX4_tryPasses 59 = .ok (.iaload, 1) := by decide +kernel
theorem dX4_tryPasses_60 : decode cX4_tryPasses 60 = .ok (.iaload, 1) := by decide +kernel
theorem dX4_tryPasses_61 : decode cX4_tryPasses 61 = .ok (.aload_n 0, 1) := by decide +kernel
theorem dX4_tryPasses_62 : decode cX4_tryPasses 62 = .ok (.getfield 21, 3) := by decide +kernel
theorem dX4_tryPasses_65 : decode cX4_tryPasses 65 = .ok (.iload_n 3, 1) := by decide +kernel
theorem dX4_tryPasses_66 : decode cX4_tryPasses 66 = .ok (.iaload, 1) := by decide +kernel
theorem dX4_tryPasses_67 : decode cX4_tryPasses 67 = .ok (.if_icmp .ne 7, 3) := by decide +kernel
theorem dX4_tryPasses_70 : decode cX4_tryPasses 70 = .ok (.iconst 1, 1) := by decide +kernel
theorem dX4_tryPasses_71 : decode cX4_tryPasses 71 = .ok (.goto 4, 3) := by decide +kernel
theorem dX4_tryPasses_74 : decode cX4_tryPasses 74 = .ok (.iconst 0, 1) := by decide +kernel
theorem dX4_tryPasses_75 : decode cX4_tryPasses 75 = .ok (.istore 4, 2) := by decide +kernel
theorem dX4_tryPasses_77 : decode cX4_tryPasses 77 = .ok (.iload 4, 2) := by decide +kernel
theorem dX4_tryPasses_79 : decode cX4_tryPasses 79 = .ok (.ifCond .eq 64, 3) := by decide +kernel
theorem dX4_tryPasses_82 : decode cX4_tryPasses 82 = .ok (.aload_n 0, 1) := by decide +kernel
theorem dX4_tryPasses_83 : decode cX4_tryPasses 83 = .ok (.getfield 33, 3) := by decide +kernel
theorem dX4_tryPasses_86 : decode cX4_tryPasses 86 = .ok (.iload_n 3, 1) := by decide +kernel
theorem dX4_tryPasses_87 : decode cX4_tryPasses 87 = .ok (.invokevirtual 112, 3) := by decide +kernel
theorem dX4_tryPasses_90 : decode cX4_tryPasses 90 = .ok (.ifCond .ne 53, 3) := by decide +kernel
theorem dX4_tryPasses_93 : decode cX4_tryPasses 93 = .ok (.iload_n 1, 1) := by decide +kernel
theorem dX4_tryPasses_94 : decode cX4_tryPasses 94 = .ok (.aload_n 0, 1) := by decide +kernel
theorem dX4_tryPasses_95 : decode cX4_tryPasses 95 = .ok (.getfield 21, 3) := by decide +kernel
theorem dX4_tryPasses_98 : decode cX4_tryPasses 98 = .ok (.iload_n 3, 1) := by decide +kernel
theorem dX4_tryPasses_99 : decode cX4_tryPasses 99 = .ok (.iaload, 1) := by decide +kernel
theorem dX4_tryPasses_100 : decode cX4_tryPasses 100 = .ok (.aload_n 0, 1) := by decide +kernel
theorem dX4_tryPasses_101 : decode cX4_tryPasses 101 = .ok (.getfield 21, 3) := by decide +kernel
theorem dX4_tryPasses_104 : decode cX4_tryPasses 104 = .ok (.iload_n 2, 1) := by decide +kernel
theorem dX4_tryPasses_105 : decode cX4_tryPasses 105 = .ok (.iaload, 1) := by decide +kernel
theorem dX4_tryPasses_106 : decode cX4_tryPasses 106 = .ok (.isub, 1) := by decide +kernel
theorem dX4_tryPasses_107 : decode cX4_tryPasses 107 = .ok (.aload_n 0, 1) := by decide +kernel
theorem dX4_tryPasses_108 : decode cX4_tryPasses 108 = .ok (.getfield 18, 3) := by decide +kernel
theorem dX4_tryPasses_111 : decode cX4_tryPasses 111 = .ok (.iload_n 2, 1) := by decide +kernel
theorem dX4_tryPasses_112 : decode cX4_tryPasses 112 = .ok (.iaload, 1) := by decide +kernel
theorem dX4_tryPasses_113 : decode cX4_tryPasses 113 = .ok (.aload_n 0, 1) := by decide +kernel
theorem dX4_tryPasses_114 : decode cX4_tryPasses 114 = .ok (.getfield 18, 3) := by decide +kernel
theorem dX4_tryPasses_117 : decode cX4_tryPasses 117 = .ok (.iload_n 3, 1) := by decide +kernel
theorem dX4_tryPasses_118 : decode cX4_tryPasses 118 = .ok (.iaload, 1) := by decide +kernel
theorem dX4_tryPasses_119 : decode cX4_tryPasses 119 = .ok (.isub, 1) := by decide +kernel
theorem dX4_tryPasses_120 : decode cX4_tryPasses 120 = .ok (.imul, 1) := by decide +kernel
theorem dX4_tryPasses_121 : decode cX4_tryPasses 121 = .ok (.iadd, 1) := by decide +kernel
theorem dX4_tryPasses_122 : decode cX4_tryPasses 122 = .ok (.istore 5, 2) := by decide +kernel
theorem dX4_tryPasses_124 : decode cX4_tryPasses 124 = .ok (.aload_n 0, 1) := by decide +kernel
theorem dX4_tryPasses_125 : decode cX4_tryPasses 125 = .ok (.iload 5, 2) := by decide +kernel
theorem dX4_tryPasses_127 : decode cX4_tryPasses 127 = .ok (.iload_n 1, 1) := by decide +kernel
theorem dX4_tryPasses_128 : decode cX4_tryPasses 128 = .ok (.bipush 64, 2) := by decide +kernel
theorem dX4_tryPasses_130 : decode cX4_tryPasses 130 = .ok (.imul, 1) := by decide +kernel
theorem dX4_tryPasses_131 : decode cX4_tryPasses 131 = .ok (.iload_n 2, 1) := by decide +kernel
theorem dX4_tryPasses_132 : decode cX4_tryPasses 132 = .ok (.bipush 8, 2) := by decide +kernel
theorem dX4_tryPasses_134 : decode cX4_tryPasses 134 = .ok (.imul, 1) := by decide +kernel
theorem dX4_tryPasses_135 : decode cX4_tryPasses 135 = .ok (.iadd, 1) := by decide +kernel
theorem dX4_tryPasses_136 : decode cX4_tryPasses 136 = .ok (.iconst 2, 1) := by decide +kernel
theorem dX4_tryPasses_137 : decode cX4_tryPasses 137 = .ok (.iadd, 1) := by decide +kernel
theorem dX4_tryPasses_138 : decode cX4_tryPasses 138 = .ok (.iload_n 3, 1) := by decide +kernel
theorem dX4_tryPasses_139 : decode cX4_tryPasses 139 = .ok (.iadd, 1) := by decide +kernel
theorem dX4_tryPasses_140 : decode cX4_tryPasses 140 = .ok (.invokevirtual 109, 3) := by decide +kernel
theorem dX4_tryPasses_143 : decode cX4_tryPasses 143 = .ok (.iinc 3 1, 3) := by decide +kernel
theorem dX4_tryPasses_146 : decode cX4_tryPasses 146 = .ok (.goto (-130), 3) := by decide +kernel
theorem dX4_tryPasses_149 : decode cX4_tryPasses 149 = .ok (.return_, 1) := by decide +kernel
theorem dX5_init_0 : decode cX5_init 0 = .ok (.aload_n 0, 1) := by decide +kernel
theorem dX5_init_1 : decode cX5_init 1 = .ok (.invokespecial 5, 3) := by decide +kernel
theorem dX5_init_4 : decode cX5_init 4 = .ok (.aload_n 0, 1) := by decide +kernel
theorem dX5_init_5 : decode cX5_init 5 = .ok (.bipush 64, 2) := by decide +kernel
theorem dX5_init_7 : decode cX5_init 7 = .ok (.newarray .long, 2) := by decide +kernel
theorem dX5_init_9 : decode cX5_init 9 = .ok (.putfield 11, 3) := by decide +kernel
theorem dX5_init_12 : decode cX5_init 12 = .ok (.aload_n 0, 1) := by decide +kernel
theorem dX5_init_13 : decode cX5_init 13 = .ok (.aload_n 1, 1) := by decide +kernel
theorem dX5_init_14 : decode cX5_init 14 = .ok (.putfield 15, 3) := by decide +kernel
theorem dX5_init_17 : decode cX5_init 17 = .ok (.aload_n 0, 1) := by decide +kernel
theorem dX5_init_18 : decode cX5_init 18 = .ok (.aload_n 2, 1) := by decide +kernel
theorem dX5_init_19 : decode cX5_init 19 = .ok (.putfield 19, 3) := by decide +kernel
theorem dX5_init_22 : decode cX5_init 22 = .ok (.aload_n 0, 1) := by decide +kernel
theorem dX5_init_23 : decode cX5_init 23 = .ok (.aload_n 3, 1) := by decide +kernel
theorem dX5_init_24 : decode cX5_init 24 = .ok (.putfield 22, 3) := by decide +kernel
theorem dX5_init_27 : decode cX5_init 27 = .ok (.return_, 1) := by decide +kernel
theorem dX5_compares_0 : decode cX5_compares 0 = .ok (.iload_n 0, 1) := by decide +kernel
theorem dX5_compares_1 : decode cX5_compares 1 = .ok (.bipush 60, 2) := by decide +kernel
theorem dX5_compares_3 : decode cX5_compares 3 = .ok (.if_icmp .eq 29, 3) := by decide +kernel
theorem dX5_compares_6 : decode cX5_compares 6 = .ok (.iload_n 0, 1) := by decide +kernel
theorem dX5_compares_7 : decode cX5_compares 7 = .ok (.bipush 61, 2) := by decide +kernel
theorem dX5_compares_9 : decode cX5_compares 9 = .ok (.if_icmp .eq 23, 3) := by decide +kernel
theorem dX5_compares_12 : decode cX5_compares 12 = .ok (.iload_n 0, 1) := by decide +kernel
theorem dX5_compares_13 : decode cX5_compares 13 = .ok (.bipush 62, 2) := by decide +kernel
theorem dX5_compares_15 : decode cX5_compares 15 = .ok (.if_icmp .eq 17, 3) := by decide +kernel
theorem dX5_compares_18 : decode cX5_compares 18 = .ok (.iload_n 0, 1) := by decide +kernel
theorem dX5_compares_19 : decode cX5_compares 19 = .ok (.sipush 316, 3) := by decide +kernel
theorem dX5_compares_22 : decode cX5_compares 22 = .ok (.if_icmp .eq 10, 3) := by decide +kernel
theorem dX5_compares_25 : decode cX5_compares 25 = .ok (.iload_n 0, 1) := by decide +kernel
theorem dX5_compares_26 : decode cX5_compares 26 = .ok (.sipush 318, 3) := by decide +kernel
theorem dX5_compares_29 : decode cX5_compares 29 = .ok (.if_icmp .ne 7, 3) := by decide +kernel
theorem dX5_compares_32 : decode cX5_compares 32 = .ok (.iconst 1, 1) := by decide +kernel
theorem dX5_compares_33 : decode cX5_compares 33 = .ok (.goto 4, 3) := by decide +kernel
theorem dX5_compares_36 : decode cX5_compares 36 = .ok (.iconst 0, 1) := by decide +kernel
theorem dX5_compares_37 : decode cX5_compares 37 = .ok (.ireturn, 1) := by decide +kernel
theorem dX5_wish_0 : decode cX5_wish 0 = .ok (.iconst 0, 1) := by decide +kernel
theorem dX5_wish_1 : decode cX5_wish 1 = .ok (.istore_n 2, 1) := by decide +kernel
theorem dX5_wish_2 : decode cX5_wish 2 = .ok (.iconst 0, 1) := by decide +kernel
theorem dX5_wish_3 : decode cX5_wish 3 = .ok (.istore_n 3, 1) := by decide +kernel
theorem dX5_wish_4 : decode cX5_wish 4 = .ok (.iload_n 3, 1) := by decide +kernel
theorem dX5_wish_5 : decode cX5_wish 5 = .ok (.aload_n 0, 1) := by decide +kernel
theorem dX5_wish_6 : decode cX5_wish 6 = .ok (.getfield 19, 3) := by decide +kernel
theorem dX5_wish_9 : decode cX5_wish 9 = .ok (.arraylength, 1) := by decide +kernel
theorem dX5_wish_10 : decode cX5_wish 10 = .ok (.if_icmp .ge 82, 3) := by decide +kernel
theorem dX5_wish_13 : decode cX5_wish 13 = .ok (.aload_n 0, 1) := by decide +kernel
theorem dX5_wish_14 : decode cX5_wish 14 = .ok (.getfield 22, 3) := by decide +kernel
theorem dX5_wish_17 : decode cX5_wish 17 = .ok (.iload_n 3, 1) := by decide +kernel
theorem dX5_wish_18 : decode cX5_wish 18 = .ok (.iaload, 1) := by decide +kernel
theorem dX5_wish_19 : decode cX5_wish 19 = .ok (.aload_n 0, 1) := by decide +kernel
theorem dX5_wish_20 : decode cX5_wish 20 = .ok (.getfield 19, 3) := by decide +kernel
theorem dX5_wish_23 : decode cX5_wish 23 = .ok (.iload_n 3, 1) := by decide +kernel
theorem dX5_wish_24 : decode cX5_wish 24 = .ok (.iaload, 1) := by decide +kernel
theorem dX5_wish_25 : decode cX5_wish 25 = .ok (.if_icmp .le 7, 3) := by decide +kernel
theorem dX5_wish_28 : decode cX5_wish 28 = .ok (.iconst 1, 1) := by decide +kernel
theorem dX5_wish_29 : decode cX5_wish 29 = .ok (.goto 4, 3) := by decide +kernel
theorem dX5_wish_32 : decode cX5_wish 32 = .ok (.iconst 0, 1) := by decide +kernel
theorem dX5_wish_33 : decode cX5_wish 33 = .ok (.istore 4, 2) := by decide +kernel
theorem dX5_wish_35 : decode cX5_wish 35 = .ok (.iload 4, 2) := by decide +kernel
theorem dX5_wish_37 : decode cX5_wish 37 = .ok (.ifCond .eq 25, 3) := by decide +kernel
theorem dX5_wish_40 : decode cX5_wish 40 = .ok (.aload_n 0, 1) := by decide +kernel
theorem dX5_wish_41 : decode cX5_wish 41 = .ok (.aload_n 0, 1) := by decide +kernel
theorem dX5_wish_42 : decode cX5_wish 42 = .ok (.getfield 19, 3) := by decide +kernel
theorem dX5_wish_45 : decode cX5_wish 45 = .ok (.iload_n 3, 1) := by decide +kernel
theorem dX5_wish_46 : decode cX5_wish 46 = .ok (.iaload, 1) := by decide +kernel
theorem dX5_wish_47 : decode cX5_wish 47 = .ok (.aload_n 0, 1) := by decide +kernel
theorem dX5_wish_48 : decode cX5_wish 48 = .ok (.getfield 22, 3) := by decide +kernel
theorem dX5_wish_51 : decode cX5_wish 51 = .ok (.iload_n 3, 1) := by decide +kernel
theorem dX5_wish_52 : decode cX5_wish 52 = .ok (.iaload, 1) := by decide +kernel
theorem dX5_wish_53 : decode cX5_wish 53 = .ok (.aload_n 1, 1) := by decide +kernel
theorem dX5_wish_54 : decode cX5_wish 54 = .ok (.invokevirtual 25, 3) := by decide +kernel
theorem dX5_wish_57 : decode cX5_wish 57 = .ok (.lconst 0, 1) := by decide +kernel
theorem dX5_wish_58 : decode cX5_wish 58 = .ok (.lcmp, 1) := by decide +kernel
theorem dX5_wish_59 : decode cX5_wish 59 = .ok (.ifCond .eq 20, 3) := by decide +kernel
theorem dX5_wish_62 : decode cX5_wish 62 = .ok (.aload_n 0, 1) := by decide +kernel
theorem dX5_wish_63 : decode cX5_wish 63 = .ok (.iload_n 2, 1) := by decide +kernel
theorem dX5_wish_64 : decode cX5_wish 64 = .ok (.aload_n 0, 1) := by decide +kernel
theorem dX5_wish_65 : decode cX5_wish 65 = .ok (.getfield 19, 3) := by decide +kernel
theorem dX5_wish_68 : decode cX5_wish 68 = .ok (.iload_n 3, 1) := by decide +kernel
theorem dX5_wish_69 : decode cX5_wish 69 = .ok (.iaload, 1) := by decide +kernel
theorem dX5_wish_70 : decode cX5_wish 70 = .ok (.aload_n 1, 1) := by decide +kernel
theorem dX5_wish_71 : decode cX5_wish 71 = .ok (.invokevirtual 25, 3) := by decide +kernel
theorem dX5_wish_74 : decode cX5_wish 74 = .ok (.lconst 0, 1) := by decide +kernel
theorem dX5_wish_75 : decode cX5_wish 75 = .ok (.invokestatic 29, 3) := by decide +kernel
theorem dX5_wish_78 : decode cX5_wish 78 = .ok (.ireturn, 1) := by decide +kernel
theorem dX5_wish_79 : decode cX5_wish 79 = .ok (.aload_n 0, 1) := by decide +kernel
theorem dX5_wish_80 : decode cX5_wish 80 = .ok (.getfield 22, 3) := by decide +kernel
theorem dX5_wish_83 : decode cX5_wish 83 = .ok (.iload_n 3, 1) := by decide +kernel
theorem dX5_wish_84 : decode cX5_wish 84 = .ok (.iaload, 1) := by decide +kernel
theorem dX5_wish_85 : decode cX5_wish 85 = .ok (.istore_n 2, 1) := by decide +kernel
theorem dX5_wish_86 : decode cX5_wish 86 = .ok (.iinc 3 1, 3) := by decide +kernel
theorem dX5_wish_89 : decode cX5_wish 89 = .ok (.goto (-85), 3) := by decide +kernel
theorem dX5_wish_92 : decode cX5_wish 92 = .ok (.iconst 0, 1) := by decide +kernel
theorem dX5_wish_93 : decode cX5_wish 93 = .ok (.ireturn, 1) := by decide +kernel
theorem dX5_result_0 : decode cX5_result 0 = .ok (.aload_n 0, 1) := by decide +kernel
theorem dX5_result_1 : decode cX5_result 1 = .ok (.iconst 0, 1) := by decide +kernel
theorem dX5_result_2 : decode cX5_result 2 = .ok (.putfield 35, 3) := by decide +kernel
theorem dX5_result_5 : decode cX5_result 5 = .ok (.iload_n 1, 1) := by decide +kernel
theorem dX5_result_6 : decode cX5_result 6 = .ok (.istore 4, 2) := by decide +kernel
theorem dX5_result_8 : decode cX5_result 8 = .ok (.iload 4, 2) := by decide +kernel
theorem dX5_result_10 : decode cX5_result 10 = .ok (.iload_n 2, 1) := by decide +kernel
theorem dX5_result_11 : decode cX5_result 11 = .ok (.if_icmp .ge 117, 3) := by decide +kernel
theorem dX5_result_14 : decode cX5_result 14 = .ok (.aload_n 0, 1) := by decide +kernel
theorem dX5_result_15 : decode cX5_result 15 = .ok (.getfield 15, 3) := by decide +kernel
theorem dX5_result_18 : decode cX5_result 18 = .ok (.iload 4, 2) := by decide +kernel
theorem dX5_result_20 : decode cX5_result 20 = .ok (.iaload, 1) := by decide +kernel
theorem dX5_result_21 : decode cX5_result 21 = .ok (.bipush 20, 2) := by decide +kernel
theorem dX5_result_23 : decode cX5_result 23 = .ok (.ishr, 1) := by decide +kernel
theorem dX5_result_24 : decode cX5_result 24 = .ok (.istore 5, 2) := by decide +kernel
theorem dX5_result_26 : decode cX5_result 26 = .ok (.aload_n 0, 1) := by decide +kernel
theorem dX5_result_27 : decode cX5_result 27 = .ok (.getfield 15, 3) := by decide +kernel
theorem dX5_result_30 : decode cX5_result 30 = .ok (.iload 4, 2) := by decide +kernel
theorem dX5_result_32 : decode cX5_result 32 = .ok (.iaload, 1) := by decide +kernel
theorem dX5_result_33 : decode cX5_result 33 = .ok (.ldc 39, 2) := by decide +kernel
theorem dX5_result_35 : decode cX5_result 35 = .ok (.iand, 1) := by decide +kernel
theorem dX5_result_36 : decode cX5_result 36 = .ok (.istore 6, 2) := by decide +kernel
theorem dX5_result_38 : decode cX5_result 38 = .ok (.iload 5, 2) := by decide +kernel
theorem dX5_result_40 : decode cX5_result 40 = .ok (.ifCond .ne 13, 3) := by decide +kernel
theorem dX5_result_43 : decode cX5_result 43 = .ok (.aload_n 0, 1) := by decide +kernel
theorem dX5_result_44 : decode cX5_result 44 = .ok (.iload 6, 2) := by decide +kernel
theorem dX5_result_46 : decode cX5_result 46 = .ok (.i2l, 1) := by decide +kernel
theorem dX5_result_47 : decode cX5_result 47 = .ok (.invokevirtual 40, 3) := by decide +kernel
theorem dX5_result_50 : decode cX5_result 50 = .ok (.goto 72, 3) := by decide +kernel
theorem dX5_result_53 : decode cX5_result 53 = .ok (.iload 5, 2) := by decide +kernel
theorem dX5_result_55 : decode cX5_result 55 = .ok (.iconst 1, 1) := by decide +kernel
theorem dX5_result_56 : decode cX5_result 56 = .ok (.if_icmp .ne 25, 3) := by decide +kernel
theorem dX5_result_59 : decode cX5_result 59 = .ok (.aload_n 0, 1) := by decide +kernel
theorem dX5_result_60 : decode cX5_result 60 = .ok (.iload 6, 2) := by decide +kernel
theorem dX5_result_62 : decode cX5_result 62 = .ok (.aload_n 3, 1) := by decide +kernel
theorem dX5_result_63 : decode cX5_result 63 = .ok (.arraylength, 1) := by decide +kernel
theorem dX5_result_64 : decode cX5_result 64 = .ok (.if_icmp .ge 10, 3) := by decide +kernel
theorem dX5_result_67 : decode cX5_result 67 = .ok (.aload_n 3, 1) := by decide +kernel
theorem dX5_result_68 : decode cX5_result 68 = .ok (.iload 6, 2) := by decide +kernel
theorem dX5_result_70 : decode cX5_result 70 = .ok (.laload, 1) := by decide +kernel
theorem dX5_result_71 : decode cX5_result 71 = .ok (.goto 4, 3) := by decide +kernel
theorem dX5_result_74 : decode cX5_result 74 = .ok (.lconst 0, 1) := by decide +kernel
theorem dX5_result_75 : decode cX5_result 75 = .ok (.invokevirtual 40, 3) := by decide +kernel
theorem dX5_result_78 : decode cX5_result 78 = .ok (.goto 44, 3) := by decide +kernel
theorem dX5_result_81 : decode cX5_result 81 = .ok (.iload 6, 2) := by decide +kernel
theorem dX5_result_83 : decode cX5_result 83 = .ok (.bipush 33, 2) := by decide +kernel
theorem dX5_result_85 : decode cX5_result 85 = .ok (.if_icmp .ne 16, 3) := by decide +kernel
theorem dX5_result_88 : decode cX5_result 88 = .ok (.aload_n 0, 1) := by decide +kernel
theorem dX5_result_89 : decode cX5_result 89 = .ok (.lconst 1, 1) := by decide +kernel
theorem dX5_result_90 : decode cX5_result 90 = .ok (.aload_n 0, 1) := by decide +kernel
theorem dX5_result_91 : decode cX5_result 91 = .ok (.invokevirtual 44, 3) := by decide +kernel
theorem dX5_result_94 : decode cX5_result 94 = .ok (.lsub, 1) := by decide +kernel
theorem dX5_result_95 : decode cX5_result 95 = .ok (.invokevirtual 40, 3) := by decide +kernel
theorem dX5_result_98 : decode cX5_result 98 = .ok (.goto 24, 3) := by decide +kernel
theorem dX5_result_101 : decode cX5_result 101 = .ok (.aload_n 0, 1) := by decide +kernel
theorem dX5_result_102 : decode cX5_result 102 = .ok (.invokevirtual 44, 3) := by decide +kernel
theorem dX5_result_105 : decode cX5_result 105 = .ok (.lstore 7, 2) := by decide +kernel
theorem dX5_result_107 : decode cX5_result 107 = .ok (.aload_n 0, 1) := by decide +kernel
theorem dX5_result_108 : decode cX5_result 108 = .ok (.iload 6, 2) := by decide +kernel
theorem dX5_result_110 : decode cX5_result 110 = .ok (.aload_n 0, 1) := by decide +kernel
theorem dX5_result_111 : decode cX5_result 111 = .ok (.invokevirtual 44, 3) := by decide +kernel
theorem dX5_result_114 : decode cX5_result 114 = .ok (.lload 7, 2) := by decide +kernel
theorem dX5_result_116 : decode cX5_result 116 = .ok (.invokestatic 48, 3) := by decide +kernel
theorem dX5_result_119 : decode cX5_result 119 = .ok (.invokevirtual 40, 3) := by decide +kernel
theorem dX5_result_122 : decode cX5_result 122 = .ok (.iinc 4 1, 3) := by decide +kernel
theorem dX5_result_125 : decode cX5_result 125 = .ok (.goto (-117), 3) := by decide +kernel
theorem dX5_result_128 : decode cX5_result 128 = .ok (.aload_n 0, 1) := by decide +kernel
theorem dX5_result_129 : decode cX5_result 129 = .ok (.invokevirtual 44, 3) := by decide +kernel
theorem dX5_result_132 : decode cX5_result 132 = .ok (.lreturn, 1) := by decide +kernel
theorem dX5_push_0 : decode cX5_push 0 = .ok (.aload_n 0, 1) := by decide +kernel
theorem dX5_push_1 : decode cX5_push 1 = .ok (.getfield 35, 3) := by decide +kernel
theorem dX5_push_4 : decode cX5_push 4 = .ok (.bipush 64, 2) := by decide +kernel
theorem dX5_push_6 : decode cX5_push 6 = .ok (.if_icmp .ge 23, 3) := by decide +kernel
theorem dX5_push_9 : decode cX5_push 9 = .ok (.aload_n 0, 1) := by decide +kernel
theorem dX5_push_10 : decode cX5_push 10 = .ok (.getfield 11, 3) := by decide +kernel
theorem dX5_push_13 : decode cX5_push 13 = .ok (.aload_n 0, 1) := by decide +kernel
theorem dX5_push_14 : decode cX5_push 14 = .ok (.getfield 35, 3) := by decide +kernel
theorem dX5_push_17 : decode cX5_push 17 = .ok (.lload_n 1, 1) := by decide +kernel
theorem dX5_push_18 : decode cX5_push 18 = .ok (.lastore, 1) := by decide +kernel
theorem dX5_push_19 : decode cX5_push 19 = .ok (.aload_n 0, 1) := by decide +kernel
theorem dX5_push_20 : decode cX5_push 20 = .ok (.dup, 1) := by decide +kernel
theorem dX5_push_21 : decode cX5_push 21 = .ok (.getfield 35, 3) := by decide +kernel
theorem dX5_push_24 : decode cX5_push 24 = .ok (.iconst 1, 1) := by decide +kernel
theorem dX5_push_25 : decode cX5_push 25 = .ok (.iadd, 1) := by decide +kernel
theorem dX5_push_26 : decode cX5_push 26 = .ok (.putfield 35, 3) := by decide +kernel
theorem dX5_push_29 : decode cX5_push 29 = .ok (.return_, 1) := by decide +kernel
theorem dX5_pop_0 : decode cX5_pop 0 = .ok (.aload_n 0, 1) := by decide +kernel
theorem dX5_pop_1 : decode cX5_pop 1 = .ok (.getfield 35, 3) := by decide +kernel
theorem dX5_pop_4 : decode cX5_pop 4 = .ok (.ifCond .gt 5, 3) := by decide +kernel
theorem dX5_pop_7 : decode cX5_pop 7 = .ok (.lconst 0, 1) := by decide +kernel
theorem dX5_pop_8 : decode cX5_pop 8 = .ok (.lreturn, 1) := by decide +kernel
theorem dX5_pop_9 : decode cX5_pop 9 = .ok (.aload_n 0, 1) := by decide +kernel
theorem dX5_pop_10 : decode cX5_pop 10 = .ok (.dup, 1) := by decide +kernel
theorem dX5_pop_11 : decode cX5_pop 11 = .ok (.getfield 35, 3) := by decide +kernel
theorem dX5_pop_14 : decode cX5_pop 14 = .ok (.iconst 1, 1) := by decide +kernel
theorem dX5_pop_15 : decode cX5_pop 15 = .ok (.isub, 1) := by decide +kernel
theorem dX5_pop_16 : decode cX5_pop 16 = .ok (.putfield 35, 3) := by decide +kernel
theorem dX5_pop_19 : decode cX5_pop 19 = .ok (.aload_n 0, 1) := by decide +kernel
theorem dX5_pop_20 : decode cX5_pop 20 = .ok (.getfield 11, 3) := by decide +kernel
theorem dX5_pop_23 : decode cX5_pop 23 = .ok (.aload_n 0, 1) := by decide +kernel
theorem dX5_pop_24 : decode cX5_pop 24 = .ok (.getfield 35, 3) := by decide +kernel
theorem dX5_pop_27 : decode cX5_pop 27 = .ok (.laload, 1) := by decide +kernel
theorem dX5_pop_28 : decode cX5_pop 28 = .ok (.lreturn, 1) := by decide +kernel
theorem dX5_joined_0 : decode cX5_joined 0 = .ok (.iload_n 0, 1) := by decide +kernel
theorem dX5_joined_1 : decode cX5_joined 1 = .ok (.lookupswitch 195 #[(37, 125), (38, 139), (42, 107), (43, 99), (45, 103), (47, 111), (60, 147), (62, 159), (124, 143), (316, 171), (318, 183)], 99) := by decide +kernel
theorem dX5_joined_100 : decode cX5_joined 100 = .ok (.lload_n 1, 1) := by decide +kernel
theorem dX5_joined_101 : decode cX5_joined 101 = .ok (.lload_n 3, 1) := by decide +kernel
theorem dX5_joined_102 : decode cX5_joined 102 = .ok (.ladd, 1) := by decide +kernel
theorem dX5_joined_103 : decode cX5_joined 103 = .ok (.lreturn, 1) := by decide +kernel
theorem dX5_joined_104 : decode cX5_joined 104 = .ok (.lload_n 1, 1) := by decide +kernel
theorem dX5_joined_105 : decode cX5_joined 105 = .ok (.lload_n 3, 1) := by decide +kernel
theorem dX5_joined_106 : decode cX5_joined 106 = .ok (.lsub, 1) := by decide +kernel
theorem dX5_joined_107 : decode cX5_joined 107 = .ok (.lreturn, 1) := by decide +kernel
theorem dX5_joined_108 : decode cX5_joined 108 = .ok (.lload_n 1, 1) := by decide +kernel
theorem dX5_joined_109 : decode cX5_joined 109 = .ok (.lload_n 3, 1) := by decide +kernel
theorem dX5_joined_110 : decode cX5_joined 110 = .ok (.lmul, 1) := by decide +kernel
theorem dX5_joined_111 : decode cX5_joined 111 = .ok (.lreturn, 1) := by decide +kernel
theorem dX5_joined_112 : decode cX5_joined 112 = .ok (.lload_n 3, 1) := by decide +kernel
theorem dX5_joined_113 : decode cX5_joined 113 = .ok (.lconst 0, 1) := by decide +kernel
theorem dX5_joined_114 : decode cX5_joined 114 = .ok (.lcmp, 1) := by decide +kernel
theorem dX5_joined_115 : decode cX5_joined 115 = .ok (.ifCond .ne 7, 3) := by decide +kernel
theorem dX5_joined_118 : decode cX5_joined 118 = .ok (.lconst 0, 1) := by decide +kernel
theorem dX5_joined_119 : decode cX5_joined 119 = .ok (.goto 6, 3) := by decide +kernel
theorem dX5_joined_122 : decode cX5_joined 122 = .ok (.lload_n 1, 1) := by decide +kernel
theorem dX5_joined_123 : decode cX5_joined 123 = .ok (.lload_n 3, 1) := by decide +kernel
theorem dX5_joined_124 : decode cX5_joined 124 = .ok (.ldiv, 1) := by decide +kernel
theorem dX5_joined_125 : decode cX5_joined 125 = .ok (.lreturn, 1) := by decide +kernel
theorem dX5_joined_126 : decode cX5_joined 126 = .ok (.lload_n 3, 1) := by decide +kernel
theorem dX5_joined_127 : decode cX5_joined 127 = .ok (.lconst 0, 1) := by decide +kernel
theorem dX5_joined_128 : decode cX5_joined 128 = .ok (.lcmp, 1) := by decide +kernel
theorem dX5_joined_129 : decode cX5_joined 129 = .ok (.ifCond .ne 7, 3) := by decide +kernel
theorem dX5_joined_132 : decode cX5_joined 132 = .ok (.lconst 0, 1) := by decide +kernel
theorem dX5_joined_133 : decode cX5_joined 133 = .ok (.goto 6, 3) := by decide +kernel
theorem dX5_joined_136 : decode cX5_joined 136 = .ok (.lload_n 1, 1) := by decide +kernel
theorem dX5_joined_137 : decode cX5_joined 137 = .ok (.lload_n 3, 1) := by decide +kernel
theorem dX5_joined_138 : decode cX5_joined 138 = .ok (.lrem, 1) := by decide +kernel
theorem dX5_joined_139 : decode cX5_joined 139 = .ok (.lreturn, 1) := by decide +kernel
theorem dX5_joined_140 : decode cX5_joined 140 = .ok (.lload_n 1, 1) := by decide +kernel
theorem dX5_joined_141 : decode cX5_joined 141 = .ok (.lload_n 3, 1) := by decide +kernel
theorem dX5_joined_142 : decode cX5_joined 142 = .ok (.land, 1) := by decide +kernel
theorem dX5_joined_143 : decode cX5_joined 143 = .ok (.lreturn, 1) := by decide +kernel
theorem dX5_joined_144 : decode cX5_joined 144 = .ok (.lload_n 1, 1) := by decide +kernel
theorem dX5_joined_145 : decode cX5_joined 145 = .ok (.lload_n 3, 1) := by decide +kernel
theorem dX5_joined_146 : decode cX5_joined 146 = .ok (.lor, 1) := by decide +kernel
theorem dX5_joined_147 : decode cX5_joined 147 = .ok (.lreturn, 1) := by decide +kernel
theorem dX5_joined_148 : decode cX5_joined 148 = .ok (.lload_n 1, 1) := by decide +kernel
theorem dX5_joined_149 : decode cX5_joined 149 = .ok (.lload_n 3, 1) := by decide +kernel
theorem dX5_joined_150 : decode cX5_joined 150 = .ok (.lcmp, 1) := by decide +kernel
theorem dX5_joined_151 : decode cX5_joined 151 = .ok (.ifCond .ge 7, 3) := by decide +kernel
theorem dX5_joined_154 : decode cX5_joined 154 = .ok (.lconst 1, 1) := by decide +kernel
theorem dX5_joined_155 : decode cX5_joined 155 = .ok (.goto 4, 3) := by decide +kernel
theorem dX5_joined_158 : decode cX5_joined 158 = .ok (.lconst 0, 1) := by decide +kernel
theorem dX5_joined_159 : decode cX5_joined 159 = .ok (.lreturn, 1) := by decide +kernel
theorem dX5_joined_160 : decode cX5_joined 160 = .ok (.lload_n 1, 1) := by decide +kernel
theorem dX5_joined_161 : decode cX5_joined 161 = .ok (.lload_n 3, 1) := by decide +kernel
theorem dX5_joined_162 : decode cX5_joined 162 = .ok (.lcmp, 1) := by decide +kernel
theorem dX5_joined_163 : decode cX5_joined 163 = .ok (.ifCond .le 7, 3) := by decide +kernel
theorem dX5_joined_166 : decode cX5_joined 166 = .ok (.lconst 1, 1) := by decide +kernel
theorem dX5_joined_167 : decode cX5_joined 167 = .ok (.goto 4, 3) := by decide +kernel
theorem dX5_joined_170 : decode cX5_joined 170 = .ok (.lconst 0, 1) := by decide +kernel
theorem dX5_joined_171 : decode cX5_joined 171 = .ok (.lreturn, 1) := by decide +kernel
theorem dX5_joined_172 : decode cX5_joined 172 = .ok (.lload_n 1, 1) := by decide +kernel
theorem dX5_joined_173 : decode cX5_joined 173 = .ok (.lload_n 3, 1) := by decide +kernel
theorem dX5_joined_174 : decode cX5_joined 174 = .ok (.lcmp, 1) := by decide +kernel
theorem dX5_joined_175 : decode cX5_joined 175 = .ok (.ifCond .gt 7, 3) := by decide +kernel
theorem dX5_joined_178 : decode cX5_joined 178 = .ok (.lconst 1, 1) := by decide +kernel
theorem dX5_joined_179 : decode cX5_joined 179 = .ok (.goto 4, 3) := by decide +kernel
theorem dX5_joined_182 : decode cX5_joined 182 = .ok (.lconst 0, 1) := by decide +kernel
theorem dX5_joined_183 : decode cX5_joined 183 = .ok (.lreturn, 1) := by decide +kernel
theorem dX5_joined_184 : decode cX5_joined 184 = .ok (.lload_n 1, 1) := by decide +kernel
theorem dX5_joined_185 : decode cX5_joined 185 = .ok (.lload_n 3, 1) := by decide +kernel
theorem dX5_joined_186 : decode cX5_joined 186 = .ok (.lcmp, 1) := by decide +kernel
theorem dX5_joined_187 : decode cX5_joined 187 = .ok (.ifCond .lt 7, 3) := by decide +kernel
theorem dX5_joined_190 : decode cX5_joined 190 = .ok (.lconst 1, 1) := by decide +kernel
theorem dX5_joined_191 : decode cX5_joined 191 = .ok (.goto 4, 3) := by decide +kernel
theorem dX5_joined_194 : decode cX5_joined 194 = .ok (.lconst 0, 1) := by decide +kernel
theorem dX5_joined_195 : decode cX5_joined 195 = .ok (.lreturn, 1) := by decide +kernel
theorem dX5_joined_196 : decode cX5_joined 196 = .ok (.lload_n 1, 1) := by decide +kernel
theorem dX5_joined_197 : decode cX5_joined 197 = .ok (.lload_n 3, 1) := by decide +kernel
theorem dX5_joined_198 : decode cX5_joined 198 = .ok (.lcmp, 1) := by decide +kernel
theorem dX5_joined_199 : decode cX5_joined 199 = .ok (.ifCond .ne 7, 3) := by decide +kernel
theorem dX5_joined_202 : decode cX5_joined 202 = .ok (.lconst 1, 1) := by decide +kernel
theorem dX5_joined_203 : decode cX5_joined 203 = .ok (.goto 4, 3) := by decide +kernel
theorem dX5_joined_206 : decode cX5_joined 206 = .ok (.lconst 0, 1) := by decide +kernel
theorem dX5_joined_207 : decode cX5_joined 207 = .ok (.lreturn, 1) := by decide +kernel
theorem dX6_init_0 : decode cX6_init 0 = .ok (.aload_n 0, 1) := by decide +kernel
theorem dX6_init_1 : decode cX6_init 1 = .ok (.invokespecial 3, 3) := by decide +kernel
theorem dX6_init_4 : decode cX6_init 4 = .ok (.aload_n 0, 1) := by decide +kernel
theorem dX6_init_5 : decode cX6_init 5 = .ok (.sipush 400, 3) := by decide +kernel
theorem dX6_init_8 : decode cX6_init 8 = .ok (.newarray .int, 2) := by decide +kernel
theorem dX6_init_10 : decode cX6_init 10 = .ok (.putfield 9, 3) := by decide +kernel
theorem dX6_init_13 : decode cX6_init 13 = .ok (.aload_n 0, 1) := by decide +kernel
theorem dX6_init_14 : decode cX6_init 14 = .ok (.bipush 12, 2) := by decide +kernel
theorem dX6_init_16 : decode cX6_init 16 = .ok (.newarray .int, 2) := by decide +kernel
theorem dX6_init_18 : decode cX6_init 18 = .ok (.putfield 15, 3) := by decide +kernel
theorem dX6_init_21 : decode cX6_init 21 = .ok (.aload_n 0, 1) := by decide +kernel
theorem dX6_init_22 : decode cX6_init 22 = .ok (.bipush 12, 2) := by decide +kernel
theorem dX6_init_24 : decode cX6_init 24 = .ok (.newarray .int, 2) := by decide +kernel
theorem dX6_init_26 : decode cX6_init 26 = .ok (.putfield 18, 3) := by decide +kernel
theorem dX6_init_29 : decode cX6_init 29 = .ok (.aload_n 0, 1) := by decide +kernel
theorem dX6_init_30 : decode cX6_init 30 = .ok (.aload_n 1, 1) := by decide +kernel
theorem dX6_init_31 : decode cX6_init 31 = .ok (.putfield 21, 3) := by decide +kernel
theorem dX6_init_34 : decode cX6_init 34 = .ok (.return_, 1) := by decide +kernel
theorem dX6_made_0 : decode cX6_made 0 = .ok (.new 25, 3) := by decide +kernel
theorem dX6_made_3 : decode cX6_made 3 = .ok (.dup, 1) := by decide +kernel
theorem dX6_made_4 : decode cX6_made 4 = .ok (.aload_n 0, 1) := by decide +kernel
theorem dX6_made_5 : decode cX6_made 5 = .ok (.getfield 9, 3) := by decide +kernel
theorem dX6_made_8 : decode cX6_made 8 = .ok (.aload_n 0, 1) := by decide +kernel
theorem dX6_made_9 : decode cX6_made 9 = .ok (.getfield 27, 3) := by decide +kernel
theorem dX6_made_12 : decode cX6_made 12 = .ok (.invokestatic 31, 3) := by decide +kernel
theorem dX6_made_15 : decode cX6_made 15 = .ok (.aload_n 0, 1) := by decide +kernel
theorem dX6_made_16 : decode cX6_made 16 = .ok (.getfield 15, 3) := by decide +kernel
theorem dX6_made_19 : decode cX6_made 19 = .ok (.aload_n 0, 1) := by decide +kernel
theorem dX6_made_20 : decode cX6_made 20 = .ok (.getfield 37, 3) := by decide +kernel
theorem dX6_made_23 : decode cX6_made 23 = .ok (.invokestatic 31, 3) := by decide +kernel
theorem dX6_made_26 : decode cX6_made 26 = .ok (.aload_n 0, 1) := by decide +kernel
theorem dX6_made_27 : decode cX6_made 27 = .ok (.getfield 18, 3) := by decide +kernel
theorem dX6_made_30 : decode cX6_made 30 = .ok (.aload_n 0, 1) := by decide +kernel
theorem dX6_made_31 : decode cX6_made 31 = .ok (.getfield 37, 3) := by decide +kernel
theorem dX6_made_34 : decode cX6_made 34 = .ok (.invokestatic 31, 3) := by decide +kernel
theorem dX6_made_37 : decode cX6_made 37 = .ok (.invokespecial 40, 3) := by decide +kernel
theorem dX6_made_40 : decode cX6_made 40 = .ok (.areturn, 1) := by decide +kernel
theorem dX6_readText_0 : decode cX6_readText 0 = .ok (.aload_n 0, 1) := by decide +kernel
theorem dX6_readText_1 : decode cX6_readText 1 = .ok (.iconst 0, 1) := by decide +kernel
theorem dX6_readText_2 : decode cX6_readText 2 = .ok (.putfield 27, 3) := by decide +kernel
theorem dX6_readText_5 : decode cX6_readText 5 = .ok (.aload_n 0, 1) := by decide +kernel
theorem dX6_readText_6 : decode cX6_readText 6 = .ok (.iconst 0, 1) := by decide +kernel
theorem dX6_readText_7 : decode cX6_readText 7 = .ok (.putfield 37, 3) := by decide +kernel
theorem dX6_readText_10 : decode cX6_readText 10 = .ok (.aload_n 0, 1) := by decide +kernel
theorem dX6_readText_11 : decode cX6_readText 11 = .ok (.iconst 0, 1) := by decide +kernel
theorem dX6_readText_12 : decode cX6_readText 12 = .ok (.putfield 43, 3) := by decide +kernel
theorem dX6_readText_15 : decode cX6_readText 15 = .ok (.aload_n 0, 1) := by decide +kernel
theorem dX6_readText_16 : decode cX6_readText 16 = .ok (.getfield 21, 3) := by decide +kernel
theorem dX6_readText_19 : decode cX6_readText 19 = .ok (.invokevirtual 46, 3) := by decide +kernel
theorem dX6_readText_22 : decode cX6_readText 22 = .ok (.iconst 0, 1) := by decide +kernel
theorem dX6_readText_23 : decode cX6_readText 23 = .ok (.istore_n 1, 1) := by decide +kernel
theorem dX6_readText_24 : decode cX6_readText 24 = .ok (.iload_n 1, 1) := by decide +kernel
theorem dX6_readText_25 : decode cX6_readText 25 = .ok (.bipush 12, 2) := by decide +kernel
theorem dX6_readText_27 : decode cX6_readText 27 = .ok (.if_icmp .gt 169, 3) := by decide +kernel
theorem dX6_readText_30 : decode cX6_readText 30 = .ok (.aload_n 0, 1) := by decide +kernel
theorem dX6_readText_31 : decode cX6_readText 31 = .ok (.getfield 21, 3) := by decide +kernel
theorem dX6_readText_34 : decode cX6_readText 34 = .ok (.ldc 51, 2) := by decide +kernel
theorem dX6_readText_36 : decode cX6_readText 36 = .ok (.invokevirtual 53, 3) := by decide +kernel
theorem dX6_readText_39 : decode cX6_readText 39 = .ok (.ifCond .ne 12, 3) := by decide +kernel
theorem dX6_readText_42 : decode cX6_readText 42 = .ok (.aload_n 0, 1) := by decide +kernel
theorem dX6_readText_43 : decode cX6_readText 43 = .ok (.getfield 21, 3) := by decide +kernel
theorem dX6_readText_46 : decode cX6_readText 46 = .ok (.iconst 0, 1) := by decide +kernel
theorem dX6_readText_47 : decode cX6_readText 47 = .ok (.invokevirtual 57, 3) := by decide +kernel
theorem dX6_readText_50 : decode cX6_readText 50 = .ok (.ireturn, 1) := by decide +kernel
theorem dX6_readText_51 : decode cX6_readText 51 = .ok (.aload_n 0, 1) := by decide +kernel
theorem dX6_readText_52 : decode cX6_readText 52 = .ok (.getfield 37, 3) := by decide +kernel
theorem dX6_readText_55 : decode cX6_readText 55 = .ok (.bipush 12, 2) := by decide +kernel
theorem dX6_readText_57 : decode cX6_readText 57 = .ok (.if_icmp .lt 12, 3) := by decide +kernel
theorem dX6_readText_60 : decode cX6_readText 60 = .ok (.aload_n 0, 1) := by decide +kernel
theorem dX6_readText_61 : decode cX6_readText 61 = .ok (.getfield 21, 3) := by decide +kernel
theorem dX6_readText_64 : decode cX6_readText 64 = .ok (.iconst 4, 1) := by decide +kernel
theorem dX6_readText_65 : decode cX6_readText 65 = .ok (.invokevirtual 57, 3) := by decide +kernel
theorem dX6_readText_68 : decode cX6_readText 68 = .ok (.ireturn, 1) := by decide +kernel
theorem dX6_readText_69 : decode cX6_readText 69 = .ok (.aload_n 0, 1) := by decide +kernel
theorem dX6_readText_70 : decode cX6_readText 70 = .ok (.getfield 21, 3) := by decide +kernel
theorem dX6_readText_73 : decode cX6_readText 73 = .ok (.invokevirtual 61, 3) := by decide +kernel
theorem dX6_readText_76 : decode cX6_readText 76 = .ok (.aload_n 0, 1) := by decide +kernel
theorem dX6_readText_77 : decode cX6_readText 77 = .ok (.invokevirtual 64, 3) := by decide +kernel
theorem dX6_readText_80 : decode cX6_readText 80 = .ok (.ifCond .ne 5, 3) := by decide +kernel
theorem dX6_readText_83 : decode cX6_readText 83 = .ok (.iconst 0, 1) := by decide +kernel
theorem dX6_readText_84 : decode cX6_readText 84 = .ok (.ireturn, 1) := by decide +kernel
theorem dX6_readText_85 : decode cX6_readText 85 = .ok (.aload_n 0, 1) := by decide +kernel
theorem dX6_readText_86 : decode cX6_readText 86 = .ok (.getfield 15, 3) := by decide +kernel
theorem dX6_readText_89 : decode cX6_readText 89 = .ok (.aload_n 0, 1) := by decide +kernel
theorem dX6_readText_90 : decode cX6_readText 90 = .ok (.getfield 37, 3) := by decide +kernel
theorem dX6_readText_93 : decode cX6_readText 93 = .ok (.aload_n 0, 1) := by decide +kernel
theorem dX6_readText_94 : decode cX6_readText 94 = .ok (.getfield 27, 3) := by decide +kernel
theorem dX6_readText_97 : decode cX6_readText 97 = .ok (.iastore, 1) := by decide +kernel
theorem dX6_readText_98 : decode cX6_readText 98 = .ok (.aload_n 0, 1) := by decide +kernel
theorem dX6_readText_99 : decode cX6_readText 99 = .ok (.getfield 21, 3) := by decide +kernel
theorem dX6_readText_102 : decode cX6_readText 102 = .ok (.ldc 68, 2) := by decide +kernel
theorem dX6_readText_104 : decode cX6_readText 104 = .ok (.invokevirtual 53, 3) := by decide +kernel
theorem dX6_readText_107 : decode cX6_readText 107 = .ok (.ifCond .eq 20, 3) := by decide +kernel
theorem dX6_readText_110 : decode cX6_readText 110 = .ok (.aload_n 0, 1) := by decide +kernel
theorem dX6_readText_111 : decode cX6_readText 111 = .ok (.getfield 21, 3) := by decide +kernel
theorem dX6_readText_114 : decode cX6_readText 114 = .ok (.invokevirtual 61, 3) := by decide +kernel
theorem dX6_readText_117 : decode cX6_readText 117 = .ok (.aload_n 0, 1) := by decide +kernel
theorem dX6_readText_118 : decode cX6_readText 118 = .ok (.iconst 0, 1) := by decide +kernel
theorem dX6_readText_119 : decode cX6_readText 119 = .ok (.invokevirtual 70, 3) := by decide +kernel
theorem dX6_readText_122 : decode cX6_readText 122 = .ok (.ifCond .ne 5, 3) := by decide +kernel
theorem dX6_readText_125 : decode cX6_readText 125 = .ok (.iconst 0, 1) := by decide +kernel
theorem dX6_readText_126 : decode cX6_readText 126 = .ok (.ireturn, 1) := by decide +kernel
theorem dX6_readText_127 : decode cX6_readText 127 = .ok (.aload_n 0, 1) := by decide +kernel
theorem dX6_readText_128 : decode cX6_readText 128 = .ok (.getfield 18, 3) := by decide +kernel
theorem dX6_readText_131 : decode cX6_readText 131 = .ok (.aload_n 0, 1) := by decide +kernel
theorem dX6_readText_132 : decode cX6_readText 132 = .ok (.getfield 37, 3) := by decide +kernel
theorem dX6_readText_135 : decode cX6_readText 135 = .ok (.aload_n 0, 1) := by decide +kernel
theorem dX6_readText_136 : decode cX6_readText 136 = .ok (.getfield 27, 3) := by decide +kernel
theorem dX6_readText_139 : decode cX6_readText 139 = .ok (.iastore, 1) := by decide +kernel
theorem dX6_readText_140 : decode cX6_readText 140 = .ok (.aload_n 0, 1) := by decide +kernel
theorem dX6_readText_141 : decode cX6_readText 141 = .ok (.dup, 1) := by decide +kernel
theorem dX6_readText_142 : decode cX6_readText 142 = .ok (.getfield 37, 3) := by decide +kernel
theorem dX6_readText_145 : decode cX6_readText 145 = .ok (.iconst 1, 1) := by decide +kernel
theorem dX6_readText_146 : decode cX6_readText 146 = .ok (.iadd, 1) := by decide +kernel
theorem dX6_readText_147 : decode cX6_readText 147 = .ok (.putfield 37, 3) := by decide +kernel
theorem dX6_readText_150 : decode cX6_readText 150 = .ok (.aload_n 0, 1) := by decide +kernel
theorem dX6_readText_151 : decode cX6_readText 151 = .ok (.getfield 21, 3) := by decide +kernel
theorem dX6_readText_154 : decode cX6_readText 154 = .ok (.getfield 73, 3) := by decide +kernel
theorem dX6_readText_157 : decode cX6_readText 157 = .ok (.ifCond .ne 5, 3) := by decide +kernel
theorem dX6_readText_160 : decode cX6_readText 160 = .ok (.iconst 1, 1) := by decide +kernel
theorem dX6_readText_161 : decode cX6_readText 161 = .ok (.ireturn, 1) := by decide +kernel
theorem dX6_readText_162 : decode cX6_readText 162 = .ok (.aload_n 0, 1) := by decide +kernel
theorem dX6_readText_163 : decode cX6_readText 163 = .ok (.getfield 21, 3) := by decide +kernel
theorem dX6_readText_166 : decode cX6_readText 166 = .ok (.bipush 59, 2) := by decide +kernel
theorem dX6_readText_168 : decode cX6_readText 168 = .ok (.invokevirtual 76, 3) := by decide +kernel
theorem dX6_readText_171 : decode cX6_readText 171 = .ok (.ifCond .ne 12, 3) := by decide +kernel
theorem dX6_readText_174 : decode cX6_readText 174 = .ok (.aload_n 0, 1) := by decide +kernel
theorem dX6_readText_175 : decode cX6_readText 175 = .ok (.getfield 21, 3) := by decide +kernel
theorem dX6_readText_178 : decode cX6_readText 178 = .ok (.iconst 0, 1) := by decide +kernel
theorem dX6_readText_179 : decode cX6_readText 179 = .ok (.invokevirtual 57, 3) := by decide +kernel
theorem dX6_readText_182 : decode cX6_readText 182 = .ok (.ireturn, 1) := by decide +kernel
theorem dX6_readText_183 : decode cX6_readText 183 = .ok (.aload_n 0, 1) := by decide +kernel
theorem dX6_readText_184 : decode cX6_readText 184 = .ok (.getfield 21, 3) := by decide +kernel
theorem dX6_readText_187 : decode cX6_readText 187 = .ok (.invokevirtual 61, 3) := by decide +kernel
theorem dX6_readText_190 : decode cX6_readText 190 = .ok (.iinc 1 1, 3) := by decide +kernel
theorem dX6_readText_193 : decode cX6_readText 193 = .ok (.goto (-169), 3) := by decide +kernel
theorem dX6_readText_196 : decode cX6_readText 196 = .ok (.iconst 0, 1) := by decide +kernel
theorem dX6_readText_197 : decode cX6_readText 197 = .ok (.ireturn, 1) := by decide +kernel
theorem dX6_readTest_0 : decode cX6_readTest 0 = .ok (.aload_n 0, 1) := by decide +kernel
theorem dX6_readTest_1 : decode cX6_readTest 1 = .ok (.iload_n 1, 1) := by decide +kernel
theorem dX6_readTest_2 : decode cX6_readTest 2 = .ok (.invokevirtual 80, 3) := by decide +kernel
theorem dX6_readTest_5 : decode cX6_readTest 5 = .ok (.ifCond .ne 5, 3) := by decide +kernel
theorem dX6_readTest_8 : decode cX6_readTest 8 = .ok (.iconst 0, 1) := by decide +kernel
theorem dX6_readTest_9 : decode cX6_readTest 9 = .ok (.ireturn, 1) := by decide +kernel
theorem dX6_readTest_10 : decode cX6_readTest 10 = .ok (.iconst 0, 1) := by decide +kernel
theorem dX6_readTest_11 : decode cX6_readTest 11 = .ok (.istore_n 2, 1) := by decide +kernel
theorem dX6_readTest_12 : decode cX6_readTest 12 = .ok (.iconst 0, 1) := by decide +kernel
theorem dX6_readTest_13 : decode cX6_readTest 13 = .ok (.istore_n 3, 1) := by decide +kernel
theorem dX6_readTest_14 : decode cX6_readTest 14 = .ok (.iload_n 3, 1) := by decide +kernel
theorem dX6_readTest_15 : decode cX6_readTest 15 = .ok (.sipush 400, 3) := by decide +kernel
theorem dX6_readTest_18 : decode cX6_readTest 18 = .ok (.if_icmp .ge 100, 3) := by decide +kernel
theorem dX6_readTest_21 : decode cX6_readTest 21 = .ok (.aload_n 0, 1) := by decide +kernel
theorem dX6_readTest_22 : decode cX6_readTest 22 = .ok (.getfield 21, 3) := by decide +kernel
theorem dX6_readTest_25 : decode cX6_readTest 25 = .ok (.ldc 83, 2) := by decide +kernel
theorem dX6_readTest_27 : decode cX6_readTest 27 = .ok (.invokevirtual 53, 3) := by decide +kernel
theorem dX6_readTest_30 : decode cX6_readTest 30 = .ok (.istore 4, 2) := by decide +kernel
theorem dX6_readTest_32 : decode cX6_readTest 32 = .ok (.iload 4, 2) := by decide +kernel
theorem dX6_readTest_34 : decode cX6_readTest 34 = .ok (.ifCond .ne 18, 3) := by decide +kernel
theorem dX6_readTest_37 : decode cX6_readTest 37 = .ok (.aload_n 0, 1) := by decide +kernel
theorem dX6_readTest_38 : decode cX6_readTest 38 = .ok (.getfield 21, 3) := by decide +kernel
theorem dX6_readTest_41 : decode cX6_readTest 41 = .ok (.ldc 85, 2) := by decide +kernel
theorem dX6_readTest_43 : decode cX6_readTest 43 = .ok (.invokevirtual 53, 3) := by decide +kernel
theorem dX6_readTest_46 : decode cX6_readTest 46 = .ok (.ifCond .ne 6, 3) := by decide +kernel
theorem dX6_readTest_49 : decode cX6_readTest 49 = .ok (.goto 69, 3) := by decide +kernel
theorem dX6_readTest_52 : decode cX6_readTest 52 = .ok (.iload 4, 2) := by decide +kernel
theorem dX6_readTest_54 : decode cX6_readTest 54 = .ok (.ifCond .ne 14, 3) := by decide +kernel
theorem dX6_readTest_57 : decode cX6_readTest 57 = .ok (.iload_n 2, 1) := by decide +kernel
theorem dX6_readTest_58 : decode cX6_readTest 58 = .ok (.ifCond .eq 10, 3) := by decide +kernel
theorem dX6_readTest_61 : decode cX6_readTest 61 = .ok (.aload_n 0, 1) := by decide +kernel
theorem dX6_readTest_62 : decode cX6_readTest 62 = .ok (.iconst 2, 1) := by decide +kernel
theorem dX6_readTest_63 : decode cX6_readTest 63 = .ok (.bipush 124, 2) := by decide +kernel
theorem dX6_readTest_65 : decode cX6_readTest 65 = .ok (.invokevirtual 87, 3) := by decide +kernel
theorem dX6_readTest_68 : decode cX6_readTest 68 = .ok (.iload_n 2, 1) := by decide +kernel
theorem dX6_readTest_69 : decode cX6_readTest 69 = .ok (.ifCond .ne 8, 3) := by decide +kernel
theorem dX6_readTest_72 : decode cX6_readTest 72 = .ok (.iload 4, 2) := by decide +kernel
theorem dX6_readTest_74 : decode cX6_readTest 74 = .ok (.ifCond .ne 7, 3) := by decide +kernel
theorem dX6_readTest_77 : decode cX6_readTest 77 = .ok (.iconst 1, 1) := by decide +kernel
theorem dX6_readTest_78 : decode cX6_readTest 78 = .ok (.goto 4, 3) := by decide +kernel
theorem dX6_readTest_81 : decode cX6_readTest 81 = .ok (.iconst 0, 1) := by decide +kernel
theorem dX6_readTest_82 : decode cX6_readTest 82 = .ok (.istore_n 2, 1) := by decide +kernel
theorem dX6_readTest_83 : decode cX6_readTest 83 = .ok (.aload_n 0, 1) := by decide +kernel
theorem dX6_readTest_84 : decode cX6_readTest 84 = .ok (.getfield 21, 3) := by decide +kernel
theorem dX6_readTest_87 : decode cX6_readTest 87 = .ok (.invokevirtual 61, 3) := by decide +kernel
theorem dX6_readTest_90 : decode cX6_readTest 90 = .ok (.aload_n 0, 1) := by decide +kernel
theorem dX6_readTest_91 : decode cX6_readTest 91 = .ok (.iload_n 1, 1) := by decide +kernel
theorem dX6_readTest_92 : decode cX6_readTest 92 = .ok (.invokevirtual 80, 3) := by decide +kernel
theorem dX6_readTest_95 : decode cX6_readTest 95 = .ok (.ifCond .ne 5, 3) := by decide +kernel
theorem dX6_readTest_98 : decode cX6_readTest 98 = .ok (.iconst 0, 1) := by decide +kernel
theorem dX6_readTest_99 : decode cX6_readTest 99 = .ok (.ireturn, 1) := by decide +kernel
theorem dX6_readTest_100 : decode cX6_readTest 100 = .ok (.iload 4, 2) := by decide +kernel
theorem dX6_readTest_102 : decode cX6_readTest 102 = .ok (.ifCond .eq 10, 3) := by decide +kernel
theorem dX6_readTest_105 : decode cX6_readTest 105 = .ok (.aload_n 0, 1) := by decide +kernel
theorem dX6_readTest_106 : decode cX6_readTest 106 = .ok (.iconst 2, 1) := by decide +kernel
theorem dX6_readTest_107 : decode cX6_readTest 107 = .ok (.bipush 38, 2) := by decide +kernel
theorem dX6_readTest_109 : decode cX6_readTest 109 = .ok (.invokevirtual 87, 3) := by decide +kernel
theorem dX6_readTest_112 : decode cX6_readTest 112 = .ok (.iinc 3 1, 3) := by decide +kernel
theorem dX6_readTest_115 : decode cX6_readTest 115 = .ok (.goto (-101), 3) := by decide +kernel
theorem dX6_readTest_118 : decode cX6_readTest 118 = .ok (.iload_n 2, 1) := by decide +kernel
theorem dX6_readTest_119 : decode cX6_readTest 119 = .ok (.ifCond .eq 10, 3) := by decide +kernel
theorem dX6_readTest_122 : decode cX6_readTest 122 = .ok (.aload_n 0, 1) := by decide +kernel
theorem dX6_readTest_123 : decode cX6_readTest 123 = .ok (.iconst 2, 1) := by decide +kernel
theorem dX6_readTest_124 : decode cX6_readTest 124 = .ok (.bipush 124, 2) := by decide +kernel
theorem dX6_readTest_126 : decode cX6_readTest 126 = .ok (.invokevirtual 87, 3) := by decide +kernel
theorem dX6_readTest_129 : decode cX6_readTest 129 = .ok (.iconst 1, 1) := by decide +kernel
theorem dX6_readTest_130 : decode cX6_readTest 130 = .ok (.ireturn, 1) := by decide +kernel
theorem dX6_readFact_0 : decode cX6_readFact 0 = .ok (.aload_n 0, 1) := by decide +kernel
theorem dX6_readFact_1 : decode cX6_readFact 1 = .ok (.getfield 21, 3) := by decide +kernel
theorem dX6_readFact_4 : decode cX6_readFact 4 = .ok (.ldc 91, 2) := by decide +kernel
theorem dX6_readFact_6 : decode cX6_readFact 6 = .ok (.invokevirtual 53, 3) := by decide +kernel
theorem dX6_readFact_9 : decode cX6_readFact 9 = .ok (.istore_n 2, 1) := by decide +kernel
theorem dX6_readFact_10 : decode cX6_readFact 10 = .ok (.iload_n 2, 1) := by decide +kernel
theorem dX6_readFact_11 : decode cX6_readFact 11 = .ok (.ifCond .ne 20, 3) := by decide +kernel
theorem dX6_readFact_14 : decode cX6_readFact 14 = .ok (.aload_n 0, 1) := by decide +kernel
theorem dX6_readFact_15 : decode cX6_readFact 15 = .ok (.getfield 21, 3) := by decide +kernel
theorem dX6_readFact_18 : decode cX6_readFact 18 = .ok (.bipush 91, 2) := by decide +kernel
theorem dX6_readFact_20 : decode cX6_readFact 20 = .ok (.invokevirtual 76, 3) := by decide +kernel
theorem dX6_readFact_23 : decode cX6_readFact 23 = .ok (.ifCond .ne 8, 3) := by decide +kernel
theorem dX6_readFact_26 : decode cX6_readFact 26 = .ok (.aload_n 0, 1) := by decide +kernel
theorem dX6_readFact_27 : decode cX6_readFact 27 = .ok (.invokevirtual 93, 3) := by decide +kernel
theorem dX6_readFact_30 : decode cX6_readFact 30 = .ok (.ireturn, 1) := by decide +kernel
theorem dX6_readFact_31 : decode cX6_readFact 31 = .ok (.iload_n 1, 1) := by decide +kernel
theorem dX6_readFact_32 : decode cX6_readFact 32 = .ok (.bipush 10, 2) := by decide +kernel
theorem dX6_readFact_34 : decode cX6_readFact 34 = .ok (.if_icmp .lt 12, 3) := by decide +kernel
theorem dX6_readFact_37 : decode cX6_readFact 37 = .ok (.aload_n 0, 1) := by decide +kernel
theorem dX6_readFact_38 : decode cX6_readFact 38 = .ok (.getfield 21, 3) := by decide +kernel
theorem dX6_readFact_41 : decode cX6_readFact 41 = .ok (.iconst 2, 1) := by decide +kernel
theorem dX6_readFact_42 : decode cX6_readFact 42 = .ok (.invokevirtual 57, 3) := by decide +kernel
theorem dX6_readFact_45 : decode cX6_readFact 45 = .ok (.ireturn, 1) := by decide +kernel
theorem dX6_readFact_46 : decode cX6_readFact 46 = .ok (.aload_n 0, 1) := by decide +kernel
theorem dX6_readFact_47 : decode cX6_readFact 47 = .ok (.getfield 21, 3) := by decide +kernel
theorem dX6_readFact_50 : decode cX6_readFact 50 = .ok (.invokevirtual 61, 3) := by decide +kernel
theorem dX6_readFact_53 : decode cX6_readFact 53 = .ok (.iload_n 2, 1) := by decide +kernel
theorem dX6_readFact_54 : decode cX6_readFact 54 = .ok (.ifCond .eq 13, 3) := by decide +kernel
theorem dX6_readFact_57 : decode cX6_readFact 57 = .ok (.aload_n 0, 1) := by decide +kernel
theorem dX6_readFact_58 : decode cX6_readFact 58 = .ok (.iload_n 1, 1) := by decide +kernel
theorem dX6_readFact_59 : decode cX6_readFact 59 = .ok (.iconst 1, 1) := by decide +kernel
theorem dX6_readFact_60 : decode cX6_readFact 60 = .ok (.iadd, 1) := by decide +kernel
theorem dX6_readFact_61 : decode cX6_readFact 61 = .ok (.invokevirtual 96, 3) := by decide +kernel
theorem dX6_readFact_64 : decode cX6_readFact 64 = .ok (.goto 10, 3) := by decide +kernel
theorem dX6_readFact_67 : decode cX6_readFact 67 = .ok (.aload_n 0, 1) := by decide +kernel
theorem dX6_readFact_68 : decode cX6_readFact 68 = .ok (.iload_n 1, 1) := by decide +kernel
theorem dX6_readFact_69 : decode cX6_readFact 69 = .ok (.iconst 1, 1) := by decide +kernel
theorem dX6_readFact_70 : decode cX6_readFact 70 = .ok (.iadd, 1) := by decide +kernel
theorem dX6_readFact_71 : decode cX6_readFact 71 = .ok (.invokevirtual 99, 3) := by decide +kernel
theorem dX6_readFact_74 : decode cX6_readFact 74 = .ok (.ireturn, 1) := by decide +kernel
theorem dX6_readNegated_0 : decode cX6_readNegated 0 = .ok (.aload_n 0, 1) := by decide +kernel
theorem dX6_readNegated_1 : decode cX6_readNegated 1 = .ok (.iload_n 1, 1) := by decide +kernel
theorem dX6_readNegated_2 : decode cX6_readNegated 2 = .ok (.invokevirtual 80, 3) := by decide +kernel
theorem dX6_readNegated_5 : decode cX6_readNegated 5 = .ok (.istore_n 2, 1) := by decide +kernel
theorem dX6_readNegated_6 : decode cX6_readNegated 6 = .ok (.aload_n 0, 1) := by decide +kernel
theorem dX6_readNegated_7 : decode cX6_readNegated 7 = .ok (.iconst 2, 1) := by decide +kernel
theorem dX6_readNegated_8 : decode cX6_readNegated 8 = .ok (.bipush 33, 2) := by decide +kernel
theorem dX6_readNegated_10 : decode cX6_readNegated 10 = .ok (.invokevirtual 87, 3) := by decide +kernel
theorem dX6_readNegated_13 : decode cX6_readNegated 13 = .ok (.iload_n 2, 1) := by decide +kernel
theorem dX6_readNegated_14 : decode cX6_readNegated 14 = .ok (.ireturn, 1) := by decide +kernel
theorem dX6_readBracketed_0 : decode cX6_readBracketed 0 = .ok (.aload_n 0, 1) := by decide +kernel
theorem dX6_readBracketed_1 : decode cX6_readBracketed 1 = .ok (.iload_n 1, 1) := by decide +kernel
theorem dX6_readBracketed_2 : decode cX6_readBracketed 2 = .ok (.invokevirtual 70, 3) := by decide +kernel
theorem dX6_readBracketed_5 : decode cX6_readBracketed 5 = .ok (.ifCond .ne 5, 3) := by decide +kernel
theorem dX6_readBracketed_8 : decode cX6_readBracketed 8 = .ok (.iconst 0, 1) := by decide +kernel
theorem dX6_readBracketed_9 : decode cX6_readBracketed 9 = .ok (.ireturn, 1) := by decide +kernel
theorem dX6_readBracketed_10 : decode cX6_readBracketed 10 = .ok (.aload_n 0, 1) := by decide +kernel
theorem dX6_readBracketed_11 : decode cX6_readBracketed 11 = .ok (.getfield 21, 3) := by decide +kernel
theorem dX6_readBracketed_14 : decode cX6_readBracketed 14 = .ok (.bipush 93, 2) := by decide +kernel
theorem dX6_readBracketed_16 : decode cX6_readBracketed 16 = .ok (.invokevirtual 76, 3) := by decide +kernel
theorem dX6_readBracketed_19 : decode cX6_readBracketed 19 = .ok (.ifCond .ne 12, 3) := by decide +kernel
theorem dX6_readBracketed_22 : decode cX6_readBracketed 22 = .ok (.aload_n 0, 1) := by decide +kernel
theorem dX6_readBracketed_23 : decode cX6_readBracketed 23 = .ok (.getfield 21, 3) := by decide +kernel
theorem dX6_readBracketed_26 : decode cX6_readBracketed 26 = .ok (.iconst 0, 1) := by decide +kernel
theorem dX6_readBracketed_27 : decode cX6_readBracketed 27 = .ok (.invokevirtual 57, 3) := by decide +kernel
theorem dX6_readBracketed_30 : decode cX6_readBracketed 30 = .ok (.ireturn, 1) := by decide +kernel
theorem dX6_readBracketed_31 : decode cX6_readBracketed 31 = .ok (.aload_n 0, 1) := by decide +kernel
theorem dX6_readBracketed_32 : decode cX6_readBracketed 32 = .ok (.getfield 21, 3) := by decide +kernel
theorem dX6_readBracketed_35 : decode cX6_readBracketed 35 = .ok (.invokevirtual 61, 3) := by decide +kernel
theorem dX6_readBracketed_38 : decode cX6_readBracketed 38 = .ok (.iconst 1, 1) := by decide +kernel
theorem dX6_readBracketed_39 : decode cX6_readBracketed 39 = .ok (.ireturn, 1) := by decide +kernel
theorem dX6_readComparison_0 : decode cX6_readComparison 0 = .ok (.aload_n 0, 1) := by decide +kernel
theorem dX6_readComparison_1 : decode cX6_readComparison 1 = .ok (.invokevirtual 64, 3) := by decide +kernel
theorem dX6_readComparison_4 : decode cX6_readComparison 4 = .ok (.ifCond .ne 5, 3) := by decide +kernel
theorem dX6_readComparison_7 : decode cX6_readComparison 7 = .ok (.iconst 0, 1) := by decide +kernel
theorem dX6_readComparison_8 : decode cX6_readComparison 8 = .ok (.ireturn, 1) := by decide +kernel
theorem dX6_readComparison_9 : decode cX6_readComparison 9 = .ok (.aload_n 0, 1) := by decide +kernel
theorem dX6_readComparison_10 : decode cX6_readComparison 10 = .ok (.getfield 21, 3) := by decide +kernel
theorem dX6_readComparison_13 : decode cX6_readComparison 13 = .ok (.getfield 102, 3) := by decide +kernel
theorem dX6_readComparison_16 : decode cX6_readComparison 16 = .ok (.istore_n 1, 1) := by decide +kernel
theorem dX6_readComparison_17 : decode cX6_readComparison 17 = .ok (.aload_n 0, 1) := by decide +kernel
theorem dX6_readComparison_18 : decode cX6_readComparison 18 = .ok (.getfield 21, 3) := by decide +kernel
theorem dX6_readComparison_21 : decode cX6_readComparison 21 = .ok (.getfield 73, 3) := by decide +kernel
theorem dX6_readComparison_24 : decode cX6_readComparison 24 = .ok (.iconst 3, 1) := by decide +kernel
theorem dX6_readComparison_25 : decode cX6_readComparison 25 = .ok (.if_icmp .ne 10, 3) := by decide +kernel
theorem dX6_readComparison_28 : decode cX6_readComparison 28 = .ok (.iload_n 1, 1) := by decide +kernel
theorem dX6_readComparison_29 : decode cX6_readComparison 29 = .ok (.invokestatic 105, 3) := by decide +kernel
theorem dX6_readComparison_32 : decode cX6_readComparison 32 = .ok (.ifCond .ne 12, 3) := by decide +kernel
theorem dX6_readComparison_35 : decode cX6_readComparison 35 = .ok (.aload_n 0, 1) := by decide +kernel
theorem dX6_readComparison_36 : decode cX6_readComparison 36 = .ok (.getfield 21, 3) := by decide +kernel
theorem dX6_readComparison_39 : decode cX6_readComparison 39 = .ok (.iconst 0, 1) := by decide +kernel
theorem dX6_readComparison_40 : decode cX6_readComparison 40 = .ok (.invokevirtual 57, 3) := by decide +kernel
theorem dX6_readComparison_43 : decode cX6_readComparison 43 = .ok (.ireturn, 1) := by decide +kernel
theorem dX6_readComparison_44 : decode cX6_readComparison 44 = .ok (.aload_n 0, 1) := by decide +kernel
theorem dX6_readComparison_45 : decode cX6_readComparison 45 = .ok (.getfield 43, 3) := by decide +kernel
theorem dX6_readComparison_48 : decode cX6_readComparison 48 = .ok (.bipush 60, 2) := by decide +kernel
theorem dX6_readComparison_50 : decode cX6_readComparison 50 = .ok (.if_icmp .lt 12, 3) := by decide +kernel
theorem dX6_readComparison_53 : decode cX6_readComparison 53 = .ok (.aload_n 0, 1) := by decide +kernel
theorem dX6_readComparison_54 : decode cX6_readComparison 54 = .ok (.getfield 21, 3) := by decide +kernel
theorem dX6_readComparison_57 : decode cX6_readComparison 57 = .ok (.iconst 3, 1) := by decide +kernel
theorem dX6_readComparison_58 : decode cX6_readComparison 58 = .ok (.invokevirtual 57, 3) := by decide +kernel
theorem dX6_readComparison_61 : decode cX6_readComparison 61 = .ok (.ireturn, 1) := by decide +kernel
theorem dX6_readComparison_62 : decode cX6_readComparison 62 = .ok (.aload_n 0, 1) := by decide +kernel
theorem dX6_readComparison_63 : decode cX6_readComparison 63 = .ok (.dup, 1) := by decide +kernel
theorem dX6_readComparison_64 : decode cX6_readComparison 64 = .ok (.getfield 43, 3) := by decide +kernel
theorem dX6_readComparison_67 : decode cX6_readComparison 67 = .ok (.iconst 1, 1) := by decide +kernel
theorem dX6_readComparison_68 : decode cX6_readComparison 68 = .ok (.iadd, 1) := by decide +kernel
theorem dX6_readComparison_69 : decode cX6_readComparison 69 = .ok (.putfield 43, 3) := by decide +kernel
theorem dX6_readComparison_72 : decode cX6_readComparison 72 = .ok (.aload_n 0, 1) := by decide +kernel
theorem dX6_readComparison_73 : decode cX6_readComparison 73 = .ok (.getfield 21, 3) := by decide +kernel
theorem dX6_readComparison_76 : decode cX6_readComparison 76 = .ok (.invokevirtual 61, 3) := by decide +kernel
theorem dX6_readComparison_79 : decode cX6_readComparison 79 = .ok (.aload_n 0, 1) := by decide +kernel
theorem dX6_readComparison_80 : decode cX6_readComparison 80 = .ok (.invokevirtual 64, 3) := by decide +kernel
theorem dX6_readComparison_83 : decode cX6_readComparison 83 = .ok (.ifCond .ne 5, 3) := by decide +kernel
theorem dX6_readComparison_86 : decode cX6_readComparison 86 = .ok (.iconst 0, 1) := by decide +kernel
theorem dX6_readComparison_87 : decode cX6_readComparison 87 = .ok (.ireturn, 1) := by decide +kernel
theorem dX6_readComparison_88 : decode cX6_readComparison 88 = .ok (.aload_n 0, 1) := by decide +kernel
theorem dX6_readComparison_89 : decode cX6_readComparison 89 = .ok (.iconst 2, 1) := by decide +kernel
theorem dX6_readComparison_90 : decode cX6_readComparison 90 = .ok (.iload_n 1, 1) := by decide +kernel
theorem dX6_readComparison_91 : decode cX6_readComparison 91 = .ok (.invokevirtual 87, 3) := by decide +kernel
theorem dX6_readComparison_94 : decode cX6_readComparison 94 = .ok (.iconst 1, 1) := by decide +kernel
theorem dX6_readComparison_95 : decode cX6_readComparison 95 = .ok (.ireturn, 1) := by decide +kernel
theorem dX6_readSum_0 : decode cX6_readSum 0 = .ok (.aload_n 0, 1) := by decide +kernel
theorem dX6_readSum_1 : decode cX6_readSum 1 = .ok (.invokevirtual 108, 3) := by decide +kernel
theorem dX6_readSum_4 : decode cX6_readSum 4 = .ok (.ifCond .ne 5, 3) := by decide +kernel
theorem dX6_readSum_7 : decode cX6_readSum 7 = .ok (.iconst 0, 1) := by decide +kernel
theorem dX6_readSum_8 : decode cX6_readSum 8 = .ok (.ireturn, 1) := by decide +kernel
theorem dX6_readSum_9 : decode cX6_readSum 9 = .ok (.iconst (-1), 1) := by decide +kernel
theorem dX6_readSum_10 : decode cX6_readSum 10 = .ok (.istore_n 1, 1) := by decide +kernel
theorem dX6_readSum_11 : decode cX6_readSum 11 = .ok (.iconst 0, 1) := by decide +kernel
theorem dX6_readSum_12 : decode cX6_readSum 12 = .ok (.istore_n 2, 1) := by decide +kernel
theorem dX6_readSum_13 : decode cX6_readSum 13 = .ok (.iload_n 2, 1) := by decide +kernel
theorem dX6_readSum_14 : decode cX6_readSum 14 = .ok (.sipush 400, 3) := by decide +kernel
theorem dX6_readSum_17 : decode cX6_readSum 17 = .ok (.if_icmp .ge 131, 3) := by decide +kernel
theorem dX6_readSum_20 : decode cX6_readSum 20 = .ok (.aload_n 0, 1) := by decide +kernel
theorem dX6_readSum_21 : decode cX6_readSum 21 = .ok (.getfield 21, 3) := by decide +kernel
theorem dX6_readSum_24 : decode cX6_readSum 24 = .ok (.getfield 102, 3) := by decide +kernel
theorem dX6_readSum_27 : decode cX6_readSum 27 = .ok (.istore_n 3, 1) := by decide +kernel
theorem dX6_readSum_28 : decode cX6_readSum 28 = .ok (.aload_n 0, 1) := by decide +kernel
theorem dX6_readSum_29 : decode cX6_readSum 29 = .ok (.getfield 21, 3) := by decide +kernel
theorem dX6_readSum_32 : decode cX6_readSum 32 = .ok (.bipush 42, 2) := by decide +kernel
theorem dX6_readSum_34 : decode cX6_readSum 34 = .ok (.invokevirtual 76, 3) := by decide +kernel
theorem dX6_readSum_37 : decode cX6_readSum 37 = .ok (.ifCond .ne 27, 3) := by decide +kernel
theorem dX6_readSum_40 : decode cX6_readSum 40 = .ok (.aload_n 0, 1) := by decide +kernel
theorem dX6_readSum_41 : decode cX6_readSum 41 = .ok (.getfield 21, 3) := by decide +kernel
theorem dX6_readSum_44 : decode cX6_readSum 44 = .ok (.bipush 47, 2) := by decide +kernel
theorem dX6_readSum_46 : decode cX6_readSum 46 = .ok (.invokevirtual 76, 3) := by decide +kernel
theorem dX6_readSum_49 : decode cX6_readSum 49 = .ok (.ifCond .ne 15, 3) := by decide +kernel
theorem dX6_readSum_52 : decode cX6_readSum 52 = .ok (.aload_n 0, 1) := by decide +kernel
theorem dX6_readSum_53 : decode cX6_readSum 53 = .ok (.getfield 21, 3) := by decide +kernel
theorem dX6_readSum_56 : decode cX6_readSum 56 = .ok (.bipush 37, 2) := by decide +kernel
theorem dX6_readSum_58 : decode cX6_readSum 58 = .ok (.invokevirtual 76, 3) := by decide +kernel
theorem dX6_readSum_61 : decode cX6_readSum 61 = .ok (.ifCond .eq 7, 3) := by decide +kernel
theorem dX6_readSum_64 : decode cX6_readSum 64 = .ok (.iconst 1, 1) := by decide +kernel
theorem dX6_readSum_65 : decode cX6_readSum 65 = .ok (.goto 4, 3) := by decide +kernel
theorem dX6_readSum_68 : decode cX6_readSum 68 = .ok (.iconst 0, 1) := by decide +kernel
theorem dX6_readSum_69 : decode cX6_readSum 69 = .ok (.istore 4, 2) := by decide +kernel
theorem dX6_readSum_71 : decode cX6_readSum 71 = .ok (.iload 4, 2) := by decide +kernel
theorem dX6_readSum_73 : decode cX6_readSum 73 = .ok (.ifCond .ne 30, 3) := by decide +kernel
theorem dX6_readSum_76 : decode cX6_readSum 76 = .ok (.aload_n 0, 1) := by decide +kernel
theorem dX6_readSum_77 : decode cX6_readSum 77 = .ok (.getfield 21, 3) := by decide +kernel
theorem dX6_readSum_80 : decode cX6_readSum 80 = .ok (.bipush 43, 2) := by decide +kernel
theorem dX6_readSum_82 : decode cX6_readSum 82 = .ok (.invokevirtual 76, 3) := by decide +kernel
theorem dX6_readSum_85 : decode cX6_readSum 85 = .ok (.ifCond .ne 18, 3) := by decide +kernel
theorem dX6_readSum_88 : decode cX6_readSum 88 = .ok (.aload_n 0, 1) := by decide +kernel
theorem dX6_readSum_89 : decode cX6_readSum 89 = .ok (.getfield 21, 3) := by decide +kernel
theorem dX6_readSum_92 : decode cX6_readSum 92 = .ok (.bipush 45, 2) := by decide +kernel
theorem dX6_readSum_94 : decode cX6_readSum 94 = .ok (.invokevirtual 76, 3) := by decide +kernel
theorem dX6_readSum_97 : decode cX6_readSum 97 = .ok (.ifCond .ne 6, 3) := by decide +kernel
theorem dX6_readSum_100 : decode cX6_readSum 100 = .ok (.goto 48, 3) := by decide +kernel
theorem dX6_readSum_103 : decode cX6_readSum 103 = .ok (.iload 4, 2) := by decide +kernel
theorem dX6_readSum_105 : decode cX6_readSum 105 = .ok (.ifCond .ne 10, 3) := by decide +kernel
theorem dX6_readSum_108 : decode cX6_readSum 108 = .ok (.aload_n 0, 1) := by decide +kernel
theorem dX6_readSum_109 : decode cX6_readSum 109 = .ok (.iload_n 1, 1) := by decide +kernel
theorem dX6_readSum_110 : decode cX6_readSum 110 = .ok (.invokevirtual 111, 3) := by decide +kernel
theorem dX6_readSum_113 : decode cX6_readSum 113 = .ok (.iload_n 3, 1) := by decide +kernel
theorem dX6_readSum_114 : decode cX6_readSum 114 = .ok (.istore_n 1, 1) := by decide +kernel
theorem dX6_readSum_115 : decode cX6_readSum 115 = .ok (.aload_n 0, 1) := by decide +kernel
theorem dX6_readSum_116 : decode cX6_readSum 116 = .ok (.getfield 21, 3) := by decide +kernel
theorem dX6_readSum_119 : decode cX6_readSum 119 = .ok (.invokevirtual 61, 3) := by decide +kernel
theorem dX6_readSum_122 : decode cX6_readSum 122 = .ok (.aload_n 0, 1) := by decide +kernel
theorem dX6_readSum_123 : decode cX6_readSum 123 = .ok (.invokevirtual 108, 3) := by decide +kernel
theorem dX6_readSum_126 : decode cX6_readSum 126 = .ok (.ifCond .ne 5, 3) := by decide +kernel
theorem dX6_readSum_129 : decode cX6_readSum 129 = .ok (.iconst 0, 1) := by decide +kernel
theorem dX6_readSum_130 : decode cX6_readSum 130 = .ok (.ireturn, 1) := by decide +kernel
theorem dX6_readSum_131 : decode cX6_readSum 131 = .ok (.iload 4, 2) := by decide +kernel
theorem dX6_readSum_133 : decode cX6_readSum 133 = .ok (.ifCond .eq 9, 3) := by decide +kernel
theorem dX6_readSum_136 : decode cX6_readSum 136 = .ok (.aload_n 0, 1) := by decide +kernel
theorem dX6_readSum_137 : decode cX6_readSum 137 = .ok (.iconst 2, 1) := by decide +kernel
theorem dX6_readSum_138 : decode cX6_readSum 138 = .ok (.iload_n 3, 1) := by decide +kernel
theorem dX6_readSum_139 : decode cX6_readSum 139 = .ok (.invokevirtual 87, 3) := by decide +kernel
theorem dX6_readSum_142 : decode cX6_readSum 142 = .ok (.iinc 2 1, 3) := by decide +kernel
theorem dX6_readSum_145 : decode cX6_readSum 145 = .ok (.goto (-132), 3) := by decide +kernel
theorem dX6_readSum_148 : decode cX6_readSum 148 = .ok (.aload_n 0, 1) := by decide +kernel
theorem dX6_readSum_149 : decode cX6_readSum 149 = .ok (.iload_n 1, 1) := by decide +kernel
theorem dX6_readSum_150 : decode cX6_readSum 150 = .ok (.invokevirtual 111, 3) := by decide +kernel
theorem dX6_readSum_153 : decode cX6_readSum 153 = .ok (.iconst 1, 1) := by decide +kernel
theorem dX6_readSum_154 : decode cX6_readSum 154 = .ok (.ireturn, 1) := by decide +kernel
theorem dX6_emitWaiting_0 : decode cX6_emitWaiting 0 = .ok (.iload_n 1, 1) := by decide +kernel
theorem dX6_emitWaiting_1 : decode cX6_emitWaiting 1 = .ok (.iconst (-1), 1) := by decide +kernel
theorem dX6_emitWaiting_2 : decode cX6_emitWaiting 2 = .ok (.if_icmp .eq 9, 3) := by decide +kernel
theorem dX6_emitWaiting_5 : decode cX6_emitWaiting 5 = .ok (.aload_n 0, 1) := by decide +kernel
theorem dX6_emitWaiting_6 : decode cX6_emitWaiting 6 = .ok (.iconst 2, 1) := by decide +kernel
theorem dX6_emitWaiting_7 : decode cX6_emitWaiting 7 = .ok (.iload_n 1, 1) := by decide +kernel
theorem dX6_emitWaiting_8 : decode cX6_emitWaiting 8 = .ok (.invokevirtual 87, 3) := by decide +kernel
theorem dX6_emitWaiting_11 : decode cX6_emitWaiting 11 = .ok (.return_, 1) := by decide +kernel
theorem dX6_readValue_0 : decode cX6_readValue 0 = .ok (.aload_n 0, 1) := by decide +kernel
theorem dX6_readValue_1 : decode cX6_readValue 1 = .ok (.getfield 21, 3) := by decide +kernel
theorem dX6_readValue_4 : decode cX6_readValue 4 = .ok (.getfield 73, 3) := by decide +kernel
theorem dX6_readValue_7 : decode cX6_readValue 7 = .ok (.iconst 2, 1) := by decide +kernel
theorem dX6_readValue_8 : decode cX6_readValue 8 = .ok (.if_icmp .ne 7, 3) := by decide +kernel
theorem dX6_readValue_11 : decode cX6_readValue 11 = .ok (.iconst 1, 1) := by decide +kernel
theorem dX6_readValue_12 : decode cX6_readValue 12 = .ok (.goto 4, 3) := by decide +kernel
theorem dX6_readValue_15 : decode cX6_readValue 15 = .ok (.iconst 0, 1) := by decide +kernel
theorem dX6_readValue_16 : decode cX6_readValue 16 = .ok (.istore_n 1, 1) := by decide +kernel
theorem dX6_readValue_17 : decode cX6_readValue 17 = .ok (.iload_n 1, 1) := by decide +kernel
theorem dX6_readValue_18 : decode cX6_readValue 18 = .ok (.ifCond .eq 13, 3) := by decide +kernel
theorem dX6_readValue_21 : decode cX6_readValue 21 = .ok (.aload_n 0, 1) := by decide +kernel
theorem dX6_readValue_22 : decode cX6_readValue 22 = .ok (.getfield 21, 3) := by decide +kernel
theorem dX6_readValue_25 : decode cX6_readValue 25 = .ok (.invokevirtual 115, 3) := by decide +kernel
theorem dX6_readValue_28 : decode cX6_readValue 28 = .ok (.goto 12, 3) := by decide +kernel
theorem dX6_readValue_31 : decode cX6_readValue 31 = .ok (.aload_n 0, 1) := by decide +kernel
theorem dX6_readValue_32 : decode cX6_readValue 32 = .ok (.getfield 21, 3) := by decide +kernel
theorem dX6_readValue_35 : decode cX6_readValue 35 = .ok (.ldc 119, 2) := by decide +kernel
theorem dX6_readValue_37 : decode cX6_readValue 37 = .ok (.invokevirtual 121, 3) := by decide +kernel
theorem dX6_readValue_40 : decode cX6_readValue 40 = .ok (.istore_n 2, 1) := by decide +kernel
theorem dX6_readValue_41 : decode cX6_readValue 41 = .ok (.iload_n 2, 1) := by decide +kernel
theorem dX6_readValue_42 : decode cX6_readValue 42 = .ok (.iconst (-1), 1) := by decide +kernel
theorem dX6_readValue_43 : decode cX6_readValue 43 = .ok (.if_icmp .ne 20, 3) := by decide +kernel
theorem dX6_readValue_46 : decode cX6_readValue 46 = .ok (.aload_n 0, 1) := by decide +kernel
theorem dX6_readValue_47 : decode cX6_readValue 47 = .ok (.getfield 21, 3) := by decide +kernel
theorem dX6_readValue_50 : decode cX6_readValue 50 = .ok (.iload_n 1, 1) := by decide +kernel
theorem dX6_readValue_51 : decode cX6_readValue 51 = .ok (.ifCond .eq 7, 3) := by decide +kernel
theorem dX6_readValue_54 : decode cX6_readValue 54 = .ok (.iconst 1, 1) := by decide +kernel
theorem dX6_readValue_55 : decode cX6_readValue 55 = .ok (.goto 4, 3) := by decide +kernel
theorem dX6_readValue_58 : decode cX6_readValue 58 = .ok (.iconst 0, 1) := by decide +kernel
theorem dX6_readValue_59 : decode cX6_readValue 59 = .ok (.invokevirtual 57, 3) := by decide +kernel
theorem dX6_readValue_62 : decode cX6_readValue 62 = .ok (.ireturn, 1) := by decide +kernel
theorem dX6_readValue_63 : decode cX6_readValue 63 = .ok (.aload_n 0, 1) := by decide +kernel
theorem dX6_readValue_64 : decode cX6_readValue 64 = .ok (.getfield 43, 3) := by decide +kernel
theorem dX6_readValue_67 : decode cX6_readValue 67 = .ok (.bipush 60, 2) := by decide +kernel
theorem dX6_readValue_69 : decode cX6_readValue 69 = .ok (.if_icmp .lt 12, 3) := by decide +kernel
theorem dX6_readValue_72 : decode cX6_readValue 72 = .ok (.aload_n 0, 1) := by decide +kernel
theorem dX6_readValue_73 : decode cX6_readValue 73 = .ok (.getfield 21, 3) := by decide +kernel
theorem dX6_readValue_76 : decode cX6_readValue 76 = .ok (.iconst 3, 1) := by decide +kernel
theorem dX6_readValue_77 : decode cX6_readValue 77 = .ok (.invokevirtual 57, 3) := by decide +kernel
theorem dX6_readValue_80 : decode cX6_readValue 80 = .ok (.ireturn, 1) := by decide +kernel
theorem dX6_readValue_81 : decode cX6_readValue 81 = .ok (.aload_n 0, 1) := by decide +kernel
theorem dX6_readValue_82 : decode cX6_readValue 82 = .ok (.dup, 1) := by decide +kernel
theorem dX6_readValue_83 : decode cX6_readValue 83 = .ok (.getfield 43, 3) := by decide +kernel
theorem dX6_readValue_86 : decode cX6_readValue 86 = .ok (.iconst 1, 1) := by decide +kernel
theorem dX6_readValue_87 : decode cX6_readValue 87 = .ok (.iadd, 1) := by decide +kernel
theorem dX6_readValue_88 : decode cX6_readValue 88 = .ok (.putfield 43, 3) := by decide +kernel
theorem dX6_readValue_91 : decode cX6_readValue 91 = .ok (.aload_n 0, 1) := by decide +kernel
theorem dX6_readValue_92 : decode cX6_readValue 92 = .ok (.getfield 21, 3) := by decide +kernel
theorem dX6_readValue_95 : decode cX6_readValue 95 = .ok (.invokevirtual 61, 3) := by decide +kernel
theorem dX6_readValue_98 : decode cX6_readValue 98 = .ok (.aload_n 0, 1) := by decide +kernel
theorem dX6_readValue_99 : decode cX6_readValue 99 = .ok (.iload_n 1, 1) := by decide +kernel
theorem dX6_readValue_100 : decode cX6_readValue 100 = .ok (.ifCond .eq 7, 3) := by decide +kernel
theorem dX6_readValue_103 : decode cX6_readValue 103 = .ok (.iconst 0, 1) := by decide +kernel
theorem dX6_readValue_104 : decode cX6_readValue 104 = .ok (.goto 4, 3) := by decide +kernel
theorem dX6_readValue_107 : decode cX6_readValue 107 = .ok (.iconst 1, 1) := by decide +kernel
theorem dX6_readValue_108 : decode cX6_readValue 108 = .ok (.iload_n 2, 1) := by decide +kernel
theorem dX6_readValue_109 : decode cX6_readValue 109 = .ok (.invokevirtual 87, 3) := by decide +kernel
theorem dX6_readValue_112 : decode cX6_readValue 112 = .ok (.iconst 1, 1) := by decide +kernel
theorem dX6_readValue_113 : decode cX6_readValue 113 = .ok (.ireturn, 1) := by decide +kernel
theorem dX6_emit_0 : decode cX6_emit 0 = .ok (.aload_n 0, 1) := by decide +kernel
theorem dX6_emit_1 : decode cX6_emit 1 = .ok (.getfield 27, 3) := by decide +kernel
theorem dX6_emit_4 : decode cX6_emit 4 = .ok (.aload_n 0, 1) := by decide +kernel
theorem dX6_emit_5 : decode cX6_emit 5 = .ok (.getfield 9, 3) := by decide +kernel
theorem dX6_emit_8 : decode cX6_emit 8 = .ok (.arraylength, 1) := by decide +kernel
theorem dX6_emit_9 : decode cX6_emit 9 = .ok (.if_icmp .ge 28, 3) := by decide +kernel
theorem dX6_emit_12 : decode cX6_emit 12 = .ok (.aload_n 0, 1) := by decide +kernel
theorem dX6_emit_13 : decode cX6_emit 13 = .ok (.getfield 9, 3) := by decide +kernel
theorem dX6_emit_16 : decode cX6_emit 16 = .ok (.aload_n 0, 1) := by decide +kernel
theorem dX6_emit_17 : decode cX6_emit 17 = .ok (.getfield 27, 3) := by decide +kernel
theorem dX6_emit_20 : decode cX6_emit 20 = .ok (.iload_n 1, 1) := by decide +kernel
theorem dX6_emit_21 : decode cX6_emit 21 = .ok (.bipush 20, 2) := by decide +kernel
theorem dX6_emit_23 : decode cX6_emit 23 = .ok (.ishl, 1) := by decide +kernel
theorem dX6_emit_24 : decode cX6_emit 24 = .ok (.iload_n 2, 1) := by decide +kernel
theorem dX6_emit_25 : decode cX6_emit 25 = .ok (.ior, 1) := by decide +kernel
theorem dX6_emit_26 : decode cX6_emit 26 = .ok (.iastore, 1) := by decide +kernel
theorem dX6_emit_27 : decode cX6_emit 27 = .ok (.aload_n 0, 1) := by decide +kernel
theorem dX6_emit_28 : decode cX6_emit 28 = .ok (.dup, 1) := by decide +kernel
theorem dX6_emit_29 : decode cX6_emit 29 = .ok (.getfield 27, 3) := by decide +kernel
theorem dX6_emit_32 : decode cX6_emit 32 = .ok (.iconst 1, 1) := by decide +kernel
theorem dX6_emit_33 : decode cX6_emit 33 = .ok (.iadd, 1) := by decide +kernel
theorem dX6_emit_34 : decode cX6_emit 34 = .ok (.putfield 27, 3) := by decide +kernel
theorem dX6_emit_37 : decode cX6_emit 37 = .ok (.return_, 1) := by decide +kernel
theorem dX7_init_0 : decode cX7_init 0 = .ok (.aload_n 0, 1) := by decide +kernel
theorem dX7_init_1 : decode cX7_init 1 = .ok (.invokespecial 3, 3) := by decide +kernel
theorem dX7_init_4 : decode cX7_init 4 = .ok (.aload_n 0, 1) := by decide +kernel
theorem dX7_init_5 : decode cX7_init 5 = .ok (.aload_n 1, 1) := by decide +kernel
theorem dX7_init_6 : decode cX7_init 6 = .ok (.putfield 9, 3) := by decide +kernel
theorem dX7_init_9 : decode cX7_init 9 = .ok (.return_, 1) := by decide +kernel
theorem dX7_possibleCapitals_0 : decode cX7_possibleCapitals 0 = .ok (.aload_n 0, 1) := by decide +kernel
theorem dX7_possibleCapitals_1 : decode cX7_possibleCapitals 1 = .ok (.getfield 9, 3) := by decide +kernel
theorem dX7_possibleCapitals_4 : decode cX7_possibleCapitals 4 = .ok (.aload_n 1, 1) := by decide +kernel
theorem dX7_possibleCapitals_5 : decode cX7_possibleCapitals 5 = .ok (.invokevirtual 15, 3) := by decide +kernel
theorem dX7_possibleCapitals_8 : decode cX7_possibleCapitals 8 = .ok (.aload_n 0, 1) := by decide +kernel
theorem dX7_possibleCapitals_9 : decode cX7_possibleCapitals 9 = .ok (.invokevirtual 21, 3) := by decide +kernel
theorem dX7_possibleCapitals_12 : decode cX7_possibleCapitals 12 = .ok (.istore_n 2, 1) := by decide +kernel
theorem dX7_possibleCapitals_13 : decode cX7_possibleCapitals 13 = .ok (.iconst 0, 1) := by decide +kernel
theorem dX7_possibleCapitals_14 : decode cX7_possibleCapitals 14 = .ok (.istore_n 3, 1) := by decide +kernel
theorem dX7_possibleCapitals_15 : decode cX7_possibleCapitals 15 = .ok (.iload_n 3, 1) := by decide +kernel
theorem dX7_possibleCapitals_16 : decode cX7_possibleCapitals 16 = .ok (.iconst 2, 1) := by decide +kernel
theorem dX7_possibleCapitals_17 : decode cX7_possibleCapitals 17 = .ok (.aload_n 0, 1) := by decide +kernel
theorem dX7_possibleCapitals_18 : decode cX7_possibleCapitals 18 = .ok (.getfield 9, 3) := by decide +kernel
theorem dX7_possibleCapitals_21 : decode cX7_possibleCapitals 21 = .ok (.getfield 25, 3) := by decide +kernel
theorem dX7_possibleCapitals_24 : decode cX7_possibleCapitals 24 = .ok (.getfield 29, 3) := by decide +kernel
theorem dX7_possibleCapitals_27 : decode cX7_possibleCapitals 27 = .ok (.imul, 1) := by decide +kernel
theorem dX7_possibleCapitals_28 : decode cX7_possibleCapitals 28 = .ok (.if_icmp .ge 70, 3) := by decide +kernel
theorem dX7_possibleCapitals_31 : decode cX7_possibleCapitals 31 = .ok (.iload_n 3, 1) := by decide +kernel
theorem dX7_possibleCapitals_32 : decode cX7_possibleCapitals 32 = .ok (.iconst 2, 1) := by decide +kernel
theorem dX7_possibleCapitals_33 : decode cX7_possibleCapitals 33 = .ok (.idiv, 1) := by decide +kernel
theorem dX7_possibleCapitals_34 : decode cX7_possibleCapitals 34 = .ok (.istore 4, 2) := by decide +kernel
theorem dX7_possibleCapitals_36 : decode cX7_possibleCapitals 36 = .ok (.aload_n 0, 1) := by decide +kernel
theorem dX7_possibleCapitals_37 : decode cX7_possibleCapitals 37 = .ok (.getfield 9, 3) := by decide +kernel
theorem dX7_possibleCapitals_40 : decode cX7_possibleCapitals 40 = .ok (.getfield 35, 3) := by decide +kernel
theorem dX7_possibleCapitals_43 : decode cX7_possibleCapitals 43 = .ok (.iload 4, 2) := by decide +kernel
theorem dX7_possibleCapitals_45 : decode cX7_possibleCapitals 45 = .ok (.iaload, 1) := by decide +kernel
theorem dX7_possibleCapitals_46 : decode cX7_possibleCapitals 46 = .ok (.istore 5, 2) := by decide +kernel
theorem dX7_possibleCapitals_48 : decode cX7_possibleCapitals 48 = .ok (.aload_n 0, 1) := by decide +kernel
theorem dX7_possibleCapitals_49 : decode cX7_possibleCapitals 49 = .ok (.iload_n 3, 1) := by decide +kernel
theorem dX7_possibleCapitals_50 : decode cX7_possibleCapitals 50 = .ok (.invokevirtual 39, 3) := by decide +kernel
theorem dX7_possibleCapitals_53 : decode cX7_possibleCapitals 53 = .ok (.istore 6, 2) := by decide +kernel
theorem dX7_possibleCapitals_55 : decode cX7_possibleCapitals 55 = .ok (.iload 6, 2) := by decide +kernel
theorem dX7_possibleCapitals_57 : decode cX7_possibleCapitals 57 = .ok (.iconst (-1), 1) := by decide +kernel
theorem dX7_possibleCapitals_58 : decode cX7_possibleCapitals 58 = .ok (.if_icmp .eq 34, 3) := by decide +kernel
theorem dX7_possibleCapitals_61 : decode cX7_possibleCapitals 61 = .ok (.aload_n 0, 1) := by decide +kernel
theorem dX7_possibleCapitals_62 : decode cX7_possibleCapitals 62 = .ok (.getfield 9, 3) := by decide +kernel
theorem dX7_possibleCapitals_65 : decode cX7_possibleCapitals 65 = .ok (.getfield 35, 3) := by decide +kernel
theorem dX7_possibleCapitals_68 : decode cX7_possibleCapitals 68 = .ok (.iload 4, 2) := by decide +kernel
theorem dX7_possibleCapitals_70 : decode cX7_possibleCapitals 70 = .ok (.iload 6, 2) := by decide +kernel
theorem dX7_possibleCapitals_72 : decode cX7_possibleCapitals 72 = .ok (.iastore, 1) := by decide +kernel
theorem dX7_possibleCapitals_73 : decode cX7_possibleCapitals 73 = .ok (.iload_n 2, 1) := by decide +kernel
theorem dX7_possibleCapitals_74 : decode cX7_possibleCapitals 74 = .ok (.aload_n 0, 1) := by decide +kernel
theorem dX7_possibleCapitals_75 : decode cX7_possibleCapitals 75 = .ok (.invokevirtual 21, 3) := by decide +kernel
theorem dX7_possibleCapitals_78 : decode cX7_possibleCapitals 78 = .ok (.ior, 1) := by decide +kernel
theorem dX7_possibleCapitals_79 : decode cX7_possibleCapitals 79 = .ok (.istore_n 2, 1) := by decide +kernel
theorem dX7_possibleCapitals_80 : decode cX7_possibleCapitals 80 = .ok (.aload_n 0, 1) := by decide +kernel
theorem dX7_possibleCapitals_81 : decode cX7_possibleCapitals 81 = .ok (.getfield 9, 3) := by decide +kernel
theorem dX7_possibleCapitals_84 : decode cX7_possibleCapitals 84 = .ok (.getfield 35, 3) := by decide +kernel
theorem dX7_possibleCapitals_87 : decode cX7_possibleCapitals 87 = .ok (.iload 4, 2) := by decide +kernel
theorem dX7_possibleCapitals_89 : decode cX7_possibleCapitals 89 = .ok (.iload 5, 2) := by decide +kernel
theorem dX7_possibleCapitals_91 : decode cX7_possibleCapitals 91 = .ok (.iastore, 1) := by decide +kernel
theorem dX7_possibleCapitals_92 : decode cX7_possibleCapitals 92 = .ok (.iinc 3 1, 3) := by decide +kernel
theorem dX7_possibleCapitals_95 : decode cX7_possibleCapitals 95 = .ok (.goto (-80), 3) := by decide +kernel
theorem dX7_possibleCapitals_98 : decode cX7_possibleCapitals 98 = .ok (.iload_n 2, 1) := by decide +kernel
theorem dX7_possibleCapitals_99 : decode cX7_possibleCapitals 99 = .ok (.ireturn, 1) := by decide +kernel
theorem dX7_capitalBit_0 : decode cX7_capitalBit 0 = .ok (.aload_n 0, 1) := by decide +kernel
theorem dX7_capitalBit_1 : decode cX7_capitalBit 1 = .ok (.getfield 9, 3) := by decide +kernel
theorem dX7_capitalBit_4 : decode cX7_capitalBit 4 = .ok (.invokevirtual 43, 3) := by decide +kernel
theorem dX7_capitalBit_7 : decode cX7_capitalBit 7 = .ok (.istore_n 1, 1) := by decide +kernel
theorem dX7_capitalBit_8 : decode cX7_capitalBit 8 = .ok (.iload_n 1, 1) := by decide +kernel
theorem dX7_capitalBit_9 : decode cX7_capitalBit 9 = .ok (.iconst (-1), 1) := by decide +kernel
theorem dX7_capitalBit_10 : decode cX7_capitalBit 10 = .ok (.if_icmp .ne 7, 3) := by decide +kernel
theorem dX7_capitalBit_13 : decode cX7_capitalBit 13 = .ok (.iconst 0, 1) := by decide +kernel
theorem dX7_capitalBit_14 : decode cX7_capitalBit 14 = .ok (.goto 6, 3) := by decide +kernel
theorem dX7_capitalBit_17 : decode cX7_capitalBit 17 = .ok (.iconst 1, 1) := by decide +kernel
theorem dX7_capitalBit_18 : decode cX7_capitalBit 18 = .ok (.iload_n 1, 1) := by decide +kernel
theorem dX7_capitalBit_19 : decode cX7_capitalBit 19 = .ok (.ishl, 1) := by decide +kernel
theorem dX7_capitalBit_20 : decode cX7_capitalBit 20 = .ok (.ireturn, 1) := by decide +kernel
theorem dX7_goalOf_0 : decode cX7_goalOf 0 = .ok (.aload_n 0, 1) := by decide +kernel
theorem dX7_goalOf_1 : decode cX7_goalOf 1 = .ok (.getfield 9, 3) := by decide +kernel
theorem dX7_goalOf_4 : decode cX7_goalOf 4 = .ok (.iload_n 1, 1) := by decide +kernel
theorem dX7_goalOf_5 : decode cX7_goalOf 5 = .ok (.iconst 2, 1) := by decide +kernel
theorem dX7_goalOf_6 : decode cX7_goalOf 6 = .ok (.idiv, 1) := by decide +kernel
theorem dX7_goalOf_7 : decode cX7_goalOf 7 = .ok (.iload_n 1, 1) := by decide +kernel
theorem dX7_goalOf_8 : decode cX7_goalOf 8 = .ok (.iconst 2, 1) := by decide +kernel
theorem dX7_goalOf_9 : decode cX7_goalOf 9 = .ok (.irem, 1) := by decide +kernel
theorem dX7_goalOf_10 : decode cX7_goalOf 10 = .ok (.ifCond .ne 7, 3) := by decide +kernel
theorem dX7_goalOf_13 : decode cX7_goalOf 13 = .ok (.iconst 1, 1) := by decide +kernel
theorem dX7_goalOf_14 : decode cX7_goalOf 14 = .ok (.goto 4, 3) := by decide +kernel
theorem dX7_goalOf_17 : decode cX7_goalOf 17 = .ok (.iconst (-1), 1) := by decide +kernel
theorem dX7_goalOf_18 : decode cX7_goalOf 18 = .ok (.invokevirtual 46, 3) := by decide +kernel
theorem dX7_goalOf_21 : decode cX7_goalOf 21 = .ok (.ireturn, 1) := by decide +kernel
theorem dX7_lowestHeight_0 : decode cX7_lowestHeight 0 = .ok (.aload_n 0, 1) := by decide +kernel
theorem dX7_lowestHeight_1 : decode cX7_lowestHeight 1 = .ok (.getfield 9, 3) := by decide +kernel
theorem dX7_lowestHeight_4 : decode cX7_lowestHeight 4 = .ok (.aload_n 1, 1) := by decide +kernel
theorem dX7_lowestHeight_5 : decode cX7_lowestHeight 5 = .ok (.invokevirtual 15, 3) := by decide +kernel
theorem dX7_lowestHeight_8 : decode cX7_lowestHeight 8 = .ok (.aload_n 0, 1) := by decide +kernel
theorem dX7_lowestHeight_9 : decode cX7_lowestHeight 9 = .ok (.iconst (-1), 1) := by decide +kernel
theorem dX7_lowestHeight_10 : decode cX7_lowestHeight 10 = .ok (.iload_n 2, 1) := by decide +kernel
theorem dX7_lowestHeight_11 : decode cX7_lowestHeight 11 = .ok (.invokevirtual 50, 3) := by decide +kernel
theorem dX7_lowestHeight_14 : decode cX7_lowestHeight 14 = .ok (.ireturn, 1) := by decide +kernel
theorem dX7_defend_0 : decode cX7_defend 0 = .ok (.iload_n 2, 1) := by decide +kernel
theorem dX7_defend_1 : decode cX7_defend 1 = .ok (.ifCond .gt 5, 3) := by decide +kernel
theorem dX7_defend_4 : decode cX7_defend 4 = .ok (.iload_n 1, 1) := by decide +kernel
theorem dX7_defend_5 : decode cX7_defend 5 = .ok (.ireturn, 1) := by decide +kernel
theorem dX7_defend_6 : decode cX7_defend 6 = .ok (.aload_n 0, 1) := by decide +kernel
theorem dX7_defend_7 : decode cX7_defend 7 = .ok (.iload_n 1, 1) := by decide +kernel
theorem dX7_defend_8 : decode cX7_defend 8 = .ok (.iload_n 2, 1) := by decide +kernel
theorem dX7_defend_9 : decode cX7_defend 9 = .ok (.invokevirtual 53, 3) := by decide +kernel
theorem dX7_defend_12 : decode cX7_defend 12 = .ok (.istore_n 3, 1) := by decide +kernel
theorem dX7_defend_13 : decode cX7_defend 13 = .ok (.iconst (-1), 1) := by decide +kernel
theorem dX7_defend_14 : decode cX7_defend 14 = .ok (.istore 4, 2) := by decide +kernel
theorem dX7_defend_16 : decode cX7_defend 16 = .ok (.iconst 0, 1) := by decide +kernel
theorem dX7_defend_17 : decode cX7_defend 17 = .ok (.istore 5, 2) := by decide +kernel
theorem dX7_defend_19 : decode cX7_defend 19 = .ok (.iload 5, 2) := by decide +kernel
theorem dX7_defend_21 : decode cX7_defend 21 = .ok (.iconst 2, 1) := by decide +kernel
theorem dX7_defend_22 : decode cX7_defend 22 = .ok (.aload_n 0, 1) := by decide +kernel
theorem dX7_defend_23 : decode cX7_defend 23 = .ok (.getfield 9, 3) := by decide +kernel
theorem dX7_defend_26 : decode cX7_defend 26 = .ok (.getfield 25, 3) := by decide +kernel
theorem dX7_defend_29 : decode cX7_defend 29 = .ok (.getfield 29, 3) := by decide +kernel
theorem dX7_defend_32 : decode cX7_defend 32 = .ok (.imul, 1) := by decide +kernel
theorem dX7_defend_33 : decode cX7_defend 33 = .ok (.if_icmp .ge 94, 3) := by decide +kernel
theorem dX7_defend_36 : decode cX7_defend 36 = .ok (.iload_n 3, 1) := by decide +kernel
theorem dX7_defend_37 : decode cX7_defend 37 = .ok (.iload_n 1, 1) := by decide +kernel
theorem dX7_defend_38 : decode cX7_defend 38 = .ok (.if_icmp .le 89, 3) := by decide +kernel
theorem dX7_defend_41 : decode cX7_defend 41 = .ok (.iload 5, 2) := by decide +kernel
theorem dX7_defend_43 : decode cX7_defend 43 = .ok (.iconst 2, 1) := by decide +kernel
theorem dX7_defend_44 : decode cX7_defend 44 = .ok (.idiv, 1) := by decide +kernel
theorem dX7_defend_45 : decode cX7_defend 45 = .ok (.istore 6, 2) := by decide +kernel
theorem dX7_defend_47 : decode cX7_defend 47 = .ok (.aload_n 0, 1) := by decide +kernel
theorem dX7_defend_48 : decode cX7_defend 48 = .ok (.getfield 9, 3) := by decide +kernel
theorem dX7_defend_51 : decode cX7_defend 51 = .ok (.getfield 35, 3) := by decide +kernel
theorem dX7_defend_54 : decode cX7_defend 54 = .ok (.iload 6, 2) := by decide +kernel
theorem dX7_defend_56 : decode cX7_defend 56 = .ok (.iaload, 1) := by decide +kernel
theorem dX7_defend_57 : decode cX7_defend 57 = .ok (.istore 7, 2) := by decide +kernel
theorem dX7_defend_59 : decode cX7_defend 59 = .ok (.aload_n 0, 1) := by decide +kernel
theorem dX7_defend_60 : decode cX7_defend 60 = .ok (.iload 5, 2) := by decide +kernel
theorem dX7_defend_62 : decode cX7_defend 62 = .ok (.invokevirtual 39, 3) := by decide +kernel
theorem dX7_defend_65 : decode cX7_defend 65 = .ok (.istore 8, 2) := by decide +kernel
theorem dX7_defend_67 : decode cX7_defend 67 = .ok (.iload 8, 2) := by decide +kernel
theorem dX7_defend_69 : decode cX7_defend 69 = .ok (.iconst (-1), 1) := by decide +kernel
theorem dX7_defend_70 : decode cX7_defend 70 = .ok (.if_icmp .ne 6, 3) := by decide +kernel
theorem dX7_defend_73 : decode cX7_defend 73 = .ok (.goto 48, 3) := by decide +kernel
theorem dX7_defend_76 : decode cX7_defend 76 = .ok (.aload_n 0, 1) := by decide +kernel
theorem dX7_defend_77 : decode cX7_defend 77 = .ok (.getfield 9, 3) := by decide +kernel
theorem dX7_defend_80 : decode cX7_defend 80 = .ok (.getfield 35, 3) := by decide +kernel
theorem dX7_defend_83 : decode cX7_defend 83 = .ok (.iload 6, 2) := by decide +kernel
theorem dX7_defend_85 : decode cX7_defend 85 = .ok (.iload 8, 2) := by decide +kernel
theorem dX7_defend_87 : decode cX7_defend 87 = .ok (.iastore, 1) := by decide +kernel
theorem dX7_defend_88 : decode cX7_defend 88 = .ok (.aload_n 0, 1) := by decide +kernel
theorem dX7_defend_89 : decode cX7_defend 89 = .ok (.iload_n 1, 1) := by decide +kernel
theorem dX7_defend_90 : decode cX7_defend 90 = .ok (.iload_n 2, 1) := by decide +kernel
theorem dX7_defend_91 : decode cX7_defend 91 = .ok (.invokevirtual 53, 3) := by decide +kernel
theorem dX7_defend_94 : decode cX7_defend 94 = .ok (.istore 9, 2) := by decide +kernel
theorem dX7_defend_96 : decode cX7_defend 96 = .ok (.aload_n 0, 1) := by decide +kernel
theorem dX7_defend_97 : decode cX7_defend 97 = .ok (.getfield 9, 3) := by decide +kernel
theorem dX7_defend_100 : decode cX7_defend 100 = .ok (.getfield 35, 3) := by decide +kernel
theorem dX7_defend_103 : decode cX7_defend 103 = .ok (.iload 6, 2) := by decide +kernel
theorem dX7_defend_105 : decode cX7_defend 105 = .ok (.iload 7, 2) := by decide +kernel
theorem dX7_defend_107 : decode cX7_defend 107 = .ok (.iastore, 1) := by decide +kernel
theorem dX7_defend_108 : decode cX7_defend 108 = .ok (.iload 9, 2) := by decide +kernel
theorem dX7_defend_110 : decode cX7_defend 110 = .ok (.iload_n 3, 1) := by decide +kernel
theorem dX7_defend_111 : decode cX7_defend 111 = .ok (.if_icmp .ge 10, 3) := by decide +kernel
theorem dX7_defend_114 : decode cX7_defend 114 = .ok (.iload 9, 2) := by decide +kernel
theorem dX7_defend_116 : decode cX7_defend 116 = .ok (.istore_n 3, 1) := by decide +kernel
theorem dX7_defend_117 : decode cX7_defend 117 = .ok (.iload 5, 2) := by decide +kernel
theorem dX7_defend_119 : decode cX7_defend 119 = .ok (.istore 4, 2) := by decide +kernel
theorem dX7_defend_121 : decode cX7_defend 121 = .ok (.iinc 5 1, 3) := by decide +kernel
theorem dX7_defend_124 : decode cX7_defend 124 = .ok (.goto (-105), 3) := by decide +kernel
theorem dX7_defend_127 : decode cX7_defend 127 = .ok (.aload_n 0, 1) := by decide +kernel
theorem dX7_defend_128 : decode cX7_defend 128 = .ok (.iload 4, 2) := by decide +kernel
theorem dX7_defend_130 : decode cX7_defend 130 = .ok (.putfield 56, 3) := by decide +kernel
theorem dX7_defend_133 : decode cX7_defend 133 = .ok (.iload_n 3, 1) := by decide +kernel
theorem dX7_defend_134 : decode cX7_defend 134 = .ok (.ireturn, 1) := by decide +kernel
theorem dX7_letClimb_0 : decode cX7_letClimb 0 = .ok (.iload_n 1, 1) := by decide +kernel
theorem dX7_letClimb_1 : decode cX7_letClimb 1 = .ok (.iconst 1, 1) := by decide +kernel
theorem dX7_letClimb_2 : decode cX7_letClimb 2 = .ok (.iadd, 1) := by decide +kernel
theorem dX7_letClimb_3 : decode cX7_letClimb 3 = .ok (.istore_n 3, 1) := by decide +kernel
theorem dX7_letClimb_4 : decode cX7_letClimb 4 = .ok (.iload_n 3, 1) := by decide +kernel
theorem dX7_letClimb_5 : decode cX7_letClimb 5 = .ok (.aload_n 0, 1) := by decide +kernel
theorem dX7_letClimb_6 : decode cX7_letClimb 6 = .ok (.getfield 9, 3) := by decide +kernel
theorem dX7_letClimb_9 : decode cX7_letClimb 9 = .ok (.getfield 25, 3) := by decide +kernel
theorem dX7_letClimb_12 : decode cX7_letClimb 12 = .ok (.getfield 59, 3) := by decide +kernel
theorem dX7_letClimb_15 : decode cX7_letClimb 15 = .ok (.if_icmp .ge 18, 3) := by decide +kernel
theorem dX7_letClimb_18 : decode cX7_letClimb 18 = .ok (.aload_n 0, 1) := by decide +kernel
theorem dX7_letClimb_19 : decode cX7_letClimb 19 = .ok (.getfield 9, 3) := by decide +kernel
theorem dX7_letClimb_22 : decode cX7_letClimb 22 = .ok (.iload_n 3, 1) := by decide +kernel
theorem dX7_letClimb_23 : decode cX7_letClimb 23 = .ok (.invokevirtual 62, 3) := by decide +kernel
theorem dX7_letClimb_26 : decode cX7_letClimb 26 = .ok (.ifCond .eq 7, 3) := by decide +kernel
theorem dX7_letClimb_29 : decode cX7_letClimb 29 = .ok (.iconst 1, 1) := by decide +kernel
theorem dX7_letClimb_30 : decode cX7_letClimb 30 = .ok (.goto 4, 3) := by decide +kernel
theorem dX7_letClimb_33 : decode cX7_letClimb 33 = .ok (.iconst 0, 1) := by decide +kernel
theorem dX7_letClimb_34 : decode cX7_letClimb 34 = .ok (.istore 4, 2) := by decide +kernel
theorem dX7_letClimb_36 : decode cX7_letClimb 36 = .ok (.aload_n 0, 1) := by decide +kernel
theorem dX7_letClimb_37 : decode cX7_letClimb 37 = .ok (.iload 4, 2) := by decide +kernel
theorem dX7_letClimb_39 : decode cX7_letClimb 39 = .ok (.ifCond .eq 7, 3) := by decide +kernel
theorem dX7_letClimb_42 : decode cX7_letClimb 42 = .ok (.iload_n 3, 1) := by decide +kernel
theorem dX7_letClimb_43 : decode cX7_letClimb 43 = .ok (.goto 4, 3) := by decide +kernel
theorem dX7_letClimb_46 : decode cX7_letClimb 46 = .ok (.iload_n 1, 1) := by decide +kernel
theorem dX7_letClimb_47 : decode cX7_letClimb 47 = .ok (.iload_n 2, 1) := by decide +kernel
theorem dX7_letClimb_48 : decode cX7_letClimb 48 = .ok (.iconst 1, 1) := by decide +kernel
theorem dX7_letClimb_49 : decode cX7_letClimb 49 = .ok (.isub, 1) := by decide +kernel
theorem dX7_letClimb_50 : decode cX7_letClimb 50 = .ok (.invokevirtual 50, 3) := by decide +kernel
theorem dX7_letClimb_53 : decode cX7_letClimb 53 = .ok (.ireturn, 1) := by decide +kernel
theorem dX8_init_0 : decode cX8_init 0 = .ok (.aload_n 0, 1) := by decide +kernel
theorem dX8_init_1 : decode cX8_init 1 = .ok (.invokespecial 3, 3) := by decide +kernel
theorem dX8_init_4 : decode cX8_init 4 = .ok (.aload_n 0, 1) := by decide +kernel
theorem dX8_init_5 : decode cX8_init 5 = .ok (.iconst (-1), 1) := by decide +kernel
theorem dX8_init_6 : decode cX8_init 6 = .ok (.putfield 9, 3) := by decide +kernel
theorem dX8_init_9 : decode cX8_init 9 = .ok (.aload_n 0, 1) := by decide +kernel
theorem dX8_init_10 : decode cX8_init 10 = .ok (.bipush 10, 2) := by decide +kernel
theorem dX8_init_12 : decode cX8_init 12 = .ok (.newarray .int, 2) := by decide +kernel
theorem dX8_init_14 : decode cX8_init 14 = .ok (.putfield 15, 3) := by decide +kernel
theorem dX8_init_17 : decode cX8_init 17 = .ok (.aload_n 0, 1) := by decide +kernel
theorem dX8_init_18 : decode cX8_init 18 = .ok (.bipush 10, 2) := by decide +kernel
theorem dX8_init_20 : decode cX8_init 20 = .ok (.newarray .int, 2) := by decide +kernel
theorem dX8_init_22 : decode cX8_init 22 = .ok (.putfield 19, 3) := by decide +kernel
theorem dX8_init_25 : decode cX8_init 25 = .ok (.aload_n 0, 1) := by decide +kernel
theorem dX8_init_26 : decode cX8_init 26 = .ok (.bipush 10, 2) := by decide +kernel
theorem dX8_init_28 : decode cX8_init 28 = .ok (.newarray .int, 2) := by decide +kernel
theorem dX8_init_30 : decode cX8_init 30 = .ok (.putfield 22, 3) := by decide +kernel
theorem dX8_init_33 : decode cX8_init 33 = .ok (.aload_n 0, 1) := by decide +kernel
theorem dX8_init_34 : decode cX8_init 34 = .ok (.new 25, 3) := by decide +kernel
theorem dX8_init_37 : decode cX8_init 37 = .ok (.dup, 1) := by decide +kernel
theorem dX8_init_38 : decode cX8_init 38 = .ok (.aload_n 1, 1) := by decide +kernel
theorem dX8_init_39 : decode cX8_init 39 = .ok (.invokespecial 27, 3) := by decide +kernel
theorem dX8_init_42 : decode cX8_init 42 = .ok (.putfield 30, 3) := by decide +kernel
theorem dX8_init_45 : decode cX8_init 45 = .ok (.return_, 1) := by decide +kernel
theorem dX8_copyFrom_0 : decode cX8_copyFrom 0 = .ok (.aload_n 0, 1) := by decide +kernel
theorem dX8_copyFrom_1 : decode cX8_copyFrom 1 = .ok (.getfield 30, 3) := by decide +kernel
theorem dX8_copyFrom_4 : decode cX8_copyFrom 4 = .ok (.aload_n 1, 1) := by decide +kernel
theorem dX8_copyFrom_5 : decode cX8_copyFrom 5 = .ok (.getfield 30, 3) := by decide +kernel
theorem dX8_copyFrom_8 : decode cX8_copyFrom 8 = .ok (.invokevirtual 34, 3) := by decide +kernel
theorem dX8_copyFrom_11 : decode cX8_copyFrom 11 = .ok (.aload_n 0, 1) := by decide +kernel
theorem dX8_copyFrom_12 : decode cX8_copyFrom 12 = .ok (.aload_n 1, 1) := by decide +kernel
theorem dX8_copyFrom_13 : decode cX8_copyFrom 13 = .ok (.getfield 9, 3) := by decide +kernel
theorem dX8_copyFrom_16 : decode cX8_copyFrom 16 = .ok (.putfield 9, 3) := by decide +kernel
theorem dX8_copyFrom_19 : decode cX8_copyFrom 19 = .ok (.aload_n 0, 1) := by decide +kernel
theorem dX8_copyFrom_20 : decode cX8_copyFrom 20 = .ok (.aload_n 1, 1) := by decide +kernel
theorem dX8_copyFrom_21 : decode cX8_copyFrom 21 = .ok (.getfield 38, 3) := by decide +kernel
theorem dX8_copyFrom_24 : decode cX8_copyFrom 24 = .ok (.putfield 38, 3) := by decide +kernel
theorem dX8_copyFrom_27 : decode cX8_copyFrom 27 = .ok (.aload_n 0, 1) := by decide +kernel
theorem dX8_copyFrom_28 : decode cX8_copyFrom 28 = .ok (.aload_n 1, 1) := by decide +kernel
theorem dX8_copyFrom_29 : decode cX8_copyFrom 29 = .ok (.getfield 41, 3) := by decide +kernel
theorem dX8_copyFrom_32 : decode cX8_copyFrom 32 = .ok (.putfield 41, 3) := by decide +kernel
theorem dX8_copyFrom_35 : decode cX8_copyFrom 35 = .ok (.aload_n 1, 1) := by decide +kernel
theorem dX8_copyFrom_36 : decode cX8_copyFrom 36 = .ok (.getfield 15, 3) := by decide +kernel
theorem dX8_copyFrom_39 : decode cX8_copyFrom 39 = .ok (.iconst 0, 1) := by decide +kernel
theorem dX8_copyFrom_40 : decode cX8_copyFrom 40 = .ok (.aload_n 0, 1) := by decide +kernel
theorem dX8_copyFrom_41 : decode cX8_copyFrom 41 = .ok (.getfield 15, 3) := by decide +kernel
theorem dX8_copyFrom_44 : decode cX8_copyFrom 44 = .ok (.iconst 0, 1) := by decide +kernel
theorem dX8_copyFrom_45 : decode cX8_copyFrom 45 = .ok (.bipush 10, 2) := by decide +kernel
theorem dX8_copyFrom_47 : decode cX8_copyFrom 47 = .ok (.invokestatic 44, 3) := by decide +kernel
theorem dX8_copyFrom_50 : decode cX8_copyFrom 50 = .ok (.aload_n 1, 1) := by decide +kernel
theorem dX8_copyFrom_51 : decode cX8_copyFrom 51 = .ok (.getfield 19, 3) := by decide +kernel
theorem dX8_copyFrom_54 : decode cX8_copyFrom 54 = .ok (.iconst 0, 1) := by decide +kernel
theorem dX8_copyFrom_55 : decode cX8_copyFrom 55 = .ok (.aload_n 0, 1) := by decide +kernel
theorem dX8_copyFrom_56 : decode cX8_copyFrom 56 = .ok (.getfield 19, 3) := by decide +kernel
theorem dX8_copyFrom_59 : decode cX8_copyFrom 59 = .ok (.iconst 0, 1) := by decide +kernel
theorem dX8_copyFrom_60 : decode cX8_copyFrom 60 = .ok (.bipush 10, 2) := by decide +kernel
theorem dX8_copyFrom_62 : decode cX8_copyFrom 62 = .ok (.invokestatic 44, 3) := by decide +kernel
theorem dX8_copyFrom_65 : decode cX8_copyFrom 65 = .ok (.aload_n 1, 1) := by decide +kernel
theorem dX8_copyFrom_66 : decode cX8_copyFrom 66 = .ok (.getfield 22, 3) := by decide +kernel
theorem dX8_copyFrom_69 : decode cX8_copyFrom 69 = .ok (.iconst 0, 1) := by decide +kernel
theorem dX8_copyFrom_70 : decode cX8_copyFrom 70 = .ok (.aload_n 0, 1) := by decide +kernel
theorem dX8_copyFrom_71 : decode cX8_copyFrom 71 = .ok (.getfield 22, 3) := by decide +kernel
theorem dX8_copyFrom_74 : decode cX8_copyFrom 74 = .ok (.iconst 0, 1) := by decide +kernel
theorem dX8_copyFrom_75 : decode cX8_copyFrom 75 = .ok (.bipush 10, 2) := by decide +kernel
theorem dX8_copyFrom_77 : decode cX8_copyFrom 77 = .ok (.invokestatic 44, 3) := by decide +kernel
theorem dX8_copyFrom_80 : decode cX8_copyFrom 80 = .ok (.return_, 1) := by decide +kernel
theorem dX8_addNote_0 : decode cX8_addNote 0 = .ok (.aload_n 0, 1) := by decide +kernel
theorem dX8_addNote_1 : decode cX8_addNote 1 = .ok (.getfield 41, 3) := by decide +kernel
theorem dX8_addNote_4 : decode cX8_addNote 4 = .ok (.bipush 10, 2) := by decide +kernel
theorem dX8_addNote_6 : decode cX8_addNote 6 = .ok (.if_icmp .lt 6, 3) := by decide +kernel
theorem dX8_addNote_9 : decode cX8_addNote 9 = .ok (.bipush (-2), 2) := by decide +kernel
theorem dX8_addNote_11 : decode cX8_addNote 11 = .ok (.ireturn, 1) := by decide +kernel
theorem dX8_addNote_12 : decode cX8_addNote 12 = .ok (.aload_n 0, 1) := by decide +kernel
theorem dX8_addNote_13 : decode cX8_addNote 13 = .ok (.getfield 15, 3) := by decide +kernel
theorem dX8_addNote_16 : decode cX8_addNote 16 = .ok (.aload_n 0, 1) := by decide +kernel
theorem dX8_addNote_17 : decode cX8_addNote 17 = .ok (.getfield 41, 3) := by decide +kernel
theorem dX8_addNote_20 : decode cX8_addNote 20 = .ok (.iload_n 1, 1) := by decide +kernel
theorem dX8_addNote_21 : decode cX8_addNote 21 = .ok (.iastore, 1) := by decide +kernel
theorem dX8_addNote_22 : decode cX8_addNote 22 = .ok (.aload_n 0, 1) := by decide +kernel
theorem dX8_addNote_23 : decode cX8_addNote 23 = .ok (.getfield 19, 3) := by decide +kernel
theorem dX8_addNote_26 : decode cX8_addNote 26 = .ok (.aload_n 0, 1) := by decide +kernel
theorem dX8_addNote_27 : decode cX8_addNote 27 = .ok (.getfield 41, 3) := by decide +kernel
theorem dX8_addNote_30 : decode cX8_addNote 30 = .ok (.iload_n 2, 1) := by decide +kernel
theorem dX8_addNote_31 : decode cX8_addNote 31 = .ok (.iastore, 1) := by decide +kernel
theorem dX8_addNote_32 : decode cX8_addNote 32 = .ok (.aload_n 0, 1) := by decide +kernel
theorem dX8_addNote_33 : decode cX8_addNote 33 = .ok (.getfield 22, 3) := by decide +kernel
theorem dX8_addNote_36 : decode cX8_addNote 36 = .ok (.aload_n 0, 1) := by decide +kernel
theorem dX8_addNote_37 : decode cX8_addNote 37 = .ok (.getfield 41, 3) := by decide +kernel
theorem dX8_addNote_40 : decode cX8_addNote 40 = .ok (.iload_n 3, 1) := by decide +kernel
theorem dX8_addNote_41 : decode cX8_addNote 41 = .ok (.iastore, 1) := by decide +kernel
theorem dX8_addNote_42 : decode cX8_addNote 42 = .ok (.aload_n 0, 1) := by decide +kernel
theorem dX8_addNote_43 : decode cX8_addNote 43 = .ok (.dup, 1) := by decide +kernel
theorem dX8_addNote_44 : decode cX8_addNote 44 = .ok (.getfield 41, 3) := by decide +kernel
theorem dX8_addNote_47 : decode cX8_addNote 47 = .ok (.iconst 1, 1) := by decide +kernel
theorem dX8_addNote_48 : decode cX8_addNote 48 = .ok (.iadd, 1) := by decide +kernel
theorem dX8_addNote_49 : decode cX8_addNote 49 = .ok (.putfield 41, 3) := by decide +kernel
theorem dX8_addNote_52 : decode cX8_addNote 52 = .ok (.aload_n 0, 1) := by decide +kernel
theorem dX8_addNote_53 : decode cX8_addNote 53 = .ok (.getfield 41, 3) := by decide +kernel
theorem dX8_addNote_56 : decode cX8_addNote 56 = .ok (.ireturn, 1) := by decide +kernel
theorem dX8_lastNotedHour_0 : decode cX8_lastNotedHour 0 = .ok (.iconst 0, 1) := by decide +kernel
theorem dX8_lastNotedHour_1 : decode cX8_lastNotedHour 1 = .ok (.istore_n 1, 1) := by decide +kernel
theorem dX8_lastNotedHour_2 : decode cX8_lastNotedHour 2 = .ok (.iconst 0, 1) := by decide +kernel
theorem dX8_lastNotedHour_3 : decode cX8_lastNotedHour 3 = .ok (.istore_n 2, 1) := by decide +kernel
theorem dX8_lastNotedHour_4 : decode cX8_lastNotedHour 4 = .ok (.iload_n 2, 1) := by decide +kernel
theorem dX8_lastNotedHour_5 : decode cX8_lastNotedHour 5 = .ok (.aload_n 0, 1) := by decide +kernel
theorem dX8_lastNotedHour_6 : decode cX8_lastNotedHour 6 = .ok (.getfield 41, 3) := by decide +kernel
theorem dX8_lastNotedHour_9 : decode cX8_lastNotedHour 9 = .ok (.if_icmp .ge 20, 3) := by decide +kernel
theorem dX8_lastNotedHour_12 : decode cX8_lastNotedHour 12 = .ok (.iload_n 1, 1) := by decide +kernel
theorem dX8_lastNotedHour_13 : decode cX8_lastNotedHour 13 = .ok (.aload_n 0, 1) := by decide +kernel
theorem dX8_lastNotedHour_14 : decode cX8_lastNotedHour 14 = .ok (.getfield 15, 3) := by decide +kernel
theorem dX8_lastNotedHour_17 : decode cX8_lastNotedHour 17 = .ok (.iload_n 2, 1) := by decide +kernel
theorem dX8_lastNotedHour_18 : decode cX8_lastNotedHour 18 = .ok (.iaload, 1) := by decide +kernel
theorem dX8_lastNotedHour_19 : decode cX8_lastNotedHour 19 = .ok (.invokestatic 50, 3) := by decide +kernel
theorem dX8_lastNotedHour_22 : decode cX8_lastNotedHour 22 = .ok (.istore_n 1, 1) := by decide +kernel
theorem dX8_lastNotedHour_23 : decode cX8_lastNotedHour 23 = .ok (.iinc 2 1, 3) := by decide +kernel
theorem dX8_lastNotedHour_26 : decode cX8_lastNotedHour 26 = .ok (.goto (-22), 3) := by decide +kernel
theorem dX8_lastNotedHour_29 : decode cX8_lastNotedHour 29 = .ok (.iload_n 1, 1) := by decide +kernel
theorem dX8_lastNotedHour_30 : decode cX8_lastNotedHour 30 = .ok (.ireturn, 1) := by decide +kernel
theorem dX8_isAsNoted_0 : decode cX8_isAsNoted 0 = .ok (.iconst 0, 1) := by decide +kernel
theorem dX8_isAsNoted_1 : decode cX8_isAsNoted 1 = .ok (.istore_n 2, 1) := by decide +kernel
theorem dX8_isAsNoted_2 : decode cX8_isAsNoted 2 = .ok (.iload_n 2, 1) := by decide +kernel
theorem dX8_isAsNoted_3 : decode cX8_isAsNoted 3 = .ok (.aload_n 0, 1) := by decide +kernel
theorem dX8_isAsNoted_4 : decode cX8_isAsNoted 4 = .ok (.getfield 41, 3) := by decide +kernel
theorem dX8_isAsNoted_7 : decode cX8_isAsNoted 7 = .ok (.if_icmp .ge 43, 3) := by decide +kernel
theorem dX8_isAsNoted_10 : decode cX8_isAsNoted 10 = .ok (.aload_n 0, 1) := by decide +kernel
theorem dX8_isAsNoted_11 : decode cX8_isAsNoted 11 = .ok (.getfield 15, 3) := by decide +kernel
theorem dX8_isAsNoted_14 : decode cX8_isAsNoted 14 = .ok (.iload_n 2, 1) := by decide +kernel
theorem dX8_isAsNoted_15 : decode cX8_isAsNoted 15 = .ok (.iaload, 1) := by decide +kernel
theorem dX8_isAsNoted_16 : decode cX8_isAsNoted 16 = .ok (.aload_n 1, 1) := by decide +kernel
theorem dX8_isAsNoted_17 : decode cX8_isAsNoted 17 = .ok (.getfield 56, 3) := by decide +kernel
theorem dX8_isAsNoted_20 : decode cX8_isAsNoted 20 = .ok (.if_icmp .ne 24, 3) := by decide +kernel
theorem dX8_isAsNoted_23 : decode cX8_isAsNoted 23 = .ok (.aload_n 1, 1) := by decide +kernel
theorem dX8_isAsNoted_24 : decode cX8_isAsNoted 24 = .ok (.aload_n 0, 1) := by decide +kernel
theorem dX8_isAsNoted_25 : decode cX8_isAsNoted 25 = .ok (.getfield 19, 3) := by decide +kernel
theorem dX8_isAsNoted_28 : decode cX8_isAsNoted 28 = .ok (.iload_n 2, 1) := by decide +kernel
theorem dX8_isAsNoted_29 : decode cX8_isAsNoted 29 = .ok (.iaload, 1) := by decide +kernel
theorem dX8_isAsNoted_30 : decode cX8_isAsNoted 30 = .ok (.invokevirtual 59, 3) := by decide +kernel
theorem dX8_isAsNoted_33 : decode cX8_isAsNoted 33 = .ok (.aload_n 0, 1) := by decide +kernel
theorem dX8_isAsNoted_34 : decode cX8_isAsNoted 34 = .ok (.getfield 22, 3) := by decide +kernel
theorem dX8_isAsNoted_37 : decode cX8_isAsNoted 37 = .ok (.iload_n 2, 1) := by decide +kernel
theorem dX8_isAsNoted_38 : decode cX8_isAsNoted 38 = .ok (.iaload, 1) := by decide +kernel
theorem dX8_isAsNoted_39 : decode cX8_isAsNoted 39 = .ok (.if_icmp .eq 5, 3) := by decide +kernel
theorem dX8_isAsNoted_42 : decode cX8_isAsNoted 42 = .ok (.iconst 0, 1) := by decide +kernel
theorem dX8_isAsNoted_43 : decode cX8_isAsNoted 43 = .ok (.ireturn, 1) := by decide +kernel
theorem dX8_isAsNoted_44 : decode cX8_isAsNoted 44 = .ok (.iinc 2 1, 3) := by decide +kernel
theorem dX8_isAsNoted_47 : decode cX8_isAsNoted 47 = .ok (.goto (-45), 3) := by decide +kernel
theorem dX8_isAsNoted_50 : decode cX8_isAsNoted 50 = .ok (.iconst 1, 1) := by decide +kernel
theorem dX8_isAsNoted_51 : decode cX8_isAsNoted 51 = .ok (.ireturn, 1) := by decide +kernel
theorem dX9_init_0 : decode cX9_init 0 = .ok (.aload_n 0, 1) := by decide +kernel
theorem dX9_init_1 : decode cX9_init 1 = .ok (.invokespecial 3, 3) := by decide +kernel
theorem dX9_init_4 : decode cX9_init 4 = .ok (.aload_n 0, 1) := by decide +kernel
theorem dX9_init_5 : decode cX9_init 5 = .ok (.sipush 400, 3) := by decide +kernel
theorem dX9_init_8 : decode cX9_init 8 = .ok (.newarray .int, 2) := by decide +kernel
theorem dX9_init_10 : decode cX9_init 10 = .ok (.putfield 9, 3) := by decide +kernel
theorem dX9_init_13 : decode cX9_init 13 = .ok (.return_, 1) := by decide +kernel
theorem dX9_append_0 : decode cX9_append 0 = .ok (.bipush 24, 2) := by decide +kernel
theorem dX9_append_2 : decode cX9_append 2 = .ok (.istore_n 2, 1) := by decide +kernel
theorem dX9_append_3 : decode cX9_append 3 = .ok (.iload_n 2, 1) := by decide +kernel
theorem dX9_append_4 : decode cX9_append 4 = .ok (.ifCond .lt 45, 3) := by decide +kernel
theorem dX9_append_7 : decode cX9_append 7 = .ok (.aload_n 0, 1) := by decide +kernel
theorem dX9_append_8 : decode cX9_append 8 = .ok (.getfield 15, 3) := by decide +kernel
theorem dX9_append_11 : decode cX9_append 11 = .ok (.sipush 400, 3) := by decide +kernel
theorem dX9_append_14 : decode cX9_append 14 = .ok (.if_icmp .ge 29, 3) := by decide +kernel
theorem dX9_append_17 : decode cX9_append 17 = .ok (.aload_n 0, 1) := by decide +kernel
theorem dX9_append_18 : decode cX9_append 18 = .ok (.getfield 9, 3) := by decide +kernel
theorem dX9_append_21 : decode cX9_append 21 = .ok (.aload_n 0, 1) := by decide +kernel
theorem dX9_append_22 : decode cX9_append 22 = .ok (.getfield 15, 3) := by decide +kernel
theorem dX9_append_25 : decode cX9_append 25 = .ok (.iload_n 1, 1) := by decide +kernel
theorem dX9_append_26 : decode cX9_append 26 = .ok (.iload_n 2, 1) := by decide +kernel
theorem dX9_append_27 : decode cX9_append 27 = .ok (.iushr, 1) := by decide +kernel
theorem dX9_append_28 : decode cX9_append 28 = .ok (.sipush 255, 3) := by decide +kernel
theorem dX9_append_31 : decode cX9_append 31 = .ok (.iand, 1) := by decide +kernel
theorem dX9_append_32 : decode cX9_append 32 = .ok (.iastore, 1) := by decide +kernel
theorem dX9_append_33 : decode cX9_append 33 = .ok (.aload_n 0, 1) := by decide +kernel
theorem dX9_append_34 : decode cX9_append 34 = .ok (.dup, 1) := by decide +kernel
theorem dX9_append_35 : decode cX9_append 35 = .ok (.getfield 15, 3) := by decide +kernel
theorem dX9_append_38 : decode cX9_append 38 = .ok (.iconst 1, 1) := by decide +kernel
theorem dX9_append_39 : decode cX9_append 39 = .ok (.iadd, 1) := by decide +kernel
theorem dX9_append_40 : decode cX9_append 40 = .ok (.putfield 15, 3) := by decide +kernel
theorem dX9_append_43 : decode cX9_append 43 = .ok (.iinc 2 (-8), 3) := by decide +kernel
theorem dX9_append_46 : decode cX9_append 46 = .ok (.goto (-43), 3) := by decide +kernel
theorem dX9_append_49 : decode cX9_append 49 = .ok (.return_, 1) := by decide +kernel
theorem dX9_open_0 : decode cX9_open 0 = .ok (.aload_n 0, 1) := by decide +kernel
theorem dX9_open_1 : decode cX9_open 1 = .ok (.iconst 0, 1) := by decide +kernel
theorem dX9_open_2 : decode cX9_open 2 = .ok (.putfield 19, 3) := by decide +kernel
theorem dX9_open_5 : decode cX9_open 5 = .ok (.aload_n 0, 1) := by decide +kernel
theorem dX9_open_6 : decode cX9_open 6 = .ok (.iconst 0, 1) := by decide +kernel
theorem dX9_open_7 : decode cX9_open 7 = .ok (.putfield 22, 3) := by decide +kernel
theorem dX9_open_10 : decode cX9_open 10 = .ok (.aload_n 0, 1) := by decide +kernel
theorem dX9_open_11 : decode cX9_open 11 = .ok (.invokevirtual 25, 3) := by decide +kernel
theorem dX9_open_14 : decode cX9_open 14 = .ok (.return_, 1) := by decide +kernel
theorem dX9_advance_0 : decode cX9_advance 0 = .ok (.aload_n 0, 1) := by decide +kernel
theorem dX9_advance_1 : decode cX9_advance 1 = .ok (.aload_n 0, 1) := by decide +kernel
theorem dX9_advance_2 : decode cX9_advance 2 = .ok (.getfield 22, 3) := by decide +kernel
theorem dX9_advance_5 : decode cX9_advance 5 = .ok (.putfield 28, 3) := by decide +kernel
theorem dX9_advance_8 : decode cX9_advance 8 = .ok (.aload_n 0, 1) := by decide +kernel
theorem dX9_advance_9 : decode cX9_advance 9 = .ok (.getfield 28, 3) := by decide +kernel
theorem dX9_advance_12 : decode cX9_advance 12 = .ok (.aload_n 0, 1) := by decide +kernel
theorem dX9_advance_13 : decode cX9_advance 13 = .ok (.getfield 15, 3) := by decide +kernel
theorem dX9_advance_16 : decode cX9_advance 16 = .ok (.if_icmp .ge 30, 3) := by decide +kernel
theorem dX9_advance_19 : decode cX9_advance 19 = .ok (.aload_n 0, 1) := by decide +kernel
theorem dX9_advance_20 : decode cX9_advance 20 = .ok (.getfield 9, 3) := by decide +kernel
theorem dX9_advance_23 : decode cX9_advance 23 = .ok (.aload_n 0, 1) := by decide +kernel
theorem dX9_advance_24 : decode cX9_advance 24 = .ok (.getfield 28, 3) := by decide +kernel
theorem dX9_advance_27 : decode cX9_advance 27 = .ok (.iaload, 1) := by decide +kernel
theorem dX9_advance_28 : decode cX9_advance 28 = .ok (.bipush 32, 2) := by decide +kernel
theorem dX9_advance_30 : decode cX9_advance 30 = .ok (.if_icmp .ne 16, 3) := by decide +kernel
theorem dX9_advance_33 : decode cX9_advance 33 = .ok (.aload_n 0, 1) := by decide +kernel
theorem dX9_advance_34 : decode cX9_advance 34 = .ok (.dup, 1) := by decide +kernel
theorem dX9_advance_35 : decode cX9_advance 35 = .ok (.getfield 28, 3) := by decide +kernel
theorem dX9_advance_38 : decode cX9_advance 38 = .ok (.iconst 1, 1) := by decide +kernel
theorem dX9_advance_39 : decode cX9_advance 39 = .ok (.iadd, 1) := by decide +kernel
theorem dX9_advance_40 : decode cX9_advance 40 = .ok (.putfield 28, 3) := by decide +kernel
theorem dX9_advance_43 : decode cX9_advance 43 = .ok (.goto (-35), 3) := by decide +kernel
theorem dX9_advance_46 : decode cX9_advance 46 = .ok (.aload_n 0, 1) := by decide +kernel
theorem dX9_advance_47 : decode cX9_advance 47 = .ok (.aload_n 0, 1) := by decide +kernel
theorem dX9_advance_48 : decode cX9_advance 48 = .ok (.getfield 28, 3) := by decide +kernel
theorem dX9_advance_51 : decode cX9_advance 51 = .ok (.putfield 22, 3) := by decide +kernel
theorem dX9_advance_54 : decode cX9_advance 54 = .ok (.aload_n 0, 1) := by decide +kernel
theorem dX9_advance_55 : decode cX9_advance 55 = .ok (.getfield 28, 3) := by decide +kernel
theorem dX9_advance_58 : decode cX9_advance 58 = .ok (.aload_n 0, 1) := by decide +kernel
theorem dX9_advance_59 : decode cX9_advance 59 = .ok (.getfield 15, 3) := by decide +kernel
theorem dX9_advance_62 : decode cX9_advance 62 = .ok (.if_icmp .lt 9, 3) := by decide +kernel
theorem dX9_advance_65 : decode cX9_advance 65 = .ok (.aload_n 0, 1) := by decide +kernel
theorem dX9_advance_66 : decode cX9_advance 66 = .ok (.iconst 0, 1) := by decide +kernel
theorem dX9_advance_67 : decode cX9_advance 67 = .ok (.putfield 31, 3) := by decide +kernel
theorem dX9_advance_70 : decode cX9_advance 70 = .ok (.return_, 1) := by decide +kernel
theorem dX9_advance_71 : decode cX9_advance 71 = .ok (.aload_n 0, 1) := by decide +kernel
theorem dX9_advance_72 : decode cX9_advance 72 = .ok (.aload_n 0, 1) := by decide +kernel
theorem dX9_advance_73 : decode cX9_advance 73 = .ok (.getfield 9, 3) := by decide +kernel
theorem dX9_advance_76 : decode cX9_advance 76 = .ok (.aload_n 0, 1) := by decide +kernel
theorem dX9_advance_77 : decode cX9_advance 77 = .ok (.getfield 28, 3) := by decide +kernel
theorem dX9_advance_80 : decode cX9_advance 80 = .ok (.iaload, 1) := by decide +kernel
theorem dX9_advance_81 : decode cX9_advance 81 = .ok (.putfield 34, 3) := by decide +kernel
theorem dX9_advance_84 : decode cX9_advance 84 = .ok (.aload_n 0, 1) := by decide +kernel
theorem dX9_advance_85 : decode cX9_advance 85 = .ok (.dup, 1) := by decide +kernel
theorem dX9_advance_86 : decode cX9_advance 86 = .ok (.getfield 22, 3) := by decide +kernel
theorem dX9_advance_89 : decode cX9_advance 89 = .ok (.iconst 1, 1) := by decide +kernel
theorem dX9_advance_90 : decode cX9_advance 90 = .ok (.iadd, 1) := by decide +kernel
theorem dX9_advance_91 : decode cX9_advance 91 = .ok (.putfield 22, 3) := by decide +kernel
theorem dX9_advance_94 : decode cX9_advance 94 = .ok (.aload_n 0, 1) := by decide +kernel
theorem dX9_advance_95 : decode cX9_advance 95 = .ok (.getfield 34, 3) := by decide +kernel
theorem dX9_advance_98 : decode cX9_advance 98 = .ok (.bipush 97, 2) := by decide +kernel
theorem dX9_advance_100 : decode cX9_advance 100 = .ok (.if_icmp .lt 16, 3) := by decide +kernel
theorem dX9_advance_103 : decode cX9_advance 103 = .ok (.aload_n 0, 1) := by decide +kernel
theorem dX9_advance_104 : decode cX9_advance 104 = .ok (.getfield 34, 3) := by decide +kernel
theorem dX9_advance_107 : decode cX9_advance 107 = .ok (.bipush 122, 2) := by decide +kernel
theorem dX9_advance_109 : decode cX9_advance 109 = .ok (.if_icmp .gt 7, 3) := by decide +kernel
theorem dX9_advance_112 : decode cX9_advance 112 = .ok (.iconst 1, 1) := by decide +kernel
theorem dX9_advance_113 : decode cX9_advance 113 = .ok (.goto 4, 3) := by decide +kernel
theorem dX9_advance_116 : decode cX9_advance 116 = .ok (.iconst 0, 1) := by decide +kernel
theorem dX9_advance_117 : decode cX9_advance 117 = .ok (.istore_n 1, 1) := by decide +kernel
theorem dX9_advance_118 : decode cX9_advance 118 = .ok (.iload_n 1, 1) := by decide +kernel
theorem dX9_advance_119 : decode cX9_advance 119 = .ok (.ifCond .ne 21, 3) := by decide +kernel
theorem dX9_advance_122 : decode cX9_advance 122 = .ok (.aload_n 0, 1) := by decide +kernel
theorem dX9_advance_123 : decode cX9_advance 123 = .ok (.getfield 34, 3) := by decide +kernel
theorem dX9_advance_126 : decode cX9_advance 126 = .ok (.bipush 48, 2) := by decide +kernel
theorem dX9_advance_128 : decode cX9_advance 128 = .ok (.if_icmp .lt 100, 3) := by decide +kernel
theorem dX9_advance_131 : decode cX9_advance 131 = .ok (.aload_n 0, 1) := by decide +kernel
theorem dX9_advance_132 : decode cX9_advance 132 = .ok (.getfield 34, 3) := by decide +kernel
theorem dX9_advance_135 : decode cX9_advance 135 = .ok (.bipush 57, 2) := by decide +kernel
theorem dX9_advance_137 : decode cX9_advance 137 = .ok (.if_icmp .gt 91, 3) := by decide +kernel
theorem dX9_advance_140 : decode cX9_advance 140 = .ok (.aload_n 0, 1) := by decide +kernel
theorem dX9_advance_141 : decode cX9_advance 141 = .ok (.iload_n 1, 1) := by decide +kernel
theorem dX9_advance_142 : decode cX9_advance 142 = .ok (.ifCond .eq 7, 3) := by decide +kernel
theorem dX9_advance_145 : decode cX9_advance 145 = .ok (.iconst 1, 1) := by decide +kernel
theorem dX9_advance_146 : decode cX9_advance 146 = .ok (.goto 4, 3) := by decide +kernel
theorem dX9_advance_149 : decode cX9_advance 149 = .ok (.iconst 2, 1) := by decide +kernel
theorem dX9_advance_150 : decode cX9_advance 150 = .ok (.putfield 31, 3) := by decide +kernel
theorem dX9_advance_153 : decode cX9_advance 153 = .ok (.iload_n 1, 1) := by decide +kernel
theorem dX9_advance_154 : decode cX9_advance 154 = .ok (.ifCond .eq 8, 3) := by decide +kernel
theorem dX9_advance_157 : decode cX9_advance 157 = .ok (.bipush 97, 2) := by decide +kernel
theorem dX9_advance_159 : decode cX9_advance 159 = .ok (.goto 5, 3) := by decide +kernel
theorem dX9_advance_162 : decode cX9_advance 162 = .ok (.bipush 48, 2) := by decide +kernel
theorem dX9_advance_164 : decode cX9_advance 164 = .ok (.istore_n 2, 1) := by decide +kernel
theorem dX9_advance_165 : decode cX9_advance 165 = .ok (.iload_n 1, 1) := by decide +kernel
theorem dX9_advance_166 : decode cX9_advance 166 = .ok (.ifCond .eq 8, 3) := by decide +kernel
theorem dX9_advance_169 : decode cX9_advance 169 = .ok (.bipush 122, 2) := by decide +kernel
theorem dX9_advance_171 : decode cX9_advance 171 = .ok (.goto 5, 3) := by decide +kernel
theorem dX9_advance_174 : decode cX9_advance 174 = .ok (.bipush 57, 2) := by decide +kernel
theorem dX9_advance_176 : decode cX9_advance 176 = .ok (.istore_n 3, 1) := by decide +kernel
theorem dX9_advance_177 : decode cX9_advance 177 = .ok (.aload_n 0, 1) := by decide +kernel
theorem dX9_advance_178 : decode cX9_advance 178 = .ok (.getfield 22, 3) := by decide +kernel
theorem dX9_advance_181 : decode cX9_advance 181 = .ok (.aload_n 0, 1) := by decide +kernel
theorem dX9_advance_182 : decode cX9_advance 182 = .ok (.getfield 15, 3) := by decide +kernel
theorem dX9_advance_185 : decode cX9_advance 185 = .ok (.if_icmp .ge 42, 3) := by decide +kernel
theorem dX9_advance_188 : decode cX9_advance 188 = .ok (.aload_n 0, 1) := by decide +kernel
theorem dX9_advance_189 : decode cX9_advance 189 = .ok (.getfield 9, 3) := by decide +kernel
theorem dX9_advance_192 : decode cX9_advance 192 = .ok (.aload_n 0, 1) := by decide +kernel
theorem dX9_advance_193 : decode cX9_advance 193 = .ok (.getfield 22, 3) := by decide +kernel
theorem dX9_advance_196 : decode cX9_advance 196 = .ok (.iaload, 1) := by decide +kernel
theorem dX9_advance_197 : decode cX9_advance 197 = .ok (.iload_n 2, 1) := by decide +kernel
theorem dX9_advance_198 : decode cX9_advance 198 = .ok (.if_icmp .lt 29, 3) := by decide +kernel
theorem dX9_advance_201 : decode cX9_advance 201 = .ok (.aload_n 0, 1) := by decide +kernel
theorem dX9_advance_202 : decode cX9_advance 202 = .ok (.getfield 9, 3) := by decide +kernel
theorem dX9_advance_205 : decode cX9_advance 205 = .ok (.aload_n 0, 1) := by decide +kernel
theorem dX9_advance_206 : decode cX9_advance 206 = .ok (.getfield 22, 3) := by decide +kernel
theorem dX9_advance_209 : decode cX9_advance 209 = .ok (.iaload, 1) := by decide +kernel
theorem dX9_advance_210 : decode cX9_advance 210 = .ok (.iload_n 3, 1) := by decide +kernel
theorem dX9_advance_211 : decode cX9_advance 211 = .ok (.if_icmp .gt 16, 3) := by decide +kernel
theorem dX9_advance_214 : decode cX9_advance 214 = .ok (.aload_n 0, 1) := by decide +kernel
theorem dX9_advance_215 : decode cX9_advance 215 = .ok (.dup, 1) := by decide +kernel
theorem dX9_advance_216 : decode cX9_advance 216 = .ok (.getfield 22, 3) := by decide +kernel
theorem dX9_advance_219 : decode cX9_advance 219 = .ok (.iconst 1, 1) := by decide +kernel
theorem dX9_advance_220 : decode cX9_advance 220 = .ok (.iadd, 1) := by decide +kernel
theorem dX9_advance_221 : decode cX9_advance 221 = .ok (.putfield 22, 3) := by decide +kernel
theorem dX9_advance_224 : decode cX9_advance 224 = .ok (.goto (-47), 3) := by decide +kernel
theorem dX9_advance_227 : decode cX9_advance 227 = .ok (.return_, 1) := by decide +kernel
theorem dX9_advance_228 : decode cX9_advance 228 = .ok (.aload_n 0, 1) := by decide +kernel
theorem dX9_advance_229 : decode cX9_advance 229 = .ok (.iconst 3, 1) := by decide +kernel
theorem dX9_advance_230 : decode cX9_advance 230 = .ok (.putfield 31, 3) := by decide +kernel
theorem dX9_advance_233 : decode cX9_advance 233 = .ok (.aload_n 0, 1) := by decide +kernel
theorem dX9_advance_234 : decode cX9_advance 234 = .ok (.getfield 34, 3) := by decide +kernel
theorem dX9_advance_237 : decode cX9_advance 237 = .ok (.bipush 60, 2) := by decide +kernel
theorem dX9_advance_239 : decode cX9_advance 239 = .ok (.if_icmp .eq 12, 3) := by decide +kernel
theorem dX9_advance_242 : decode cX9_advance 242 = .ok (.aload_n 0, 1) := by decide +kernel
theorem dX9_advance_243 : decode cX9_advance 243 = .ok (.getfield 34, 3) := by decide +kernel
theorem dX9_advance_246 : decode cX9_advance 246 = .ok (.bipush 62, 2) := by decide +kernel
theorem dX9_advance_248 : decode cX9_advance 248 = .ok (.if_icmp .ne 50, 3) := by decide +kernel
theorem dX9_advance_251 : decode cX9_advance 251 = .ok (.aload_n 0, 1) := by decide +kernel
theorem dX9_advance_252 : decode cX9_advance 252 = .ok (.getfield 22, 3) := by decide +kernel
theorem dX9_advance_255 : decode cX9_advance 255 = .ok (.aload_n 0, 1) := by decide +kernel
theorem dX9_advance_256 : decode cX9_advance 256 = .ok (.getfield 15, 3) := by decide +kernel
theorem dX9_advance_259 : decode cX9_advance 259 = .ok (.if_icmp .ge 39, 3) := by decide +kernel
theorem dX9_advance_262 : decode cX9_advance 262 = .ok (.aload_n 0, 1) := by decide +kernel
theorem dX9_advance_263 : decode cX9_advance 263 = .ok (.getfield 9, 3) := by decide +kernel
theorem dX9_advance_266 : decode cX9_advance 266 = .ok (.aload_n 0, 1) := by decide +kernel
theorem dX9_advance_267 : decode cX9_advance 267 = .ok (.getfield 22, 3) := by decide +kernel
theorem dX9_advance_270 : decode cX9_advance 270 = .ok (.iaload, 1) := by decide +kernel
theorem dX9_advance_271 : decode cX9_advance 271 = .ok (.bipush 61, 2) := by decide +kernel
theorem dX9_advance_273 : decode cX9_advance 273 = .ok (.if_icmp .ne 25, 3) := by decide +kernel
theorem dX9_advance_276 : decode cX9_advance 276 = .ok (.aload_n 0, 1) := by decide +kernel
theorem dX9_advance_277 : decode cX9_advance 277 = .ok (.dup, 1) := by decide +kernel
theorem dX9_advance_278 : decode cX9_advance 278 = .ok (.getfield 34, 3) := by decide +kernel
theorem dX9_advance_281 : decode cX9_advance 281 = .ok (.sipush 256, 3) := by decide +kernel
theorem dX9_advance_284 : decode cX9_advance 284 = .ok (.iadd, 1) := by decide +kernel
theorem dX9_advance_285 : decode cX9_advance 285 = .ok (.putfield 34, 3) := by decide +kernel
theorem dX9_advance_288 : decode cX9_advance 288 = .ok (.aload_n 0, 1) := by decide +kernel
theorem dX9_advance_289 : decode cX9_advance 289 = .ok (.dup, 1) := by decide +kernel
theorem dX9_advance_290 : decode cX9_advance 290 = .ok (.getfield 22, 3) := by decide +kernel
theorem dX9_advance_293 : decode cX9_advance 293 = .ok (.iconst 1, 1) := by decide +kernel
theorem dX9_advance_294 : decode cX9_advance 294 = .ok (.iadd, 1) := by decide +kernel
theorem dX9_advance_295 : decode cX9_advance 295 = .ok (.putfield 22, 3) := by decide +kernel
theorem dX9_advance_298 : decode cX9_advance 298 = .ok (.return_, 1) := by decide +kernel
theorem dX9_isAt_0 : decode cX9_isAt 0 = .ok (.aload_n 0, 1) := by decide +kernel
theorem dX9_isAt_1 : decode cX9_isAt 1 = .ok (.getfield 31, 3) := by decide +kernel
theorem dX9_isAt_4 : decode cX9_isAt 4 = .ok (.iconst 3, 1) := by decide +kernel
theorem dX9_isAt_5 : decode cX9_isAt 5 = .ok (.if_icmp .ne 15, 3) := by decide +kernel
theorem dX9_isAt_8 : decode cX9_isAt 8 = .ok (.aload_n 0, 1) := by decide +kernel
theorem dX9_isAt_9 : decode cX9_isAt 9 = .ok (.getfield 34, 3) := by decide +kernel
theorem dX9_isAt_12 : decode cX9_isAt 12 = .ok (.iload_n 1, 1) := by decide +kernel
theorem dX9_isAt_13 : decode cX9_isAt 13 = .ok (.if_icmp .ne 7, 3) := by decide +kernel
theorem dX9_isAt_16 : decode cX9_isAt 16 = .ok (.iconst 1, 1) := by decide +kernel
theorem dX9_isAt_17 : decode cX9_isAt 17 = .ok (.goto 4, 3) := by decide +kernel
theorem dX9_isAt_20 : decode cX9_isAt 20 = .ok (.iconst 0, 1) := by decide +kernel
theorem dX9_isAt_21 : decode cX9_isAt 21 = .ok (.ireturn, 1) := by decide +kernel
theorem dX9_wordIn_0 : decode cX9_wordIn 0 = .ok (.aload_n 0, 1) := by decide +kernel
theorem dX9_wordIn_1 : decode cX9_wordIn 1 = .ok (.getfield 31, 3) := by decide +kernel
theorem dX9_wordIn_4 : decode cX9_wordIn 4 = .ok (.iconst 1, 1) := by decide +kernel
theorem dX9_wordIn_5 : decode cX9_wordIn 5 = .ok (.if_icmp .eq 5, 3) := by decide +kernel
theorem dX9_wordIn_8 : decode cX9_wordIn 8 = .ok (.iconst (-1), 1) := by decide +kernel
theorem dX9_wordIn_9 : decode cX9_wordIn 9 = .ok (.ireturn, 1) := by decide +kernel
theorem dX9_wordIn_10 : decode cX9_wordIn 10 = .ok (.iconst 0, 1) := by decide +kernel
theorem dX9_wordIn_11 : decode cX9_wordIn 11 = .ok (.istore_n 2, 1) := by decide +kernel
theorem dX9_wordIn_12 : decode cX9_wordIn 12 = .ok (.aload_n 0, 1) := by decide +kernel
theorem dX9_wordIn_13 : decode cX9_wordIn 13 = .ok (.getfield 28, 3) := by decide +kernel
theorem dX9_wordIn_16 : decode cX9_wordIn 16 = .ok (.istore_n 3, 1) := by decide +kernel
theorem dX9_wordIn_17 : decode cX9_wordIn 17 = .ok (.iconst 1, 1) := by decide +kernel
theorem dX9_wordIn_18 : decode cX9_wordIn 18 = .ok (.istore 4, 2) := by decide +kernel
theorem dX9_wordIn_20 : decode cX9_wordIn 20 = .ok (.iconst 0, 1) := by decide +kernel
theorem dX9_wordIn_21 : decode cX9_wordIn 21 = .ok (.istore 5, 2) := by decide +kernel
theorem dX9_wordIn_23 : decode cX9_wordIn 23 = .ok (.iload 5, 2) := by decide +kernel
theorem dX9_wordIn_25 : decode cX9_wordIn 25 = .ok (.aload_n 1, 1) := by decide +kernel
theorem dX9_wordIn_26 : decode cX9_wordIn 26 = .ok (.invokevirtual 37, 3) := by decide +kernel
theorem dX9_wordIn_29 : decode cX9_wordIn 29 = .ok (.if_icmp .ge 87, 3) := by decide +kernel
theorem dX9_wordIn_32 : decode cX9_wordIn 32 = .ok (.aload_n 1, 1) := by decide +kernel
theorem dX9_wordIn_33 : decode cX9_wordIn 33 = .ok (.iload 5, 2) := by decide +kernel
theorem dX9_wordIn_35 : decode cX9_wordIn 35 = .ok (.invokevirtual 42, 3) := by decide +kernel
theorem dX9_wordIn_38 : decode cX9_wordIn 38 = .ok (.istore 6, 2) := by decide +kernel
theorem dX9_wordIn_40 : decode cX9_wordIn 40 = .ok (.iload 6, 2) := by decide +kernel
theorem dX9_wordIn_42 : decode cX9_wordIn 42 = .ok (.bipush 32, 2) := by decide +kernel
theorem dX9_wordIn_44 : decode cX9_wordIn 44 = .ok (.if_icmp .eq 40, 3) := by decide +kernel
theorem dX9_wordIn_47 : decode cX9_wordIn 47 = .ok (.iload 4, 2) := by decide +kernel
theorem dX9_wordIn_49 : decode cX9_wordIn 49 = .ok (.ifCond .eq 26, 3) := by decide +kernel
theorem dX9_wordIn_52 : decode cX9_wordIn 52 = .ok (.iload_n 3, 1) := by decide +kernel
theorem dX9_wordIn_53 : decode cX9_wordIn 53 = .ok (.aload_n 0, 1) := by decide +kernel
theorem dX9_wordIn_54 : decode cX9_wordIn 54 = .ok (.getfield 22, 3) := by decide +kernel
theorem dX9_wordIn_57 : decode cX9_wordIn 57 = .ok (.if_icmp .ge 18, 3) := by decide +kernel
theorem dX9_wordIn_60 : decode cX9_wordIn 60 = .ok (.aload_n 0, 1) := by decide +kernel
theorem dX9_wordIn_61 : decode cX9_wordIn 61 = .ok (.getfield 9, 3) := by decide +kernel
theorem dX9_wordIn_64 : decode cX9_wordIn 64 = .ok (.iload_n 3, 1) := by decide +kernel
theorem dX9_wordIn_65 : decode cX9_wordIn 65 = .ok (.iaload, 1) := by decide +kernel
theorem dX9_wordIn_66 : decode cX9_wordIn 66 = .ok (.iload 6, 2) := by decide +kernel
theorem dX9_wordIn_68 : decode cX9_wordIn 68 = .ok (.if_icmp .ne 7, 3) := by decide +kernel
theorem dX9_wordIn_71 : decode cX9_wordIn 71 = .ok (.iconst 1, 1) := by decide +kernel
theorem dX9_wordIn_72 : decode cX9_wordIn 72 = .ok (.goto 4, 3) := by decide +kernel
theorem dX9_wordIn_75 : decode cX9_wordIn 75 = .ok (.iconst 0, 1) := by decide +kernel
theorem dX9_wordIn_76 : decode cX9_wordIn 76 = .ok (.istore 4, 2) := by decide +kernel
theorem dX9_wordIn_78 : decode cX9_wordIn 78 = .ok (.iinc 3 1, 3) := by decide +kernel
theorem dX9_wordIn_81 : decode cX9_wordIn 81 = .ok (.goto 29, 3) := by decide +kernel
theorem dX9_wordIn_84 : decode cX9_wordIn 84 = .ok (.iload 4, 2) := by decide +kernel
theorem dX9_wordIn_86 : decode cX9_wordIn 86 = .ok (.ifCond .eq 13, 3) := by decide +kernel
theorem dX9_wordIn_89 : decode cX9_wordIn 89 = .ok (.iload_n 3, 1) := by decide +kernel
theorem dX9_wordIn_90 : decode cX9_wordIn 90 = .ok (.aload_n 0, 1) := by decide +kernel
theorem dX9_wordIn_91 : decode cX9_wordIn 91 = .ok (.getfield 22, 3) := by decide +kernel
theorem dX9_wordIn_94 : decode cX9_wordIn 94 = .ok (.if_icmp .ne 5, 3) := by decide +kernel
theorem dX9_wordIn_97 : decode cX9_wordIn 97 = .ok (.iload_n 2, 1) := by decide +kernel
theorem dX9_wordIn_98 : decode cX9_wordIn 98 = .ok (.ireturn, 1) := by decide +kernel
theorem dX9_wordIn_99 : decode cX9_wordIn 99 = .ok (.iinc 2 1, 3) := by decide +kernel
theorem dX9_wordIn_102 : decode cX9_wordIn 102 = .ok (.aload_n 0, 1) := by decide +kernel
theorem dX9_wordIn_103 : decode cX9_wordIn 103 = .ok (.getfield 28, 3) := by decide +kernel
theorem dX9_wordIn_106 : decode cX9_wordIn 106 = .ok (.istore_n 3, 1) := by decide +kernel
theorem dX9_wordIn_107 : decode cX9_wordIn 107 = .ok (.iconst 1, 1) := by decide +kernel
theorem dX9_wordIn_108 : decode cX9_wordIn 108 = .ok (.istore 4, 2) := by decide +kernel
theorem dX9_wordIn_110 : decode cX9_wordIn 110 = .ok (.iinc 5 1, 3) := by decide +kernel
theorem dX9_wordIn_113 : decode cX9_wordIn 113 = .ok (.goto (-90), 3) := by decide +kernel
theorem dX9_wordIn_116 : decode cX9_wordIn 116 = .ok (.iconst (-1), 1) := by decide +kernel
theorem dX9_wordIn_117 : decode cX9_wordIn 117 = .ok (.ireturn, 1) := by decide +kernel
theorem dX9_isAtWord_0 : decode cX9_isAtWord 0 = .ok (.aload_n 0, 1) := by decide +kernel
theorem dX9_isAtWord_1 : decode cX9_isAtWord 1 = .ok (.aload_n 1, 1) := by decide +kernel
theorem dX9_isAtWord_2 : decode cX9_isAtWord 2 = .ok (.invokevirtual 46, 3) := by decide +kernel
theorem dX9_isAtWord_5 : decode cX9_isAtWord 5 = .ok (.ifCond .ne 7, 3) := by decide +kernel
theorem dX9_isAtWord_8 : decode cX9_isAtWord 8 = .ok (.iconst 1, 1) := by decide +kernel
theorem dX9_isAtWord_9 : decode cX9_isAtWord 9 = .ok (.goto 4, 3) := by decide +kernel
theorem dX9_isAtWord_12 : decode cX9_isAtWord 12 = .ok (.iconst 0, 1) := by decide +kernel
theorem dX9_isAtWord_13 : decode cX9_isAtWord 13 = .ok (.ireturn, 1) := by decide +kernel
theorem dX9_numberAtHand_0 : decode cX9_numberAtHand 0 = .ok (.aload_n 0, 1) := by decide +kernel
theorem dX9_numberAtHand_1 : decode cX9_numberAtHand 1 = .ok (.getfield 22, 3) := by decide +kernel
theorem dX9_numberAtHand_4 : decode cX9_numberAtHand 4 = .ok (.aload_n 0, 1) := by decide +kernel
theorem dX9_numberAtHand_5 : decode cX9_numberAtHand 5 = .ok (.getfield 28, 3) := by decide +kernel
theorem dX9_numberAtHand_8 : decode cX9_numberAtHand 8 = .ok (.isub, 1) := by decide +kernel
theorem dX9_numberAtHand_9 : decode cX9_numberAtHand 9 = .ok (.iconst 5, 1) := by decide +kernel
theorem dX9_numberAtHand_10 : decode cX9_numberAtHand 10 = .ok (.if_icmp .le 5, 3) := by decide +kernel
theorem dX9_numberAtHand_13 : decode cX9_numberAtHand 13 = .ok (.iconst (-1), 1) := by decide +kernel
theorem dX9_numberAtHand_14 : decode cX9_numberAtHand 14 = .ok (.ireturn, 1) := by decide +kernel
theorem dX9_numberAtHand_15 : decode cX9_numberAtHand 15 = .ok (.iconst 0, 1) := by decide +kernel
theorem dX9_numberAtHand_16 : decode cX9_numberAtHand 16 = .ok (.istore_n 1, 1) := by decide +kernel
theorem dX9_numberAtHand_17 : decode cX9_numberAtHand 17 = .ok (.aload_n 0, 1) := by decide +kernel
theorem dX9_numberAtHand_18 : decode cX9_numberAtHand 18 = .ok (.getfield 28, 3) := by decide +kernel
theorem dX9_numberAtHand_21 : decode cX9_numberAtHand 21 = .ok (.istore_n 2, 1) := by decide +kernel
theorem dX9_numberAtHand_22 : decode cX9_numberAtHand 22 = .ok (.iload_n 2, 1) := by decide +kernel
theorem dX9_numberAtHand_23 : decode cX9_numberAtHand 23 = .ok (.aload_n 0, 1) := by decide +kernel
theorem dX9_numberAtHand_24 : decode cX9_numberAtHand 24 = .ok (.getfield 22, 3) := by decide +kernel
theorem dX9_numberAtHand_27 : decode cX9_numberAtHand 27 = .ok (.if_icmp .ge 24, 3) := by decide +kernel
theorem dX9_numberAtHand_30 : decode cX9_numberAtHand 30 = .ok (.iload_n 1, 1) := by decide +kernel
theorem dX9_numberAtHand_31 : decode cX9_numberAtHand 31 = .ok (.bipush 10, 2) := by decide +kernel
theorem dX9_numberAtHand_33 : decode cX9_numberAtHand 33 = .ok (.imul, 1) := by decide +kernel
theorem dX9_numberAtHand_34 : decode cX9_numberAtHand 34 = .ok (.aload_n 0, 1) := by decide +kernel
theorem dX9_numberAtHand_35 : decode cX9_numberAtHand 35 = .ok (.getfield 9, 3) := by decide +kernel
theorem dX9_numberAtHand_38 : decode cX9_numberAtHand 38 = .ok (.iload_n 2, 1) := by decide +kernel
theorem dX9_numberAtHand_39 : decode cX9_numberAtHand 39 = .ok (.iaload, 1) := by decide +kernel
theorem dX9_numberAtHand_40 : decode cX9_numberAtHand 40 = .ok (.iadd, 1) := by decide +kernel
theorem dX9_numberAtHand_41 : decode cX9_numberAtHand 41 = .ok (.bipush 48, 2) := by decide +kernel
theorem dX9_numberAtHand_43 : decode cX9_numberAtHand 43 = .ok (.isub, 1) := by decide +kernel
theorem dX9_numberAtHand_44 : decode cX9_numberAtHand 44 = .ok (.istore_n 1, 1) := by decide +kernel
theorem dX9_numberAtHand_45 : decode cX9_numberAtHand 45 = .ok (.iinc 2 1, 3) := by decide +kernel
theorem dX9_numberAtHand_48 : decode cX9_numberAtHand 48 = .ok (.goto (-26), 3) := by decide +kernel
theorem dX9_numberAtHand_51 : decode cX9_numberAtHand 51 = .ok (.iload_n 1, 1) := by decide +kernel
theorem dX9_numberAtHand_52 : decode cX9_numberAtHand 52 = .ok (.ireturn, 1) := by decide +kernel
theorem dX9_refuse_0 : decode cX9_refuse 0 = .ok (.aload_n 0, 1) := by decide +kernel
theorem dX9_refuse_1 : decode cX9_refuse 1 = .ok (.iconst 1, 1) := by decide +kernel
theorem dX9_refuse_2 : decode cX9_refuse 2 = .ok (.bipush 8, 2) := by decide +kernel
theorem dX9_refuse_4 : decode cX9_refuse 4 = .ok (.aload_n 0, 1) := by decide +kernel
theorem dX9_refuse_5 : decode cX9_refuse 5 = .ok (.getfield 28, 3) := by decide +kernel
theorem dX9_refuse_8 : decode cX9_refuse 8 = .ok (.imul, 1) := by decide +kernel
theorem dX9_refuse_9 : decode cX9_refuse 9 = .ok (.iadd, 1) := by decide +kernel
theorem dX9_refuse_10 : decode cX9_refuse 10 = .ok (.iload_n 1, 1) := by decide +kernel
theorem dX9_refuse_11 : decode cX9_refuse 11 = .ok (.iadd, 1) := by decide +kernel
theorem dX9_refuse_12 : decode cX9_refuse 12 = .ok (.putfield 19, 3) := by decide +kernel
theorem dX9_refuse_15 : decode cX9_refuse 15 = .ok (.iconst 0, 1) := by decide +kernel
theorem dX9_refuse_16 : decode cX9_refuse 16 = .ok (.ireturn, 1) := by decide +kernel
theorem dX10_init_0 : decode cX10_init 0 = .ok (.aload_n 0, 1) := by decide +kernel
theorem dX10_init_1 : decode cX10_init 1 = .ok (.invokespecial 3, 3) := by decide +kernel
theorem dX10_init_4 : decode cX10_init 4 = .ok (.aload_n 0, 1) := by decide +kernel
theorem dX10_init_5 : decode cX10_init 5 = .ok (.iconst 4, 1) := by decide +kernel
theorem dX10_init_6 : decode cX10_init 6 = .ok (.newarray .int, 2) := by decide +kernel
theorem dX10_init_8 : decode cX10_init 8 = .ok (.putfield 9, 3) := by decide +kernel
theorem dX10_init_11 : decode cX10_init 11 = .ok (.aload_n 0, 1) := by decide +kernel
theorem dX10_init_12 : decode cX10_init 12 = .ok (.iconst 4, 1) := by decide +kernel
theorem dX10_init_13 : decode cX10_init 13 = .ok (.newarray .int, 2) := by decide +kernel
theorem dX10_init_15 : decode cX10_init 15 = .ok (.putfield 15, 3) := by decide +kernel
theorem dX10_init_18 : decode cX10_init 18 = .ok (.aload_n 0, 1) := by decide +kernel
theorem dX10_init_19 : decode cX10_init 19 = .ok (.iconst 4, 1) := by decide +kernel
theorem dX10_init_20 : decode cX10_init 20 = .ok (.newarray .int, 2) := by decide +kernel
theorem dX10_init_22 : decode cX10_init 22 = .ok (.putfield 18, 3) := by decide +kernel
theorem dX10_init_25 : decode cX10_init 25 = .ok (.aload_n 0, 1) := by decide +kernel
theorem dX10_init_26 : decode cX10_init 26 = .ok (.iconst 4, 1) := by decide +kernel
theorem dX10_init_27 : decode cX10_init 27 = .ok (.newarray .int, 2) := by decide +kernel
theorem dX10_init_29 : decode cX10_init 29 = .ok (.putfield 21, 3) := by decide +kernel
theorem dX10_init_32 : decode cX10_init 32 = .ok (.aload_n 0, 1) := by decide +kernel
theorem dX10_init_33 : decode cX10_init 33 = .ok (.bipush 9, 2) := by decide +kernel
theorem dX10_init_35 : decode cX10_init 35 = .ok (.newarray .int, 2) := by decide +kernel
theorem dX10_init_37 : decode cX10_init 37 = .ok (.putfield 24, 3) := by decide +kernel
theorem dX10_init_40 : decode cX10_init 40 = .ok (.aload_n 0, 1) := by decide +kernel
theorem dX10_init_41 : decode cX10_init 41 = .ok (.aload_n 1, 1) := by decide +kernel
theorem dX10_init_42 : decode cX10_init 42 = .ok (.putfield 27, 3) := by decide +kernel
theorem dX10_init_45 : decode cX10_init 45 = .ok (.return_, 1) := by decide +kernel
theorem dX10_begin_0 : decode cX10_begin 0 = .ok (.aload_n 0, 1) := by decide +kernel
theorem dX10_begin_1 : decode cX10_begin 1 = .ok (.aload_n 1, 1) := by decide +kernel
theorem dX10_begin_2 : decode cX10_begin 2 = .ok (.putfield 27, 3) := by decide +kernel
theorem dX10_begin_5 : decode cX10_begin 5 = .ok (.aload_n 0, 1) := by decide +kernel
theorem dX10_begin_6 : decode cX10_begin 6 = .ok (.iconst 0, 1) := by decide +kernel
theorem dX10_begin_7 : decode cX10_begin 7 = .ok (.putfield 31, 3) := by decide +kernel
theorem dX10_begin_10 : decode cX10_begin 10 = .ok (.aload_n 0, 1) := by decide +kernel
theorem dX10_begin_11 : decode cX10_begin 11 = .ok (.aload_n 1, 1) := by decide +kernel
theorem dX10_begin_12 : decode cX10_begin 12 = .ok (.getfield 35, 3) := by decide +kernel
theorem dX10_begin_15 : decode cX10_begin 15 = .ok (.putfield 40, 3) := by decide +kernel
theorem dX10_begin_18 : decode cX10_begin 18 = .ok (.aload_n 1, 1) := by decide +kernel
theorem dX10_begin_19 : decode cX10_begin 19 = .ok (.getfield 43, 3) := by decide +kernel
theorem dX10_begin_22 : decode cX10_begin 22 = .ok (.iconst 0, 1) := by decide +kernel
theorem dX10_begin_23 : decode cX10_begin 23 = .ok (.aload_n 0, 1) := by decide +kernel
theorem dX10_begin_24 : decode cX10_begin 24 = .ok (.getfield 9, 3) := by decide +kernel
theorem dX10_begin_27 : decode cX10_begin 27 = .ok (.iconst 0, 1) := by decide +kernel
theorem dX10_begin_28 : decode cX10_begin 28 = .ok (.iconst 4, 1) := by decide +kernel
theorem dX10_begin_29 : decode cX10_begin 29 = .ok (.invokestatic 46, 3) := by decide +kernel
theorem dX10_begin_32 : decode cX10_begin 32 = .ok (.aload_n 1, 1) := by decide +kernel
theorem dX10_begin_33 : decode cX10_begin 33 = .ok (.getfield 52, 3) := by decide +kernel
theorem dX10_begin_36 : decode cX10_begin 36 = .ok (.iconst 0, 1) := by decide +kernel
theorem dX10_begin_37 : decode cX10_begin 37 = .ok (.aload_n 0, 1) := by decide +kernel
theorem dX10_begin_38 : decode cX10_begin 38 = .ok (.getfield 15, 3) := by decide +kernel
theorem dX10_begin_41 : decode cX10_begin 41 = .ok (.iconst 0, 1) := by decide +kernel
theorem dX10_begin_42 : decode cX10_begin 42 = .ok (.iconst 4, 1) := by decide +kernel
theorem dX10_begin_43 : decode cX10_begin 43 = .ok (.invokestatic 46, 3) := by decide +kernel
theorem dX10_begin_46 : decode cX10_begin 46 = .ok (.aload_n 1, 1) := by decide +kernel
theorem dX10_begin_47 : decode cX10_begin 47 = .ok (.getfield 55, 3) := by decide +kernel
theorem dX10_begin_50 : decode cX10_begin 50 = .ok (.iconst 0, 1) := by decide +kernel
theorem dX10_begin_51 : decode cX10_begin 51 = .ok (.aload_n 0, 1) := by decide +kernel
theorem dX10_begin_52 : decode cX10_begin 52 = .ok (.getfield 18, 3) := by decide +kernel
theorem dX10_begin_55 : decode cX10_begin 55 = .ok (.iconst 0, 1) := by decide +kernel
theorem dX10_begin_56 : decode cX10_begin 56 = .ok (.iconst 4, 1) := by decide +kernel
theorem dX10_begin_57 : decode cX10_begin 57 = .ok (.invokestatic 46, 3) := by decide +kernel
theorem dX10_begin_60 : decode cX10_begin 60 = .ok (.aload_n 0, 1) := by decide +kernel
theorem dX10_begin_61 : decode cX10_begin 61 = .ok (.getfield 21, 3) := by decide +kernel
theorem dX10_begin_64 : decode cX10_begin 64 = .ok (.iconst 0, 1) := by decide +kernel
theorem dX10_begin_65 : decode cX10_begin 65 = .ok (.invokestatic 58, 3) := by decide +kernel
theorem dX10_begin_68 : decode cX10_begin 68 = .ok (.aload_n 0, 1) := by decide +kernel
theorem dX10_begin_69 : decode cX10_begin 69 = .ok (.getfield 24, 3) := by decide +kernel
theorem dX10_begin_72 : decode cX10_begin 72 = .ok (.iconst 0, 1) := by decide +kernel
theorem dX10_begin_73 : decode cX10_begin 73 = .ok (.invokestatic 58, 3) := by decide +kernel
theorem dX10_begin_76 : decode cX10_begin 76 = .ok (.return_, 1) := by decide +kernel
theorem dX10_copyFrom_0 : decode cX10_copyFrom 0 = .ok (.aload_n 0, 1) := by decide +kernel
theorem dX10_copyFrom_1 : decode cX10_copyFrom 1 = .ok (.aload_n 1, 1) := by decide +kernel
theorem dX10_copyFrom_2 : decode cX10_copyFrom 2 = .ok (.getfield 27, 3) := by decide +kernel
theorem dX10_copyFrom_5 : decode cX10_copyFrom 5 = .ok (.putfield 27, 3) := by decide +kernel
theorem dX10_copyFrom_8 : decode cX10_copyFrom 8 = .ok (.aload_n 0, 1) := by decide +kernel
theorem dX10_copyFrom_9 : decode cX10_copyFrom 9 = .ok (.aload_n 1, 1) := by decide +kernel
theorem dX10_copyFrom_10 : decode cX10_copyFrom 10 = .ok (.getfield 31, 3) := by decide +kernel
theorem dX10_copyFrom_13 : decode cX10_copyFrom 13 = .ok (.putfield 31, 3) := by decide +kernel
theorem dX10_copyFrom_16 : decode cX10_copyFrom 16 = .ok (.aload_n 0, 1) := by decide +kernel
theorem dX10_copyFrom_17 : decode cX10_copyFrom 17 = .ok (.aload_n 1, 1) := by decide +kernel
theorem dX10_copyFrom_18 : decode cX10_copyFrom 18 = .ok (.getfield 40, 3) := by decide +kernel
theorem dX10_copyFrom_21 : decode cX10_copyFrom 21 = .ok (.putfield 40, 3) := by decide +kernel
theorem dX10_copyFrom_24 : decode cX10_copyFrom 24 = .ok (.aload_n 1, 1) := by decide +kernel
theorem dX10_copyFrom_25 : decode cX10_copyFrom 25 = .ok (.getfield 9, 3) := by decide +kernel
theorem dX10_copyFrom_28 : decode cX10_copyFrom 28 = .ok (.iconst 0, 1) := by decide +kernel
theorem dX10_copyFrom_29 : decode cX10_copyFrom 29 = .ok (.aload_n 0, 1) := by decide +kernel
theorem dX10_copyFrom_30 : decode cX10_copyFrom 30 = .ok (.getfield 9, 3) := by decide +kernel
theorem dX10_copyFrom_33 : decode cX10_copyFrom 33 = .ok (.iconst 0, 1) := by decide +kernel
theorem dX10_copyFrom_34 : decode cX10_copyFrom 34 = .ok (.iconst 4, 1) := by decide +kernel
theorem dX10_copyFrom_35 : decode cX10_copyFrom 35 = .ok (.invokestatic 46, 3) := by decide +kernel
theorem dX10_copyFrom_38 : decode cX10_copyFrom 38 = .ok (.aload_n 1, 1) := by decide +kernel
theorem dX10_copyFrom_39 : decode cX10_copyFrom 39 = .ok (.getfield 15, 3) := by decide +kernel
theorem dX10_copyFrom_42 : decode cX10_copyFrom 42 = .ok (.iconst 0, 1) := by decide +kernel
theorem dX10_copyFrom_43 : decode cX10_copyFrom 43 = .ok (.aload_n 0, 1) := by decide +kernel
theorem dX10_copyFrom_44 : decode cX10_copyFrom 44 = .ok (.getfield 15, 3) := by decide +kernel
theorem dX10_copyFrom_47 : decode cX10_copyFrom 47 = .ok (.iconst 0, 1) := by decide +kernel
theorem dX10_copyFrom_48 : decode cX10_copyFrom 48 = .ok (.iconst 4, 1) := by decide +kernel
theorem dX10_copyFrom_49 : decode cX10_copyFrom 49 = .ok (.invokestatic 46, 3) := by decide +kernel
theorem dX10_copyFrom_52 : decode cX10_copyFrom 52 = .ok (.aload_n 1, 1) := by decide +kernel
theorem dX10_copyFrom_53 : decode cX10_copyFrom 53 = .ok (.getfield 18, 3) := by decide +kernel
theorem dX10_copyFrom_56 : decode cX10_copyFrom 56 = .ok (.iconst 0, 1) := by decide +kernel
theorem dX10_copyFrom_57 : decode cX10_copyFrom 57 = .ok (.aload_n 0, 1) := by decide +kernel
theorem dX10_copyFrom_58 : decode cX10_copyFrom 58 = .ok (.getfield 18, 3) := by decide +kernel
theorem dX10_copyFrom_61 : decode cX10_copyFrom 61 = .ok (.iconst 0, 1) := by decide +kernel
theorem dX10_copyFrom_62 : decode cX10_copyFrom 62 = .ok (.iconst 4, 1) := by decide +kernel
theorem dX10_copyFrom_63 : decode cX10_copyFrom 63 = .ok (.invokestatic 46, 3) := by decide +kernel
theorem dX10_copyFrom_66 : decode cX10_copyFrom 66 = .ok (.aload_n 1, 1) := by decide +kernel
theorem dX10_copyFrom_67 : decode cX10_copyFrom 67 = .ok (.getfield 21, 3) := by decide +kernel
theorem dX10_copyFrom_70 : decode cX10_copyFrom 70 = .ok (.iconst 0, 1) := by decide +kernel
theorem dX10_copyFrom_71 : decode cX10_copyFrom 71 = .ok (.aload_n 0, 1) := by decide +kernel
theorem dX10_copyFrom_72 : decode cX10_copyFrom 72 = .ok (.getfield 21, 3) := by decide +kernel
theorem dX10_copyFrom_75 : decode cX10_copyFrom 75 = .ok (.iconst 0, 1) := by decide +kernel
theorem dX10_copyFrom_76 : decode cX10_copyFrom 76 = .ok (.iconst 4, 1) := by decide +kernel
theorem dX10_copyFrom_77 : decode cX10_copyFrom 77 = .ok (.invokestatic 46, 3) := by decide +kernel
theorem dX10_copyFrom_80 : decode cX10_copyFrom 80 = .ok (.aload_n 1, 1) := by decide +kernel
theorem dX10_copyFrom_81 : decode cX10_copyFrom 81 = .ok (.getfield 24, 3) := by decide +kernel
theorem dX10_copyFrom_84 : decode cX10_copyFrom 84 = .ok (.iconst 0, 1) := by decide +kernel
theorem dX10_copyFrom_85 : decode cX10_copyFrom 85 = .ok (.aload_n 0, 1) := by decide +kernel
theorem dX10_copyFrom_86 : decode cX10_copyFrom 86 = .ok (.getfield 24, 3) := by decide +kernel
theorem dX10_copyFrom_89 : decode cX10_copyFrom 89 = .ok (.iconst 0, 1) := by decide +kernel
theorem dX10_copyFrom_90 : decode cX10_copyFrom 90 = .ok (.bipush 9, 2) := by decide +kernel
theorem dX10_copyFrom_92 : decode cX10_copyFrom 92 = .ok (.invokestatic 46, 3) := by decide +kernel
theorem dX10_copyFrom_95 : decode cX10_copyFrom 95 = .ok (.return_, 1) := by decide +kernel
theorem dX10_isBroken_0 : decode cX10_isBroken 0 = .ok (.aload_n 0, 1) := by decide +kernel
theorem dX10_isBroken_1 : decode cX10_isBroken 1 = .ok (.getfield 40, 3) := by decide +kernel
theorem dX10_isBroken_4 : decode cX10_isBroken 4 = .ok (.iload_n 1, 1) := by decide +kernel
theorem dX10_isBroken_5 : decode cX10_isBroken 5 = .ok (.ishr, 1) := by decide +kernel
theorem dX10_isBroken_6 : decode cX10_isBroken 6 = .ok (.iconst 1, 1) := by decide +kernel
theorem dX10_isBroken_7 : decode cX10_isBroken 7 = .ok (.iand, 1) := by decide +kernel
theorem dX10_isBroken_8 : decode cX10_isBroken 8 = .ok (.ifCond .eq 7, 3) := by decide +kernel
theorem dX10_isBroken_11 : decode cX10_isBroken 11 = .ok (.iconst 1, 1) := by decide +kernel
theorem dX10_isBroken_12 : decode cX10_isBroken 12 = .ok (.goto 4, 3) := by decide +kernel
theorem dX10_isBroken_15 : decode cX10_isBroken 15 = .ok (.iconst 0, 1) := by decide +kernel
theorem dX10_isBroken_16 : decode cX10_isBroken 16 = .ok (.ireturn, 1) := by decide +kernel
theorem dX10_hasFallen_0 : decode cX10_hasFallen 0 = .ok (.aload_n 0, 1) := by decide +kernel
theorem dX10_hasFallen_1 : decode cX10_hasFallen 1 = .ok (.getfield 9, 3) := by decide +kernel
theorem dX10_hasFallen_4 : decode cX10_hasFallen 4 = .ok (.iload_n 1, 1) := by decide +kernel
theorem dX10_hasFallen_5 : decode cX10_hasFallen 5 = .ok (.iaload, 1) := by decide +kernel
theorem dX10_hasFallen_6 : decode cX10_hasFallen 6 = .ok (.iconst (-1), 1) := by decide +kernel
theorem dX10_hasFallen_7 : decode cX10_hasFallen 7 = .ok (.if_icmp .ne 7, 3) := by decide +kernel
theorem dX10_hasFallen_10 : decode cX10_hasFallen 10 = .ok (.iconst 1, 1) := by decide +kernel
theorem dX10_hasFallen_11 : decode cX10_hasFallen 11 = .ok (.goto 4, 3) := by decide +kernel
theorem dX10_hasFallen_14 : decode cX10_hasFallen 14 = .ok (.iconst 0, 1) := by decide +kernel
theorem dX10_hasFallen_15 : decode cX10_hasFallen 15 = .ok (.ireturn, 1) := by decide +kernel
theorem dX10_needsMending_0 : decode cX10_needsMending 0 = .ok (.aload_n 0, 1) := by decide +kernel
theorem dX10_needsMending_1 : decode cX10_needsMending 1 = .ok (.getfield 24, 3) := by decide +kernel
theorem dX10_needsMending_4 : decode cX10_needsMending 4 = .ok (.iload_n 1, 1) := by decide +kernel
theorem dX10_needsMending_5 : decode cX10_needsMending 5 = .ok (.iaload, 1) := by decide +kernel
theorem dX10_needsMending_6 : decode cX10_needsMending 6 = .ok (.ifCond .gt 11, 3) := by decide +kernel
theorem dX10_needsMending_9 : decode cX10_needsMending 9 = .ok (.aload_n 0, 1) := by decide +kernel
theorem dX10_needsMending_10 : decode cX10_needsMending 10 = .ok (.iload_n 1, 1) := by decide +kernel
theorem dX10_needsMending_11 : decode cX10_needsMending 11 = .ok (.invokevirtual 64, 3) := by decide +kernel
theorem dX10_needsMending_14 : decode cX10_needsMending 14 = .ok (.ifCond .eq 7, 3) := by decide +kernel
theorem dX10_needsMending_17 : decode cX10_needsMending 17 = .ok (.iconst 1, 1) := by decide +kernel
theorem dX10_needsMending_18 : decode cX10_needsMending 18 = .ok (.goto 4, 3) := by decide +kernel
theorem dX10_needsMending_21 : decode cX10_needsMending 21 = .ok (.iconst 0, 1) := by decide +kernel
theorem dX10_needsMending_22 : decode cX10_needsMending 22 = .ok (.ireturn, 1) := by decide +kernel
theorem dX10_whoIsOn_0 : decode cX10_whoIsOn 0 = .ok (.iconst 0, 1) := by decide +kernel
theorem dX10_whoIsOn_1 : decode cX10_whoIsOn 1 = .ok (.istore_n 2, 1) := by decide +kernel
theorem dX10_whoIsOn_2 : decode cX10_whoIsOn 2 = .ok (.iconst 0, 1) := by decide +kernel
theorem dX10_whoIsOn_3 : decode cX10_whoIsOn 3 = .ok (.istore_n 3, 1) := by decide +kernel
theorem dX10_whoIsOn_4 : decode cX10_whoIsOn 4 = .ok (.iload_n 3, 1) := by decide +kernel
theorem dX10_whoIsOn_5 : decode cX10_whoIsOn 5 = .ok (.aload_n 0, 1) := by decide +kernel
theorem dX10_whoIsOn_6 : decode cX10_whoIsOn 6 = .ok (.getfield 27, 3) := by decide +kernel
theorem dX10_whoIsOn_9 : decode cX10_whoIsOn 9 = .ok (.getfield 68, 3) := by decide +kernel
theorem dX10_whoIsOn_12 : decode cX10_whoIsOn 12 = .ok (.if_icmp .ge 25, 3) := by decide +kernel
theorem dX10_whoIsOn_15 : decode cX10_whoIsOn 15 = .ok (.aload_n 0, 1) := by decide +kernel
theorem dX10_whoIsOn_16 : decode cX10_whoIsOn 16 = .ok (.getfield 9, 3) := by decide +kernel
theorem dX10_whoIsOn_19 : decode cX10_whoIsOn 19 = .ok (.iload_n 3, 1) := by decide +kernel
theorem dX10_whoIsOn_20 : decode cX10_whoIsOn 20 = .ok (.iaload, 1) := by decide +kernel
theorem dX10_whoIsOn_21 : decode cX10_whoIsOn 21 = .ok (.iload_n 1, 1) := by decide +kernel
theorem dX10_whoIsOn_22 : decode cX10_whoIsOn 22 = .ok (.if_icmp .ne 9, 3) := by decide +kernel
theorem dX10_whoIsOn_25 : decode cX10_whoIsOn 25 = .ok (.iload_n 2, 1) := by decide +kernel
theorem dX10_whoIsOn_26 : decode cX10_whoIsOn 26 = .ok (.iconst 1, 1) := by decide +kernel
theorem dX10_whoIsOn_27 : decode cX10_whoIsOn 27 = .ok (.iload_n 3, 1) := by decide +kernel
theorem dX10_whoIsOn_28 : decode cX10_whoIsOn 28 = .ok (.ishl, 1) := by decide +kernel
theorem dX10_whoIsOn_29 : decode cX10_whoIsOn 29 = .ok (.ior, 1) := by decide +kernel
theorem dX10_whoIsOn_30 : decode cX10_whoIsOn 30 = .ok (.istore_n 2, 1) := by decide +kernel
theorem dX10_whoIsOn_31 : decode cX10_whoIsOn 31 = .ok (.iinc 3 1, 3) := by decide +kernel
theorem dX10_whoIsOn_34 : decode cX10_whoIsOn 34 = .ok (.goto (-30), 3) := by decide +kernel
theorem dX10_whoIsOn_37 : decode cX10_whoIsOn 37 = .ok (.iload_n 2, 1) := by decide +kernel
theorem dX10_whoIsOn_38 : decode cX10_whoIsOn 38 = .ok (.ireturn, 1) := by decide +kernel
theorem dX10_crowdOn_0 : decode cX10_crowdOn 0 = .ok (.iconst 0, 1) := by decide +kernel
theorem dX10_crowdOn_1 : decode cX10_crowdOn 1 = .ok (.istore_n 2, 1) := by decide +kernel
theorem dX10_crowdOn_2 : decode cX10_crowdOn 2 = .ok (.iconst 0, 1) := by decide +kernel
theorem dX10_crowdOn_3 : decode cX10_crowdOn 3 = .ok (.istore_n 3, 1) := by decide +kernel
theorem dX10_crowdOn_4 : decode cX10_crowdOn 4 = .ok (.iload_n 3, 1) := by decide +kernel
theorem dX10_crowdOn_5 : decode cX10_crowdOn 5 = .ok (.aload_n 0, 1) := by decide +kernel
theorem dX10_crowdOn_6 : decode cX10_crowdOn 6 = .ok (.getfield 27, 3) := by decide +kernel
theorem dX10_crowdOn_9 : decode cX10_crowdOn 9 = .ok (.getfield 68, 3) := by decide +kernel
theorem dX10_crowdOn_12 : decode cX10_crowdOn 12 = .ok (.if_icmp .ge 22, 3) := by decide +kernel
theorem dX10_crowdOn_15 : decode cX10_crowdOn 15 = .ok (.aload_n 0, 1) := by decide +kernel
theorem dX10_crowdOn_16 : decode cX10_crowdOn 16 = .ok (.getfield 9, 3) := by decide +kernel
theorem dX10_crowdOn_19 : decode cX10_crowdOn 19 = .ok (.iload_n 3, 1) := by decide +kernel
theorem dX10_crowdOn_20 : decode cX10_crowdOn 20 = .ok (.iaload, 1) := by decide +kernel
theorem dX10_crowdOn_21 : decode cX10_crowdOn 21 = .ok (.iload_n 1, 1) := by decide +kernel
theorem dX10_crowdOn_22 : decode cX10_crowdOn 22 = .ok (.if_icmp .ne 6, 3) := by decide +kernel
theorem dX10_crowdOn_25 : decode cX10_crowdOn 25 = .ok (.iinc 2 1, 3) := by decide +kernel
theorem dX10_crowdOn_28 : decode cX10_crowdOn 28 = .ok (.iinc 3 1, 3) := by decide +kernel
theorem dX10_crowdOn_31 : decode cX10_crowdOn 31 = .ok (.goto (-27), 3) := by decide +kernel
theorem dX10_crowdOn_34 : decode cX10_crowdOn 34 = .ok (.iload_n 2, 1) := by decide +kernel
theorem dX10_crowdOn_35 : decode cX10_crowdOn 35 = .ok (.ireturn, 1) := by decide +kernel
theorem dX10_weightOn_0 : decode cX10_weightOn 0 = .ok (.iconst 0, 1) := by decide +kernel
theorem dX10_weightOn_1 : decode cX10_weightOn 1 = .ok (.istore_n 2, 1) := by decide +kernel
theorem dX10_weightOn_2 : decode cX10_weightOn 2 = .ok (.iconst 0, 1) := by decide +kernel
theorem dX10_weightOn_3 : decode cX10_weightOn 3 = .ok (.istore_n 3, 1) := by decide +kernel
theorem dX10_weightOn_4 : decode cX10_weightOn 4 = .ok (.iload_n 3, 1) := by decide +kernel
theorem dX10_weightOn_5 : decode cX10_weightOn 5 = .ok (.aload_n 0, 1) := by decide +kernel
theorem dX10_weightOn_6 : decode cX10_weightOn 6 = .ok (.getfield 27, 3) := by decide +kernel
theorem dX10_weightOn_9 : decode cX10_weightOn 9 = .ok (.getfield 68, 3) := by decide +kernel
theorem dX10_weightOn_12 : decode cX10_weightOn 12 = .ok (.if_icmp .ge 31, 3) := by decide +kernel
theorem dX10_weightOn_15 : decode cX10_weightOn 15 = .ok (.aload_n 0, 1) := by decide +kernel
theorem dX10_weightOn_16 : decode cX10_weightOn 16 = .ok (.getfield 9, 3) := by decide +kernel
theorem dX10_weightOn_19 : decode cX10_weightOn 19 = .ok (.iload_n 3, 1) := by decide +kernel
theorem dX10_weightOn_20 : decode cX10_weightOn 20 = .ok (.iaload, 1) := by decide +kernel
theorem dX10_weightOn_21 : decode cX10_weightOn 21 = .ok (.iload_n 1, 1) := by decide +kernel
theorem dX10_weightOn_22 : decode cX10_weightOn 22 = .ok (.if_icmp .ne 15, 3) := by decide +kernel
theorem dX10_weightOn_25 : decode cX10_weightOn 25 = .ok (.iload_n 2, 1) := by decide +kernel
theorem dX10_weightOn_26 : decode cX10_weightOn 26 = .ok (.aload_n 0, 1) := by decide +kernel
theorem dX10_weightOn_27 : decode cX10_weightOn 27 = .ok (.getfield 27, 3) := by decide +kernel
theorem dX10_weightOn_30 : decode cX10_weightOn 30 = .ok (.getfield 71, 3) := by decide +kernel
theorem dX10_weightOn_33 : decode cX10_weightOn 33 = .ok (.iload_n 3, 1) := by decide +kernel
theorem dX10_weightOn_34 : decode cX10_weightOn 34 = .ok (.iaload, 1) := by decide +kernel
theorem dX10_weightOn_35 : decode cX10_weightOn 35 = .ok (.iadd, 1) := by decide +kernel
theorem dX10_weightOn_36 : decode cX10_weightOn 36 = .ok (.istore_n 2, 1) := by decide +kernel
theorem dX10_weightOn_37 : decode cX10_weightOn 37 = .ok (.iinc 3 1, 3) := by decide +kernel
theorem dX10_weightOn_40 : decode cX10_weightOn 40 = .ok (.goto (-36), 3) := by decide +kernel
theorem dX10_weightOn_43 : decode cX10_weightOn 43 = .ok (.iload_n 2, 1) := by decide +kernel
theorem dX10_weightOn_44 : decode cX10_weightOn 44 = .ok (.ireturn, 1) := by decide +kernel
theorem dX10_whoIsLeft_0 : decode cX10_whoIsLeft 0 = .ok (.iconst 0, 1) := by decide +kernel
theorem dX10_whoIsLeft_1 : decode cX10_whoIsLeft 1 = .ok (.istore_n 1, 1) := by decide +kernel
theorem dX10_whoIsLeft_2 : decode cX10_whoIsLeft 2 = .ok (.iconst 0, 1) := by decide +kernel
theorem dX10_whoIsLeft_3 : decode cX10_whoIsLeft 3 = .ok (.istore_n 2, 1) := by decide +kernel
theorem dX10_whoIsLeft_4 : decode cX10_whoIsLeft 4 = .ok (.iload_n 2, 1) := by decide +kernel
theorem dX10_whoIsLeft_5 : decode cX10_whoIsLeft 5 = .ok (.aload_n 0, 1) := by decide +kernel
theorem dX10_whoIsLeft_6 : decode cX10_whoIsLeft 6 = .ok (.getfield 27, 3) := by decide +kernel
theorem dX10_whoIsLeft_9 : decode cX10_whoIsLeft 9 = .ok (.getfield 68, 3) := by decide +kernel
theorem dX10_whoIsLeft_12 : decode cX10_whoIsLeft 12 = .ok (.if_icmp .ge 23, 3) := by decide +kernel
theorem dX10_whoIsLeft_15 : decode cX10_whoIsLeft 15 = .ok (.aload_n 0, 1) := by decide +kernel
theorem dX10_whoIsLeft_16 : decode cX10_whoIsLeft 16 = .ok (.iload_n 2, 1) := by decide +kernel
theorem dX10_whoIsLeft_17 : decode cX10_whoIsLeft 17 = .ok (.invokevirtual 74, 3) := by decide +kernel
theorem dX10_whoIsLeft_20 : decode cX10_whoIsLeft 20 = .ok (.ifCond .ne 9, 3) := by decide +kernel
theorem dX10_whoIsLeft_23 : decode cX10_whoIsLeft 23 = .ok (.iload_n 1, 1) := by decide +kernel
theorem dX10_whoIsLeft_24 : decode cX10_whoIsLeft 24 = .ok (.iconst 1, 1) := by decide +kernel
theorem dX10_whoIsLeft_25 : decode cX10_whoIsLeft 25 = .ok (.iload_n 2, 1) := by decide +kernel
theorem dX10_whoIsLeft_26 : decode cX10_whoIsLeft 26 = .ok (.ishl, 1) := by decide +kernel
theorem dX10_whoIsLeft_27 : decode cX10_whoIsLeft 27 = .ok (.ior, 1) := by decide +kernel
theorem dX10_whoIsLeft_28 : decode cX10_whoIsLeft 28 = .ok (.istore_n 1, 1) := by decide +kernel
theorem dX10_whoIsLeft_29 : decode cX10_whoIsLeft 29 = .ok (.iinc 2 1, 3) := by decide +kernel
theorem dX10_whoIsLeft_32 : decode cX10_whoIsLeft 32 = .ok (.goto (-28), 3) := by decide +kernel
theorem dX10_whoIsLeft_35 : decode cX10_whoIsLeft 35 = .ok (.iload_n 1, 1) := by decide +kernel
theorem dX10_whoIsLeft_36 : decode cX10_whoIsLeft 36 = .ok (.ireturn, 1) := by decide +kernel
theorem dX10_allSlips_0 : decode cX10_allSlips 0 = .ok (.iconst 0, 1) := by decide +kernel
theorem dX10_allSlips_1 : decode cX10_allSlips 1 = .ok (.istore_n 1, 1) := by decide +kernel
theorem dX10_allSlips_2 : decode cX10_allSlips 2 = .ok (.iconst 0, 1) := by decide +kernel
theorem dX10_allSlips_3 : decode cX10_allSlips 3 = .ok (.istore_n 2, 1) := by decide +kernel
theorem dX10_allSlips_4 : decode cX10_allSlips 4 = .ok (.iload_n 2, 1) := by decide +kernel
theorem dX10_allSlips_5 : decode cX10_allSlips 5 = .ok (.aload_n 0, 1) := by decide +kernel
theorem dX10_allSlips_6 : decode cX10_allSlips 6 = .ok (.getfield 27, 3) := by decide +kernel
theorem dX10_allSlips_9 : decode cX10_allSlips 9 = .ok (.getfield 68, 3) := by decide +kernel
theorem dX10_allSlips_12 : decode cX10_allSlips 12 = .ok (.if_icmp .ge 18, 3) := by decide +kernel
theorem dX10_allSlips_15 : decode cX10_allSlips 15 = .ok (.iload_n 1, 1) := by decide +kernel
theorem dX10_allSlips_16 : decode cX10_allSlips 16 = .ok (.aload_n 0, 1) := by decide +kernel
theorem dX10_allSlips_17 : decode cX10_allSlips 17 = .ok (.getfield 21, 3) := by decide +kernel
theorem dX10_allSlips_20 : decode cX10_allSlips 20 = .ok (.iload_n 2, 1) := by decide +kernel
theorem dX10_allSlips_21 : decode cX10_allSlips 21 = .ok (.iaload, 1) := by decide +kernel
theorem dX10_allSlips_22 : decode cX10_allSlips 22 = .ok (.iadd, 1) := by decide +kernel
theorem dX10_allSlips_23 : decode cX10_allSlips 23 = .ok (.istore_n 1, 1) := by decide +kernel
theorem dX10_allSlips_24 : decode cX10_allSlips 24 = .ok (.iinc 2 1, 3) := by decide +kernel
theorem dX10_allSlips_27 : decode cX10_allSlips 27 = .ok (.goto (-23), 3) := by decide +kernel
theorem dX10_allSlips_30 : decode cX10_allSlips 30 = .ok (.iload_n 1, 1) := by decide +kernel
theorem dX10_allSlips_31 : decode cX10_allSlips 31 = .ok (.ireturn, 1) := by decide +kernel
theorem dX10_allWorn_0 : decode cX10_allWorn 0 = .ok (.iconst 0, 1) := by decide +kernel
theorem dX10_allWorn_1 : decode cX10_allWorn 1 = .ok (.istore_n 1, 1) := by decide +kernel
theorem dX10_allWorn_2 : decode cX10_allWorn 2 = .ok (.iconst 0, 1) := by decide +kernel
theorem dX10_allWorn_3 : decode cX10_allWorn 3 = .ok (.istore_n 2, 1) := by decide +kernel
theorem dX10_allWorn_4 : decode cX10_allWorn 4 = .ok (.iload_n 2, 1) := by decide +kernel
theorem dX10_allWorn_5 : decode cX10_allWorn 5 = .ok (.aload_n 0, 1) := by decide +kernel
theorem dX10_allWorn_6 : decode cX10_allWorn 6 = .ok (.getfield 27, 3) := by decide +kernel
theorem dX10_allWorn_9 : decode cX10_allWorn 9 = .ok (.getfield 77, 3) := by decide +kernel
theorem dX10_allWorn_12 : decode cX10_allWorn 12 = .ok (.if_icmp .ge 18, 3) := by decide +kernel
theorem dX10_allWorn_15 : decode cX10_allWorn 15 = .ok (.iload_n 1, 1) := by decide +kernel
theorem dX10_allWorn_16 : decode cX10_allWorn 16 = .ok (.aload_n 0, 1) := by decide +kernel
theorem dX10_allWorn_17 : decode cX10_allWorn 17 = .ok (.getfield 24, 3) := by decide +kernel
theorem dX10_allWorn_20 : decode cX10_allWorn 20 = .ok (.iload_n 2, 1) := by decide +kernel
theorem dX10_allWorn_21 : decode cX10_allWorn 21 = .ok (.iaload, 1) := by decide +kernel
theorem dX10_allWorn_22 : decode cX10_allWorn 22 = .ok (.iadd, 1) := by decide +kernel
theorem dX10_allWorn_23 : decode cX10_allWorn 23 = .ok (.istore_n 1, 1) := by decide +kernel
theorem dX10_allWorn_24 : decode cX10_allWorn 24 = .ok (.iinc 2 1, 3) := by decide +kernel
theorem dX10_allWorn_27 : decode cX10_allWorn 27 = .ok (.goto (-23), 3) := by decide +kernel
theorem dX10_allWorn_30 : decode cX10_allWorn 30 = .ok (.iload_n 1, 1) := by decide +kernel
theorem dX10_allWorn_31 : decode cX10_allWorn 31 = .ok (.ireturn, 1) := by decide +kernel
theorem dX10_beside_0 : decode cX10_beside 0 = .ok (.iload_n 1, 1) := by decide +kernel
theorem dX10_beside_1 : decode cX10_beside 1 = .ok (.iload_n 2, 1) := by decide +kernel
theorem dX10_beside_2 : decode cX10_beside 2 = .ok (.iadd, 1) := by decide +kernel
theorem dX10_beside_3 : decode cX10_beside 3 = .ok (.istore_n 3, 1) := by decide +kernel
theorem dX10_beside_4 : decode cX10_beside 4 = .ok (.iload_n 3, 1) := by decide +kernel
theorem dX10_beside_5 : decode cX10_beside 5 = .ok (.iload_n 2, 1) := by decide +kernel
theorem dX10_beside_6 : decode cX10_beside 6 = .ok (.iadd, 1) := by decide +kernel
theorem dX10_beside_7 : decode cX10_beside 7 = .ok (.istore 4, 2) := by decide +kernel
theorem dX10_beside_9 : decode cX10_beside 9 = .ok (.iload_n 1, 1) := by decide +kernel
theorem dX10_beside_10 : decode cX10_beside 10 = .ok (.ifCond .lt 18, 3) := by decide +kernel
theorem dX10_beside_13 : decode cX10_beside 13 = .ok (.iload_n 3, 1) := by decide +kernel
theorem dX10_beside_14 : decode cX10_beside 14 = .ok (.ifCond .lt 14, 3) := by decide +kernel
theorem dX10_beside_17 : decode cX10_beside 17 = .ok (.iload_n 3, 1) := by decide +kernel
theorem dX10_beside_18 : decode cX10_beside 18 = .ok (.aload_n 0, 1) := by decide +kernel
theorem dX10_beside_19 : decode cX10_beside 19 = .ok (.getfield 27, 3) := by decide +kernel
theorem dX10_beside_22 : decode cX10_beside 22 = .ok (.getfield 77, 3) := by decide +kernel
theorem dX10_beside_25 : decode cX10_beside 25 = .ok (.if_icmp .lt 5, 3) := by decide +kernel
theorem dX10_beside_28 : decode cX10_beside 28 = .ok (.iconst (-1), 1) := by decide +kernel
theorem dX10_beside_29 : decode cX10_beside 29 = .ok (.ireturn, 1) := by decide +kernel
theorem dX10_beside_30 : decode cX10_beside 30 = .ok (.aload_n 0, 1) := by decide +kernel
theorem dX10_beside_31 : decode cX10_beside 31 = .ok (.getfield 40, 3) := by decide +kernel
theorem dX10_beside_34 : decode cX10_beside 34 = .ok (.iload_n 3, 1) := by decide +kernel
theorem dX10_beside_35 : decode cX10_beside 35 = .ok (.ishr, 1) := by decide +kernel
theorem dX10_beside_36 : decode cX10_beside 36 = .ok (.iconst 1, 1) := by decide +kernel
theorem dX10_beside_37 : decode cX10_beside 37 = .ok (.iand, 1) := by decide +kernel
theorem dX10_beside_38 : decode cX10_beside 38 = .ok (.ifCond .ne 5, 3) := by decide +kernel
theorem dX10_beside_41 : decode cX10_beside 41 = .ok (.iload_n 3, 1) := by decide +kernel
theorem dX10_beside_42 : decode cX10_beside 42 = .ok (.ireturn, 1) := by decide +kernel
theorem dX10_beside_43 : decode cX10_beside 43 = .ok (.iload 4, 2) := by decide +kernel
theorem dX10_beside_45 : decode cX10_beside 45 = .ok (.ifCond .lt 19, 3) := by decide +kernel
theorem dX10_beside_48 : decode cX10_beside 48 = .ok (.iload 4, 2) := by decide +kernel
theorem dX10_beside_50 : decode cX10_beside 50 = .ok (.aload_n 0, 1) := by decide +kernel
theorem dX10_beside_51 : decode cX10_beside 51 = .ok (.getfield 27, 3) := by decide +kernel
theorem dX10_beside_54 : decode cX10_beside 54 = .ok (.getfield 77, 3) := by decide +kernel
theorem dX10_beside_57 : decode cX10_beside 57 = .ok (.if_icmp .ge 7, 3) := by decide +kernel
theorem dX10_beside_60 : decode cX10_beside 60 = .ok (.iconst 1, 1) := by decide +kernel
theorem dX10_beside_61 : decode cX10_beside 61 = .ok (.goto 4, 3) := by decide +kernel
theorem dX10_beside_64 : decode cX10_beside 64 = .ok (.iconst 0, 1) := by decide +kernel
theorem dX10_beside_65 : decode cX10_beside 65 = .ok (.istore 5, 2) := by decide +kernel
theorem dX10_beside_67 : decode cX10_beside 67 = .ok (.iload 5, 2) := by decide +kernel
theorem dX10_beside_69 : decode cX10_beside 69 = .ok (.ifCond .eq 20, 3) := by decide +kernel
theorem dX10_beside_72 : decode cX10_beside 72 = .ok (.aload_n 0, 1) := by decide +kernel
theorem dX10_beside_73 : decode cX10_beside 73 = .ok (.getfield 40, 3) := by decide +kernel
theorem dX10_beside_76 : decode cX10_beside 76 = .ok (.iload 4, 2) := by decide +kernel
theorem dX10_beside_78 : decode cX10_beside 78 = .ok (.ishr, 1) := by decide +kernel
theorem dX10_beside_79 : decode cX10_beside 79 = .ok (.iconst 1, 1) := by decide +kernel
theorem dX10_beside_80 : decode cX10_beside 80 = .ok (.iand, 1) := by decide +kernel
theorem dX10_beside_81 : decode cX10_beside 81 = .ok (.ifCond .ne 8, 3) := by decide +kernel
theorem dX10_beside_84 : decode cX10_beside 84 = .ok (.iload 4, 2) := by decide +kernel
theorem dX10_beside_86 : decode cX10_beside 86 = .ok (.goto 4, 3) := by decide +kernel
theorem dX10_beside_89 : decode cX10_beside 89 = .ok (.iconst (-1), 1) := by decide +kernel
theorem dX10_beside_90 : decode cX10_beside 90 = .ok (.ireturn, 1) := by decide +kernel
theorem dX10_hasRoom_0 : decode cX10_hasRoom 0 = .ok (.aload_n 0, 1) := by decide +kernel
theorem dX10_hasRoom_1 : decode cX10_hasRoom 1 = .ok (.iload_n 1, 1) := by decide +kernel
theorem dX10_hasRoom_2 : decode cX10_hasRoom 2 = .ok (.invokevirtual 80, 3) := by decide +kernel
theorem dX10_hasRoom_5 : decode cX10_hasRoom 5 = .ok (.aload_n 0, 1) := by decide +kernel
theorem dX10_hasRoom_6 : decode cX10_hasRoom 6 = .ok (.getfield 27, 3) := by decide +kernel
theorem dX10_hasRoom_9 : decode cX10_hasRoom 9 = .ok (.getfield 84, 3) := by decide +kernel
theorem dX10_hasRoom_12 : decode cX10_hasRoom 12 = .ok (.iload_n 1, 1) := by decide +kernel
theorem dX10_hasRoom_13 : decode cX10_hasRoom 13 = .ok (.iaload, 1) := by decide +kernel
theorem dX10_hasRoom_14 : decode cX10_hasRoom 14 = .ok (.if_icmp .ge 7, 3) := by decide +kernel
theorem dX10_hasRoom_17 : decode cX10_hasRoom 17 = .ok (.iconst 1, 1) := by decide +kernel
theorem dX10_hasRoom_18 : decode cX10_hasRoom 18 = .ok (.goto 4, 3) := by decide +kernel
theorem dX10_hasRoom_21 : decode cX10_hasRoom 21 = .ok (.iconst 0, 1) := by decide +kernel
theorem dX10_hasRoom_22 : decode cX10_hasRoom 22 = .ok (.ireturn, 1) := by decide +kernel
theorem dX10_stepGoal_0 : decode cX10_stepGoal 0 = .ok (.aload_n 0, 1) := by decide +kernel
theorem dX10_stepGoal_1 : decode cX10_stepGoal 1 = .ok (.aload_n 0, 1) := by decide +kernel
theorem dX10_stepGoal_2 : decode cX10_stepGoal 2 = .ok (.getfield 9, 3) := by decide +kernel
theorem dX10_stepGoal_5 : decode cX10_stepGoal 5 = .ok (.iload_n 1, 1) := by decide +kernel
theorem dX10_stepGoal_6 : decode cX10_stepGoal 6 = .ok (.iaload, 1) := by decide +kernel
theorem dX10_stepGoal_7 : decode cX10_stepGoal 7 = .ok (.iload_n 2, 1) := by decide +kernel
theorem dX10_stepGoal_8 : decode cX10_stepGoal 8 = .ok (.invokevirtual 87, 3) := by decide +kernel
theorem dX10_stepGoal_11 : decode cX10_stepGoal 11 = .ok (.istore_n 3, 1) := by decide +kernel
theorem dX10_stepGoal_12 : decode cX10_stepGoal 12 = .ok (.iload_n 3, 1) := by decide +kernel
theorem dX10_stepGoal_13 : decode cX10_stepGoal 13 = .ok (.iconst (-1), 1) := by decide +kernel
theorem dX10_stepGoal_14 : decode cX10_stepGoal 14 = .ok (.if_icmp .eq 15, 3) := by decide +kernel
theorem dX10_stepGoal_17 : decode cX10_stepGoal 17 = .ok (.aload_n 0, 1) := by decide +kernel
theorem dX10_stepGoal_18 : decode cX10_stepGoal 18 = .ok (.iload_n 3, 1) := by decide +kernel
theorem dX10_stepGoal_19 : decode cX10_stepGoal 19 = .ok (.invokevirtual 91, 3) := by decide +kernel
theorem dX10_stepGoal_22 : decode cX10_stepGoal 22 = .ok (.ifCond .eq 7, 3) := by decide +kernel
theorem dX10_stepGoal_25 : decode cX10_stepGoal 25 = .ok (.iload_n 3, 1) := by decide +kernel
theorem dX10_stepGoal_26 : decode cX10_stepGoal 26 = .ok (.goto 4, 3) := by decide +kernel
theorem dX10_stepGoal_29 : decode cX10_stepGoal 29 = .ok (.iconst (-1), 1) := by decide +kernel
theorem dX10_stepGoal_30 : decode cX10_stepGoal 30 = .ok (.ireturn, 1) := by decide +kernel
theorem dX10_canPass_0 : decode cX10_canPass 0 = .ok (.aload_n 0, 1) := by decide +kernel
theorem dX10_canPass_1 : decode cX10_canPass 1 = .ok (.iload_n 1, 1) := by decide +kernel
theorem dX10_canPass_2 : decode cX10_canPass 2 = .ok (.invokevirtual 74, 3) := by decide +kernel
theorem dX10_canPass_5 : decode cX10_canPass 5 = .ok (.ifCond .ne 11, 3) := by decide +kernel
theorem dX10_canPass_8 : decode cX10_canPass 8 = .ok (.aload_n 0, 1) := by decide +kernel
theorem dX10_canPass_9 : decode cX10_canPass 9 = .ok (.iload_n 2, 1) := by decide +kernel
theorem dX10_canPass_10 : decode cX10_canPass 10 = .ok (.invokevirtual 74, 3) := by decide +kernel
theorem dX10_canPass_13 : decode cX10_canPass 13 = .ok (.ifCond .eq 5, 3) := by decide +kernel
theorem dX10_canPass_16 : decode cX10_canPass 16 = .ok (.iconst 0, 1) := by decide +kernel
theorem dX10_canPass_17 : decode cX10_canPass 17 = .ok (.ireturn, 1) := by decide +kernel
theorem dX10_canPass_18 : decode cX10_canPass 18 = .ok (.aload_n 0, 1) := by decide +kernel
theorem dX10_canPass_19 : decode cX10_canPass 19 = .ok (.aload_n 0, 1) := by decide +kernel
theorem dX10_canPass_20 : decode cX10_canPass 20 = .ok (.getfield 9, 3) := by decide +kernel
theorem dX10_canPass_23 : decode cX10_canPass 23 = .ok (.iload_n 1, 1) := by decide +kernel
theorem dX10_canPass_24 : decode cX10_canPass 24 = .ok (.iaload, 1) := by decide +kernel
theorem dX10_canPass_25 : decode cX10_canPass 25 = .ok (.iconst 1, 1) := by decide +kernel
theorem dX10_canPass_26 : decode cX10_canPass 26 = .ok (.invokevirtual 87, 3) := by decide +kernel
theorem dX10_canPass_29 : decode cX10_canPass 29 = .ok (.aload_n 0, 1) := by decide +kernel
theorem dX10_canPass_30 : decode cX10_canPass 30 = .ok (.getfield 9, 3) := by decide +kernel
theorem dX10_canPass_33 : decode cX10_canPass 33 = .ok (.iload_n 2, 1) := by decide +kernel
theorem dX10_canPass_34 : decode cX10_canPass 34 = .ok (.iaload, 1) := by decide +kernel
theorem dX10_canPass_35 : decode cX10_canPass 35 = .ok (.if_icmp .eq 23, 3) := by decide +kernel
theorem dX10_canPass_38 : decode cX10_canPass 38 = .ok (.aload_n 0, 1) := by decide +kernel
theorem dX10_canPass_39 : decode cX10_canPass 39 = .ok (.aload_n 0, 1) := by decide +kernel
theorem dX10_canPass_40 : decode cX10_canPass 40 = .ok (.getfield 9, 3) := by decide +kernel
theorem dX10_canPass_43 : decode cX10_canPass 43 = .ok (.iload_n 2, 1) := by decide +kernel
theorem dX10_canPass_44 : decode cX10_canPass 44 = .ok (.iaload, 1) := by decide +kernel
theorem dX10_canPass_45 : decode cX10_canPass 45 = .ok (.iconst 1, 1) := by decide +kernel
theorem dX10_canPass_46 : decode cX10_canPass 46 = .ok (.invokevirtual 87, 3) := by decide +kernel
theorem dX10_canPass_49 : decode cX10_canPass 49 = .ok (.aload_n 0, 1) := by decide +kernel
theorem dX10_canPass_50 : decode cX10_canPass 50 = .ok (.getfield 9, 3) := by decide +kernel
theorem dX10_canPass_53 : decode cX10_canPass 53 = .ok (.iload_n 1, 1) := by decide +kernel
theorem dX10_canPass_54 : decode cX10_canPass 54 = .ok (.iaload, 1) := by decide +kernel
theorem dX10_canPass_55 : decode cX10_canPass 55 = .ok (.if_icmp .ne 7, 3) := by decide +kernel
theorem dX10_canPass_58 : decode cX10_canPass 58 = .ok (.iconst 1, 1) := by decide +kernel
theorem dX10_canPass_59 : decode cX10_canPass 59 = .ok (.goto 4, 3) := by decide +kernel
theorem dX10_canPass_62 : decode cX10_canPass 62 = .ok (.iconst 0, 1) := by decide +kernel
theorem dX10_canPass_63 : decode cX10_canPass 63 = .ok (.ireturn, 1) := by decide +kernel
theorem dX10_swap_0 : decode cX10_swap 0 = .ok (.aload_n 0, 1) := by decide +kernel
theorem dX10_swap_1 : decode cX10_swap 1 = .ok (.getfield 9, 3) := by decide +kernel
theorem dX10_swap_4 : decode cX10_swap 4 = .ok (.iload_n 1, 1) := by decide +kernel
theorem dX10_swap_5 : decode cX10_swap 5 = .ok (.iaload, 1) := by decide +kernel
theorem dX10_swap_6 : decode cX10_swap 6 = .ok (.istore_n 3, 1) := by decide +kernel
theorem dX10_swap_7 : decode cX10_swap 7 = .ok (.aload_n 0, 1) := by decide +kernel
theorem dX10_swap_8 : decode cX10_swap 8 = .ok (.getfield 9, 3) := by decide +kernel
theorem dX10_swap_11 : decode cX10_swap 11 = .ok (.iload_n 1, 1) := by decide +kernel
theorem dX10_swap_12 : decode cX10_swap 12 = .ok (.aload_n 0, 1) := by decide +kernel
theorem dX10_swap_13 : decode cX10_swap 13 = .ok (.getfield 9, 3) := by decide +kernel
theorem dX10_swap_16 : decode cX10_swap 16 = .ok (.iload_n 2, 1) := by decide +kernel
theorem dX10_swap_17 : decode cX10_swap 17 = .ok (.iaload, 1) := by decide +kernel
theorem dX10_swap_18 : decode cX10_swap 18 = .ok (.iastore, 1) := by decide +kernel
theorem dX10_swap_19 : decode cX10_swap 19 = .ok (.aload_n 0, 1) := by decide +kernel
theorem dX10_swap_20 : decode cX10_swap 20 = .ok (.getfield 9, 3) := by decide +kernel
theorem dX10_swap_23 : decode cX10_swap 23 = .ok (.iload_n 2, 1) := by decide +kernel
theorem dX10_swap_24 : decode cX10_swap 24 = .ok (.iload_n 3, 1) := by decide +kernel
theorem dX10_swap_25 : decode cX10_swap 25 = .ok (.iastore, 1) := by decide +kernel
theorem dX10_swap_26 : decode cX10_swap 26 = .ok (.return_, 1) := by decide +kernel
theorem dX10_slip_0 : decode cX10_slip 0 = .ok (.aload_n 0, 1) := by decide +kernel
theorem dX10_slip_1 : decode cX10_slip 1 = .ok (.getfield 9, 3) := by decide +kernel
theorem dX10_slip_4 : decode cX10_slip 4 = .ok (.iload_n 1, 1) := by decide +kernel
theorem dX10_slip_5 : decode cX10_slip 5 = .ok (.iaload, 1) := by decide +kernel
theorem dX10_slip_6 : decode cX10_slip 6 = .ok (.iconst 1, 1) := by decide +kernel
theorem dX10_slip_7 : decode cX10_slip 7 = .ok (.isub, 1) := by decide +kernel
theorem dX10_slip_8 : decode cX10_slip 8 = .ok (.istore_n 2, 1) := by decide +kernel
theorem dX10_slip_9 : decode cX10_slip 9 = .ok (.iload_n 2, 1) := by decide +kernel
theorem dX10_slip_10 : decode cX10_slip 10 = .ok (.ifCond .lt 17, 3) := by decide +kernel
theorem dX10_slip_13 : decode cX10_slip 13 = .ok (.aload_n 0, 1) := by decide +kernel
theorem dX10_slip_14 : decode cX10_slip 14 = .ok (.iload_n 2, 1) := by decide +kernel
theorem dX10_slip_15 : decode cX10_slip 15 = .ok (.invokevirtual 64, 3) := by decide +kernel
theorem dX10_slip_18 : decode cX10_slip 18 = .ok (.ifCond .eq 9, 3) := by decide +kernel
theorem dX10_slip_21 : decode cX10_slip 21 = .ok (.iinc 2 (-1), 3) := by decide +kernel
theorem dX10_slip_24 : decode cX10_slip 24 = .ok (.goto (-15), 3) := by decide +kernel
theorem dX10_slip_27 : decode cX10_slip 27 = .ok (.aload_n 0, 1) := by decide +kernel
theorem dX10_slip_28 : decode cX10_slip 28 = .ok (.getfield 9, 3) := by decide +kernel
theorem dX10_slip_31 : decode cX10_slip 31 = .ok (.iload_n 1, 1) := by decide +kernel
theorem dX10_slip_32 : decode cX10_slip 32 = .ok (.iconst (-1), 1) := by decide +kernel
theorem dX10_slip_33 : decode cX10_slip 33 = .ok (.iload_n 2, 1) := by decide +kernel
theorem dX10_slip_34 : decode cX10_slip 34 = .ok (.invokestatic 94, 3) := by decide +kernel
theorem dX10_slip_37 : decode cX10_slip 37 = .ok (.iastore, 1) := by decide +kernel
theorem dX10_slip_38 : decode cX10_slip 38 = .ok (.aload_n 0, 1) := by decide +kernel
theorem dX10_slip_39 : decode cX10_slip 39 = .ok (.getfield 21, 3) := by decide +kernel
theorem dX10_slip_42 : decode cX10_slip 42 = .ok (.iload_n 1, 1) := by decide +kernel
theorem dX10_slip_43 : decode cX10_slip 43 = .ok (.dup2, 1) := by decide +kernel
theorem dX10_slip_44 : decode cX10_slip 44 = .ok (.iaload, 1) := by decide +kernel
theorem dX10_slip_45 : decode cX10_slip 45 = .ok (.iconst 1, 1) := by decide +kernel
theorem dX10_slip_46 : decode cX10_slip 46 = .ok (.iadd, 1) := by decide +kernel
theorem dX10_slip_47 : decode cX10_slip 47 = .ok (.iastore, 1) := by decide +kernel
theorem dX10_slip_48 : decode cX10_slip 48 = .ok (.return_, 1) := by decide +kernel
theorem dX10_split_0 : decode cX10_split 0 = .ok (.aload_n 0, 1) := by decide +kernel
theorem dX10_split_1 : decode cX10_split 1 = .ok (.dup, 1) := by decide +kernel
theorem dX10_split_2 : decode cX10_split 2 = .ok (.getfield 40, 3) := by decide +kernel
theorem dX10_split_5 : decode cX10_split 5 = .ok (.iconst 1, 1) := by decide +kernel
theorem dX10_split_6 : decode cX10_split 6 = .ok (.iload_n 1, 1) := by decide +kernel
theorem dX10_split_7 : decode cX10_split 7 = .ok (.ishl, 1) := by decide +kernel
theorem dX10_split_8 : decode cX10_split 8 = .ok (.ior, 1) := by decide +kernel
theorem dX10_split_9 : decode cX10_split 9 = .ok (.putfield 40, 3) := by decide +kernel
theorem dX10_split_12 : decode cX10_split 12 = .ok (.iconst 0, 1) := by decide +kernel
theorem dX10_split_13 : decode cX10_split 13 = .ok (.istore_n 2, 1) := by decide +kernel
theorem dX10_split_14 : decode cX10_split 14 = .ok (.iconst 0, 1) := by decide +kernel
theorem dX10_split_15 : decode cX10_split 15 = .ok (.istore_n 3, 1) := by decide +kernel
theorem dX10_split_16 : decode cX10_split 16 = .ok (.iload_n 3, 1) := by decide +kernel
theorem dX10_split_17 : decode cX10_split 17 = .ok (.aload_n 0, 1) := by decide +kernel
theorem dX10_split_18 : decode cX10_split 18 = .ok (.getfield 27, 3) := by decide +kernel
theorem dX10_split_21 : decode cX10_split 21 = .ok (.getfield 68, 3) := by decide +kernel
theorem dX10_split_24 : decode cX10_split 24 = .ok (.if_icmp .ge 27, 3) := by decide +kernel
theorem dX10_split_27 : decode cX10_split 27 = .ok (.aload_n 0, 1) := by decide +kernel
theorem dX10_split_28 : decode cX10_split 28 = .ok (.getfield 9, 3) := by decide +kernel
theorem dX10_split_31 : decode cX10_split 31 = .ok (.iload_n 3, 1) := by decide +kernel
theorem dX10_split_32 : decode cX10_split 32 = .ok (.iaload, 1) := by decide +kernel
theorem dX10_split_33 : decode cX10_split 33 = .ok (.iload_n 1, 1) := by decide +kernel
theorem dX10_split_34 : decode cX10_split 34 = .ok (.if_icmp .ne 11, 3) := by decide +kernel
theorem dX10_split_37 : decode cX10_split 37 = .ok (.aload_n 0, 1) := by decide +kernel
theorem dX10_split_38 : decode cX10_split 38 = .ok (.iload_n 3, 1) := by decide +kernel
theorem dX10_split_39 : decode cX10_split 39 = .ok (.invokevirtual 99, 3) := by decide +kernel
theorem dX10_split_42 : decode cX10_split 42 = .ok (.iinc 2 1, 3) := by decide +kernel
theorem dX10_split_45 : decode cX10_split 45 = .ok (.iinc 3 1, 3) := by decide +kernel
theorem dX10_split_48 : decode cX10_split 48 = .ok (.goto (-32), 3) := by decide +kernel
theorem dX10_split_51 : decode cX10_split 51 = .ok (.iload_n 2, 1) := by decide +kernel
theorem dX10_split_52 : decode cX10_split 52 = .ok (.ireturn, 1) := by decide +kernel
theorem dX10_repair_0 : decode cX10_repair 0 = .ok (.aload_n 0, 1) := by decide +kernel
theorem dX10_repair_1 : decode cX10_repair 1 = .ok (.getfield 24, 3) := by decide +kernel
theorem dX10_repair_4 : decode cX10_repair 4 = .ok (.iload_n 1, 1) := by decide +kernel
theorem dX10_repair_5 : decode cX10_repair 5 = .ok (.dup2, 1) := by decide +kernel
theorem dX10_repair_6 : decode cX10_repair 6 = .ok (.iaload, 1) := by decide +kernel
theorem dX10_repair_7 : decode cX10_repair 7 = .ok (.iconst 2, 1) := by decide +kernel
theorem dX10_repair_8 : decode cX10_repair 8 = .ok (.idiv, 1) := by decide +kernel
theorem dX10_repair_9 : decode cX10_repair 9 = .ok (.iastore, 1) := by decide +kernel
theorem dX10_repair_10 : decode cX10_repair 10 = .ok (.aload_n 0, 1) := by decide +kernel
theorem dX10_repair_11 : decode cX10_repair 11 = .ok (.dup, 1) := by decide +kernel
theorem dX10_repair_12 : decode cX10_repair 12 = .ok (.getfield 40, 3) := by decide +kernel
theorem dX10_repair_15 : decode cX10_repair 15 = .ok (.iconst 1, 1) := by decide +kernel
theorem dX10_repair_16 : decode cX10_repair 16 = .ok (.iload_n 1, 1) := by decide +kernel
theorem dX10_repair_17 : decode cX10_repair 17 = .ok (.ishl, 1) := by decide +kernel
theorem dX10_repair_18 : decode cX10_repair 18 = .ok (.iconst (-1), 1) := by decide +kernel
theorem dX10_repair_19 : decode cX10_repair 19 = .ok (.ixor, 1) := by decide +kernel
theorem dX10_repair_20 : decode cX10_repair 20 = .ok (.iand, 1) := by decide +kernel
theorem dX10_repair_21 : decode cX10_repair 21 = .ok (.putfield 40, 3) := by decide +kernel
theorem dX10_repair_24 : decode cX10_repair 24 = .ok (.return_, 1) := by decide +kernel
theorem dX10_fullestRung_0 : decode cX10_fullestRung 0 = .ok (.iconst (-1), 1) := by decide +kernel
theorem dX10_fullestRung_1 : decode cX10_fullestRung 1 = .ok (.istore_n 1, 1) := by decide +kernel
theorem dX10_fullestRung_2 : decode cX10_fullestRung 2 = .ok (.iconst 0, 1) := by decide +kernel
theorem dX10_fullestRung_3 : decode cX10_fullestRung 3 = .ok (.istore_n 2, 1) := by decide +kernel
theorem dX10_fullestRung_4 : decode cX10_fullestRung 4 = .ok (.iconst 0, 1) := by decide +kernel
theorem dX10_fullestRung_5 : decode cX10_fullestRung 5 = .ok (.istore_n 3, 1) := by decide +kernel
theorem dX10_fullestRung_6 : decode cX10_fullestRung 6 = .ok (.iload_n 3, 1) := by decide +kernel
theorem dX10_fullestRung_7 : decode cX10_fullestRung 7 = .ok (.aload_n 0, 1) := by decide +kernel
theorem dX10_fullestRung_8 : decode cX10_fullestRung 8 = .ok (.getfield 27, 3) := by decide +kernel
theorem dX10_fullestRung_11 : decode cX10_fullestRung 11 = .ok (.getfield 77, 3) := by decide +kernel
theorem dX10_fullestRung_14 : decode cX10_fullestRung 14 = .ok (.if_icmp .ge 27, 3) := by decide +kernel
theorem dX10_fullestRung_17 : decode cX10_fullestRung 17 = .ok (.aload_n 0, 1) := by decide +kernel
theorem dX10_fullestRung_18 : decode cX10_fullestRung 18 = .ok (.iload_n 3, 1) := by decide +kernel
theorem dX10_fullestRung_19 : decode cX10_fullestRung 19 = .ok (.invokevirtual 80, 3) := by decide +kernel
theorem dX10_fullestRung_22 : decode cX10_fullestRung 22 = .ok (.istore 4, 2) := by decide +kernel
theorem dX10_fullestRung_24 : decode cX10_fullestRung 24 = .ok (.iload 4, 2) := by decide +kernel
theorem dX10_fullestRung_26 : decode cX10_fullestRung 26 = .ok (.iload_n 2, 1) := by decide +kernel
theorem dX10_fullestRung_27 : decode cX10_fullestRung 27 = .ok (.if_icmp .le 8, 3) := by decide +kernel
theorem dX10_fullestRung_30 : decode cX10_fullestRung 30 = .ok (.iload 4, 2) := by decide +kernel
theorem dX10_fullestRung_32 : decode cX10_fullestRung 32 = .ok (.istore_n 2, 1) := by decide +kernel
theorem dX10_fullestRung_33 : decode cX10_fullestRung 33 = .ok (.iload_n 3, 1) := by decide +kernel
theorem dX10_fullestRung_34 : decode cX10_fullestRung 34 = .ok (.istore_n 1, 1) := by decide +kernel
theorem dX10_fullestRung_35 : decode cX10_fullestRung 35 = .ok (.iinc 3 1, 3) := by decide +kernel
theorem dX10_fullestRung_38 : decode cX10_fullestRung 38 = .ok (.goto (-32), 3) := by decide +kernel
theorem dX10_fullestRung_41 : decode cX10_fullestRung 41 = .ok (.iload_n 1, 1) := by decide +kernel
theorem dX10_fullestRung_42 : decode cX10_fullestRung 42 = .ok (.ireturn, 1) := by decide +kernel
theorem dX10_hoursBorne_0 : decode cX10_hoursBorne 0 = .ok (.iload_n 2, 1) := by decide +kernel
theorem dX10_hoursBorne_1 : decode cX10_hoursBorne 1 = .ok (.aload_n 0, 1) := by decide +kernel
theorem dX10_hoursBorne_2 : decode cX10_hoursBorne 2 = .ok (.iload_n 1, 1) := by decide +kernel
theorem dX10_hoursBorne_3 : decode cX10_hoursBorne 3 = .ok (.invokevirtual 103, 3) := by decide +kernel
theorem dX10_hoursBorne_6 : decode cX10_hoursBorne 6 = .ok (.iadd, 1) := by decide +kernel
theorem dX10_hoursBorne_7 : decode cX10_hoursBorne 7 = .ok (.istore_n 3, 1) := by decide +kernel
theorem dX10_hoursBorne_8 : decode cX10_hoursBorne 8 = .ok (.aload_n 0, 1) := by decide +kernel
theorem dX10_hoursBorne_9 : decode cX10_hoursBorne 9 = .ok (.getfield 27, 3) := by decide +kernel
theorem dX10_hoursBorne_12 : decode cX10_hoursBorne 12 = .ok (.getfield 106, 3) := by decide +kernel
theorem dX10_hoursBorne_15 : decode cX10_hoursBorne 15 = .ok (.iload_n 1, 1) := by decide +kernel
theorem dX10_hoursBorne_16 : decode cX10_hoursBorne 16 = .ok (.iaload, 1) := by decide +kernel
theorem dX10_hoursBorne_17 : decode cX10_hoursBorne 17 = .ok (.aload_n 0, 1) := by decide +kernel
theorem dX10_hoursBorne_18 : decode cX10_hoursBorne 18 = .ok (.getfield 24, 3) := by decide +kernel
theorem dX10_hoursBorne_21 : decode cX10_hoursBorne 21 = .ok (.iload_n 1, 1) := by decide +kernel
theorem dX10_hoursBorne_22 : decode cX10_hoursBorne 22 = .ok (.iaload, 1) := by decide +kernel
theorem dX10_hoursBorne_23 : decode cX10_hoursBorne 23 = .ok (.isub, 1) := by decide +kernel
theorem dX10_hoursBorne_24 : decode cX10_hoursBorne 24 = .ok (.istore 4, 2) := by decide +kernel
theorem dX10_hoursBorne_26 : decode cX10_hoursBorne 26 = .ok (.iload_n 3, 1) := by decide +kernel
theorem dX10_hoursBorne_27 : decode cX10_hoursBorne 27 = .ok (.ifCond .le 8, 3) := by decide +kernel
theorem dX10_hoursBorne_30 : decode cX10_hoursBorne 30 = .ok (.iload 4, 2) := by decide +kernel
theorem dX10_hoursBorne_32 : decode cX10_hoursBorne 32 = .ok (.ifCond .gt 5, 3) := by decide +kernel
theorem dX10_hoursBorne_35 : decode cX10_hoursBorne 35 = .ok (.iconst 1, 1) := by decide +kernel
theorem dX10_hoursBorne_36 : decode cX10_hoursBorne 36 = .ok (.ireturn, 1) := by decide +kernel
theorem dX10_hoursBorne_37 : decode cX10_hoursBorne 37 = .ok (.iload 4, 2) := by decide +kernel
theorem dX10_hoursBorne_39 : decode cX10_hoursBorne 39 = .ok (.iload_n 3, 1) := by decide +kernel
theorem dX10_hoursBorne_40 : decode cX10_hoursBorne 40 = .ok (.iadd, 1) := by decide +kernel
theorem dX10_hoursBorne_41 : decode cX10_hoursBorne 41 = .ok (.iconst 1, 1) := by decide +kernel
theorem dX10_hoursBorne_42 : decode cX10_hoursBorne 42 = .ok (.isub, 1) := by decide +kernel
theorem dX10_hoursBorne_43 : decode cX10_hoursBorne 43 = .ok (.iload_n 3, 1) := by decide +kernel
theorem dX10_hoursBorne_44 : decode cX10_hoursBorne 44 = .ok (.idiv, 1) := by decide +kernel
theorem dX10_hoursBorne_45 : decode cX10_hoursBorne 45 = .ok (.ireturn, 1) := by decide +kernel
theorem dX10_tellWords_0 : decode cX10_tellWords 0 = .ok (.aload_n 0, 1) := by decide +kernel
theorem dX10_tellWords_1 : decode cX10_tellWords 1 = .ok (.getfield 9, 3) := by decide +kernel
theorem dX10_tellWords_4 : decode cX10_tellWords 4 = .ok (.iload_n 1, 1) := by decide +kernel
theorem dX10_tellWords_5 : decode cX10_tellWords 5 = .ok (.iaload, 1) := by decide +kernel
theorem dX10_tellWords_6 : decode cX10_tellWords 6 = .ok (.istore_n 3, 1) := by decide +kernel
theorem dX10_tellWords_7 : decode cX10_tellWords 7 = .ok (.iload_n 3, 1) := by decide +kernel
theorem dX10_tellWords_8 : decode cX10_tellWords 8 = .ok (.ifCond .lt 10, 3) := by decide +kernel
theorem dX10_tellWords_11 : decode cX10_tellWords 11 = .ok (.aload_n 2, 1) := by decide +kernel
theorem dX10_tellWords_12 : decode cX10_tellWords 12 = .ok (.arraylength, 1) := by decide +kernel
theorem dX10_tellWords_13 : decode cX10_tellWords 13 = .ok (.bipush 13, 2) := by decide +kernel
theorem dX10_tellWords_15 : decode cX10_tellWords 15 = .ok (.if_icmp .ge 4, 3) := by decide +kernel
theorem dX10_tellWords_18 : decode cX10_tellWords 18 = .ok (.return_, 1) := by decide +kernel
theorem dX10_tellWords_19 : decode cX10_tellWords 19 = .ok (.aload_n 0, 1) := by decide +kernel
theorem dX10_tellWords_20 : decode cX10_tellWords 20 = .ok (.iload_n 3, 1) := by decide +kernel
theorem dX10_tellWords_21 : decode cX10_tellWords 21 = .ok (.iconst 1, 1) := by decide +kernel
theorem dX10_tellWords_22 : decode cX10_tellWords 22 = .ok (.invokevirtual 87, 3) := by decide +kernel
theorem dX10_tellWords_25 : decode cX10_tellWords 25 = .ok (.istore 4, 2) := by decide +kernel
theorem dX10_tellWords_27 : decode cX10_tellWords 27 = .ok (.aload_n 0, 1) := by decide +kernel
theorem dX10_tellWords_28 : decode cX10_tellWords 28 = .ok (.iload_n 3, 1) := by decide +kernel
theorem dX10_tellWords_29 : decode cX10_tellWords 29 = .ok (.iconst (-1), 1) := by decide +kernel
theorem dX10_tellWords_30 : decode cX10_tellWords 30 = .ok (.invokevirtual 87, 3) := by decide +kernel
theorem dX10_tellWords_33 : decode cX10_tellWords 33 = .ok (.istore 5, 2) := by decide +kernel
theorem dX10_tellWords_35 : decode cX10_tellWords 35 = .ok (.aload_n 2, 1) := by decide +kernel
theorem dX10_tellWords_36 : decode cX10_tellWords 36 = .ok (.iconst 0, 1) := by decide +kernel
theorem dX10_tellWords_37 : decode cX10_tellWords 37 = .ok (.iload_n 1, 1) := by decide +kernel
theorem dX10_tellWords_38 : decode cX10_tellWords 38 = .ok (.i2l, 1) := by decide +kernel
theorem dX10_tellWords_39 : decode cX10_tellWords 39 = .ok (.lastore, 1) := by decide +kernel
theorem dX10_tellWords_40 : decode cX10_tellWords 40 = .ok (.aload_n 2, 1) := by decide +kernel
theorem dX10_tellWords_41 : decode cX10_tellWords 41 = .ok (.iconst 1, 1) := by decide +kernel
theorem dX10_tellWords_42 : decode cX10_tellWords 42 = .ok (.iload_n 3, 1) := by decide +kernel
theorem dX10_tellWords_43 : decode cX10_tellWords 43 = .ok (.i2l, 1) := by decide +kernel
theorem dX10_tellWords_44 : decode cX10_tellWords 44 = .ok (.lastore, 1) := by decide +kernel
theorem dX10_tellWords_45 : decode cX10_tellWords 45 = .ok (.aload_n 2, 1) := by decide +kernel
theorem dX10_tellWords_46 : decode cX10_tellWords 46 = .ok (.iconst 2, 1) := by decide +kernel
theorem dX10_tellWords_47 : decode cX10_tellWords 47 = .ok (.aload_n 0, 1) := by decide +kernel
theorem dX10_tellWords_48 : decode cX10_tellWords 48 = .ok (.getfield 18, 3) := by decide +kernel
theorem dX10_tellWords_51 : decode cX10_tellWords 51 = .ok (.iload_n 1, 1) := by decide +kernel
theorem dX10_tellWords_52 : decode cX10_tellWords 52 = .ok (.iaload, 1) := by decide +kernel
theorem dX10_tellWords_53 : decode cX10_tellWords 53 = .ok (.i2l, 1) := by decide +kernel
theorem dX10_tellWords_54 : decode cX10_tellWords 54 = .ok (.lastore, 1) := by decide +kernel
theorem dX10_tellWords_55 : decode cX10_tellWords 55 = .ok (.aload_n 2, 1) := by decide +kernel
theorem dX10_tellWords_56 : decode cX10_tellWords 56 = .ok (.iconst 3, 1) := by decide +kernel
theorem dX10_tellWords_57 : decode cX10_tellWords 57 = .ok (.aload_n 0, 1) := by decide +kernel
theorem dX10_tellWords_58 : decode cX10_tellWords 58 = .ok (.getfield 27, 3) := by decide +kernel
theorem dX10_tellWords_61 : decode cX10_tellWords 61 = .ok (.getfield 71, 3) := by decide +kernel
theorem dX10_tellWords_64 : decode cX10_tellWords 64 = .ok (.iload_n 1, 1) := by decide +kernel
theorem dX10_tellWords_65 : decode cX10_tellWords 65 = .ok (.iaload, 1) := by decide +kernel
theorem dX10_tellWords_66 : decode cX10_tellWords 66 = .ok (.i2l, 1) := by decide +kernel
theorem dX10_tellWords_67 : decode cX10_tellWords 67 = .ok (.lastore, 1) := by decide +kernel
theorem dX10_tellWords_68 : decode cX10_tellWords 68 = .ok (.aload_n 2, 1) := by decide +kernel
theorem dX10_tellWords_69 : decode cX10_tellWords 69 = .ok (.iconst 4, 1) := by decide +kernel
theorem dX10_tellWords_70 : decode cX10_tellWords 70 = .ok (.aload_n 0, 1) := by decide +kernel
theorem dX10_tellWords_71 : decode cX10_tellWords 71 = .ok (.getfield 15, 3) := by decide +kernel
theorem dX10_tellWords_74 : decode cX10_tellWords 74 = .ok (.iload_n 1, 1) := by decide +kernel
theorem dX10_tellWords_75 : decode cX10_tellWords 75 = .ok (.iaload, 1) := by decide +kernel
theorem dX10_tellWords_76 : decode cX10_tellWords 76 = .ok (.i2l, 1) := by decide +kernel
theorem dX10_tellWords_77 : decode cX10_tellWords 77 = .ok (.lastore, 1) := by decide +kernel
theorem dX10_tellWords_78 : decode cX10_tellWords 78 = .ok (.aload_n 2, 1) := by decide +kernel
theorem dX10_tellWords_79 : decode cX10_tellWords 79 = .ok (.iconst 5, 1) := by decide +kernel
theorem dX10_tellWords_80 : decode cX10_tellWords 80 = .ok (.aload_n 0, 1) := by decide +kernel
theorem dX10_tellWords_81 : decode cX10_tellWords 81 = .ok (.getfield 27, 3) := by decide +kernel
theorem dX10_tellWords_84 : decode cX10_tellWords 84 = .ok (.getfield 52, 3) := by decide +kernel
theorem dX10_tellWords_87 : decode cX10_tellWords 87 = .ok (.iload_n 1, 1) := by decide +kernel
theorem dX10_tellWords_88 : decode cX10_tellWords 88 = .ok (.iaload, 1) := by decide +kernel
theorem dX10_tellWords_89 : decode cX10_tellWords 89 = .ok (.i2l, 1) := by decide +kernel
theorem dX10_tellWords_90 : decode cX10_tellWords 90 = .ok (.lastore, 1) := by decide +kernel
theorem dX10_tellWords_91 : decode cX10_tellWords 91 = .ok (.aload_n 2, 1) := by decide +kernel
theorem dX10_tellWords_92 : decode cX10_tellWords 92 = .ok (.bipush 6, 2) := by decide +kernel
theorem dX10_tellWords_94 : decode cX10_tellWords 94 = .ok (.aload_n 0, 1) := by decide +kernel
theorem dX10_tellWords_95 : decode cX10_tellWords 95 = .ok (.getfield 31, 3) := by decide +kernel
theorem dX10_tellWords_98 : decode cX10_tellWords 98 = .ok (.i2l, 1) := by decide +kernel
theorem dX10_tellWords_99 : decode cX10_tellWords 99 = .ok (.lastore, 1) := by decide +kernel
theorem dX10_tellWords_100 : decode cX10_tellWords 100 = .ok (.aload_n 2, 1) := by decide +kernel
theorem dX10_tellWords_101 : decode cX10_tellWords 101 = .ok (.bipush 7, 2) := by decide +kernel
theorem dX10_tellWords_103 : decode cX10_tellWords 103 = .ok (.aload_n 0, 1) := by decide +kernel
theorem dX10_tellWords_104 : decode cX10_tellWords 104 = .ok (.iload_n 3, 1) := by decide +kernel
theorem dX10_tellWords_105 : decode cX10_tellWords 105 = .ok (.invokevirtual 80, 3) := by decide +kernel
theorem dX10_tellWords_108 : decode cX10_tellWords 108 = .ok (.iconst 1, 1) := by decide +kernel
theorem dX10_tellWords_109 : decode cX10_tellWords 109 = .ok (.isub, 1) := by decide +kernel
theorem dX10_tellWords_110 : decode cX10_tellWords 110 = .ok (.i2l, 1) := by decide +kernel
theorem dX10_tellWords_111 : decode cX10_tellWords 111 = .ok (.lastore, 1) := by decide +kernel
theorem dX10_tellWords_112 : decode cX10_tellWords 112 = .ok (.aload_n 2, 1) := by decide +kernel
theorem dX10_tellWords_113 : decode cX10_tellWords 113 = .ok (.bipush 8, 2) := by decide +kernel
theorem dX10_tellWords_115 : decode cX10_tellWords 115 = .ok (.iload 4, 2) := by decide +kernel
theorem dX10_tellWords_117 : decode cX10_tellWords 117 = .ok (.iconst (-1), 1) := by decide +kernel
theorem dX10_tellWords_118 : decode cX10_tellWords 118 = .ok (.if_icmp .ne 9, 3) := by decide +kernel
theorem dX10_tellWords_121 : decode cX10_tellWords 121 = .ok (.ldc2_w 111, 3) := by decide +kernel
theorem dX10_tellWords_124 : decode cX10_tellWords 124 = .ok (.goto 10, 3) := by decide +kernel
theorem dX10_tellWords_127 : decode cX10_tellWords 127 = .ok (.aload_n 0, 1) := by decide +kernel
theorem dX10_tellWords_128 : decode cX10_tellWords 128 = .ok (.iload 4, 2) := by decide +kernel
theorem dX10_tellWords_130 : decode cX10_tellWords 130 = .ok (.invokevirtual 80, 3) := by decide +kernel
theorem dX10_tellWords_133 : decode cX10_tellWords 133 = .ok (.i2l, 1) := by decide +kernel
theorem dX10_tellWords_134 : decode cX10_tellWords 134 = .ok (.lastore, 1) := by decide +kernel
theorem dX10_tellWords_135 : decode cX10_tellWords 135 = .ok (.aload_n 2, 1) := by decide +kernel
theorem dX10_tellWords_136 : decode cX10_tellWords 136 = .ok (.bipush 9, 2) := by decide +kernel
theorem dX10_tellWords_138 : decode cX10_tellWords 138 = .ok (.iload 5, 2) := by decide +kernel
theorem dX10_tellWords_140 : decode cX10_tellWords 140 = .ok (.iconst (-1), 1) := by decide +kernel
theorem dX10_tellWords_141 : decode cX10_tellWords 141 = .ok (.if_icmp .ne 9, 3) := by decide +kernel
theorem dX10_tellWords_144 : decode cX10_tellWords 144 = .ok (.ldc2_w 111, 3) := by decide +kernel
theorem dX10_tellWords_147 : decode cX10_tellWords 147 = .ok (.goto 10, 3) := by decide +kernel
theorem dX10_tellWords_150 : decode cX10_tellWords 150 = .ok (.aload_n 0, 1) := by decide +kernel
theorem dX10_tellWords_151 : decode cX10_tellWords 151 = .ok (.iload 5, 2) := by decide +kernel
theorem dX10_tellWords_153 : decode cX10_tellWords 153 = .ok (.invokevirtual 80, 3) := by decide +kernel
theorem dX10_tellWords_156 : decode cX10_tellWords 156 = .ok (.i2l, 1) := by decide +kernel
theorem dX10_tellWords_157 : decode cX10_tellWords 157 = .ok (.lastore, 1) := by decide +kernel
theorem dX10_tellWords_158 : decode cX10_tellWords 158 = .ok (.aload_n 2, 1) := by decide +kernel
theorem dX10_tellWords_159 : decode cX10_tellWords 159 = .ok (.bipush 10, 2) := by decide +kernel
theorem dX10_tellWords_161 : decode cX10_tellWords 161 = .ok (.aload_n 0, 1) := by decide +kernel
theorem dX10_tellWords_162 : decode cX10_tellWords 162 = .ok (.getfield 24, 3) := by decide +kernel
theorem dX10_tellWords_165 : decode cX10_tellWords 165 = .ok (.iload_n 3, 1) := by decide +kernel
theorem dX10_tellWords_166 : decode cX10_tellWords 166 = .ok (.iaload, 1) := by decide +kernel
theorem dX10_tellWords_167 : decode cX10_tellWords 167 = .ok (.i2l, 1) := by decide +kernel
theorem dX10_tellWords_168 : decode cX10_tellWords 168 = .ok (.lastore, 1) := by decide +kernel
theorem dX10_tellWords_169 : decode cX10_tellWords 169 = .ok (.aload_n 2, 1) := by decide +kernel
theorem dX10_tellWords_170 : decode cX10_tellWords 170 = .ok (.bipush 11, 2) := by decide +kernel
theorem dX10_tellWords_172 : decode cX10_tellWords 172 = .ok (.aload_n 0, 1) := by decide +kernel
theorem dX10_tellWords_173 : decode cX10_tellWords 173 = .ok (.getfield 27, 3) := by decide +kernel
theorem dX10_tellWords_176 : decode cX10_tellWords 176 = .ok (.getfield 106, 3) := by decide +kernel
theorem dX10_tellWords_179 : decode cX10_tellWords 179 = .ok (.iload_n 3, 1) := by decide +kernel
theorem dX10_tellWords_180 : decode cX10_tellWords 180 = .ok (.iaload, 1) := by decide +kernel
theorem dX10_tellWords_181 : decode cX10_tellWords 181 = .ok (.i2l, 1) := by decide +kernel
theorem dX10_tellWords_182 : decode cX10_tellWords 182 = .ok (.lastore, 1) := by decide +kernel
theorem dX10_tellWords_183 : decode cX10_tellWords 183 = .ok (.aload_n 2, 1) := by decide +kernel
theorem dX10_tellWords_184 : decode cX10_tellWords 184 = .ok (.bipush 12, 2) := by decide +kernel
theorem dX10_tellWords_186 : decode cX10_tellWords 186 = .ok (.aload_n 0, 1) := by decide +kernel
theorem dX10_tellWords_187 : decode cX10_tellWords 187 = .ok (.getfield 21, 3) := by decide +kernel
theorem dX10_tellWords_190 : decode cX10_tellWords 190 = .ok (.iload_n 1, 1) := by decide +kernel
theorem dX10_tellWords_191 : decode cX10_tellWords 191 = .ok (.iaload, 1) := by decide +kernel
theorem dX10_tellWords_192 : decode cX10_tellWords 192 = .ok (.i2l, 1) := by decide +kernel
theorem dX10_tellWords_193 : decode cX10_tellWords 193 = .ok (.lastore, 1) := by decide +kernel
theorem dX10_tellWords_194 : decode cX10_tellWords 194 = .ok (.return_, 1) := by decide +kernel
theorem dX11_init_0 : decode cX11_init 0 = .ok (.aload_n 0, 1) := by decide +kernel
theorem dX11_init_1 : decode cX11_init 1 = .ok (.invokespecial 1, 3) := by decide +kernel
theorem dX11_init_4 : decode cX11_init 4 = .ok (.new 7, 3) := by decide +kernel
theorem dX11_init_7 : decode cX11_init 7 = .ok (.dup, 1) := by decide +kernel
theorem dX11_init_8 : decode cX11_init 8 = .ok (.invokespecial 9, 3) := by decide +kernel
theorem dX11_init_11 : decode cX11_init 11 = .ok (.astore_n 1, 1) := by decide +kernel
theorem dX11_init_12 : decode cX11_init 12 = .ok (.aload_n 0, 1) := by decide +kernel
theorem dX11_init_13 : decode cX11_init 13 = .ok (.new 10, 3) := by decide +kernel
theorem dX11_init_16 : decode cX11_init 16 = .ok (.dup, 1) := by decide +kernel
theorem dX11_init_17 : decode cX11_init 17 = .ok (.invokespecial 12, 3) := by decide +kernel
theorem dX11_init_20 : decode cX11_init 20 = .ok (.putfield 13, 3) := by decide +kernel
theorem dX11_init_23 : decode cX11_init 23 = .ok (.aload_n 0, 1) := by decide +kernel
theorem dX11_init_24 : decode cX11_init 24 = .ok (.new 19, 3) := by decide +kernel
theorem dX11_init_27 : decode cX11_init 27 = .ok (.dup, 1) := by decide +kernel
theorem dX11_init_28 : decode cX11_init 28 = .ok (.aload_n 0, 1) := by decide +kernel
theorem dX11_init_29 : decode cX11_init 29 = .ok (.getfield 13, 3) := by decide +kernel
theorem dX11_init_32 : decode cX11_init 32 = .ok (.invokespecial 21, 3) := by decide +kernel
theorem dX11_init_35 : decode cX11_init 35 = .ok (.putfield 24, 3) := by decide +kernel
theorem dX11_init_38 : decode cX11_init 38 = .ok (.aload_n 0, 1) := by decide +kernel
theorem dX11_init_39 : decode cX11_init 39 = .ok (.new 28, 3) := by decide +kernel
theorem dX11_init_42 : decode cX11_init 42 = .ok (.dup, 1) := by decide +kernel
theorem dX11_init_43 : decode cX11_init 43 = .ok (.aload_n 0, 1) := by decide +kernel
theorem dX11_init_44 : decode cX11_init 44 = .ok (.getfield 13, 3) := by decide +kernel
theorem dX11_init_47 : decode cX11_init 47 = .ok (.invokespecial 30, 3) := by decide +kernel
theorem dX11_init_50 : decode cX11_init 50 = .ok (.putfield 31, 3) := by decide +kernel
theorem dX11_init_53 : decode cX11_init 53 = .ok (.aload_n 0, 1) := by decide +kernel
theorem dX11_init_54 : decode cX11_init 54 = .ok (.bipush 6, 2) := by decide +kernel
theorem dX11_init_56 : decode cX11_init 56 = .ok (.anewarray 35, 3) := by decide +kernel
theorem dX11_init_59 : decode cX11_init 59 = .ok (.putfield 37, 3) := by decide +kernel
theorem dX11_init_62 : decode cX11_init 62 = .ok (.aload_n 0, 1) := by decide +kernel
theorem dX11_init_63 : decode cX11_init 63 = .ok (.new 41, 3) := by decide +kernel
theorem dX11_init_66 : decode cX11_init 66 = .ok (.dup, 1) := by decide +kernel
theorem dX11_init_67 : decode cX11_init 67 = .ok (.aload_n 1, 1) := by decide +kernel
theorem dX11_init_68 : decode cX11_init 68 = .ok (.invokespecial 43, 3) := by decide +kernel
theorem dX11_init_71 : decode cX11_init 71 = .ok (.putfield 46, 3) := by decide +kernel
theorem dX11_init_74 : decode cX11_init 74 = .ok (.aload_n 0, 1) := by decide +kernel
theorem dX11_init_75 : decode cX11_init 75 = .ok (.iconst 4, 1) := by decide +kernel
theorem dX11_init_76 : decode cX11_init 76 = .ok (.anewarray 41, 3) := by decide +kernel
theorem dX11_init_79 : decode cX11_init 79 = .ok (.putfield 50, 3) := by decide +kernel
theorem dX11_init_82 : decode cX11_init 82 = .ok (.iconst 0, 1) := by decide +kernel
theorem dX11_init_83 : decode cX11_init 83 = .ok (.istore_n 2, 1) := by decide +kernel
theorem dX11_init_84 : decode cX11_init 84 = .ok (.iload_n 2, 1) := by decide +kernel
theorem dX11_init_85 : decode cX11_init 85 = .ok (.iconst 4, 1) := by decide +kernel
theorem dX11_init_86 : decode cX11_init 86 = .ok (.if_icmp .ge 23, 3) := by decide +kernel
theorem dX11_init_89 : decode cX11_init 89 = .ok (.aload_n 0, 1) := by decide +kernel
theorem dX11_init_90 : decode cX11_init 90 = .ok (.getfield 50, 3) := by decide +kernel
theorem dX11_init_93 : decode cX11_init 93 = .ok (.iload_n 2, 1) := by decide +kernel
theorem dX11_init_94 : decode cX11_init 94 = .ok (.new 41, 3) := by decide +kernel
theorem dX11_init_97 : decode cX11_init 97 = .ok (.dup, 1) := by decide +kernel
theorem dX11_init_98 : decode cX11_init 98 = .ok (.aload_n 1, 1) := by decide +kernel
theorem dX11_init_99 : decode cX11_init 99 = .ok (.invokespecial 43, 3) := by decide +kernel
theorem dX11_init_102 : decode cX11_init 102 = .ok (.aastore, 1) := by decide +kernel
theorem dX11_init_103 : decode cX11_init 103 = .ok (.iinc 2 1, 3) := by decide +kernel
theorem dX11_init_106 : decode cX11_init 106 = .ok (.goto (-22), 3) := by decide +kernel
theorem dX11_init_109 : decode cX11_init 109 = .ok (.aload_n 0, 1) := by decide +kernel
theorem dX11_init_110 : decode cX11_init 110 = .ok (.bipush 20, 2) := by decide +kernel
theorem dX11_init_112 : decode cX11_init 112 = .ok (.anewarray 54, 3) := by decide +kernel
theorem dX11_init_115 : decode cX11_init 115 = .ok (.putfield 56, 3) := by decide +kernel
theorem dX11_init_118 : decode cX11_init 118 = .ok (.iconst 0, 1) := by decide +kernel
theorem dX11_init_119 : decode cX11_init 119 = .ok (.istore_n 2, 1) := by decide +kernel
theorem dX11_init_120 : decode cX11_init 120 = .ok (.iload_n 2, 1) := by decide +kernel
theorem dX11_init_121 : decode cX11_init 121 = .ok (.bipush 20, 2) := by decide +kernel
theorem dX11_init_123 : decode cX11_init 123 = .ok (.if_icmp .ge 23, 3) := by decide +kernel
theorem dX11_init_126 : decode cX11_init 126 = .ok (.aload_n 0, 1) := by decide +kernel
theorem dX11_init_127 : decode cX11_init 127 = .ok (.getfield 56, 3) := by decide +kernel
theorem dX11_init_130 : decode cX11_init 130 = .ok (.iload_n 2, 1) := by decide +kernel
theorem dX11_init_131 : decode cX11_init 131 = .ok (.new 54, 3) := by decide +kernel
theorem dX11_init_134 : decode cX11_init 134 = .ok (.dup, 1) := by decide +kernel
theorem dX11_init_135 : decode cX11_init 135 = .ok (.aload_n 1, 1) := by decide +kernel
theorem dX11_init_136 : decode cX11_init 136 = .ok (.invokespecial 60, 3) := by decide +kernel
theorem dX11_init_139 : decode cX11_init 139 = .ok (.aastore, 1) := by decide +kernel
theorem dX11_init_140 : decode cX11_init 140 = .ok (.iinc 2 1, 3) := by decide +kernel
theorem dX11_init_143 : decode cX11_init 143 = .ok (.goto (-23), 3) := by decide +kernel
theorem dX11_init_146 : decode cX11_init 146 = .ok (.aload_n 0, 1) := by decide +kernel
theorem dX11_init_147 : decode cX11_init 147 = .ok (.new 61, 3) := by decide +kernel
theorem dX11_init_150 : decode cX11_init 150 = .ok (.dup, 1) := by decide +kernel
theorem dX11_init_151 : decode cX11_init 151 = .ok (.invokespecial 63, 3) := by decide +kernel
theorem dX11_init_154 : decode cX11_init 154 = .ok (.putfield 64, 3) := by decide +kernel
theorem dX11_init_157 : decode cX11_init 157 = .ok (.aload_n 0, 1) := by decide +kernel
theorem dX11_init_158 : decode cX11_init 158 = .ok (.new 68, 3) := by decide +kernel
theorem dX11_init_161 : decode cX11_init 161 = .ok (.dup, 1) := by decide +kernel
theorem dX11_init_162 : decode cX11_init 162 = .ok (.aload_n 0, 1) := by decide +kernel
theorem dX11_init_163 : decode cX11_init 163 = .ok (.getfield 64, 3) := by decide +kernel
theorem dX11_init_166 : decode cX11_init 166 = .ok (.new 54, 3) := by decide +kernel
theorem dX11_init_169 : decode cX11_init 169 = .ok (.dup, 1) := by decide +kernel
theorem dX11_init_170 : decode cX11_init 170 = .ok (.aload_n 1, 1) := by decide +kernel
theorem dX11_init_171 : decode cX11_init 171 = .ok (.invokespecial 60, 3) := by decide +kernel
theorem dX11_init_174 : decode cX11_init 174 = .ok (.invokespecial 70, 3) := by decide +kernel
theorem dX11_init_177 : decode cX11_init 177 = .ok (.putfield 73, 3) := by decide +kernel
theorem dX11_init_180 : decode cX11_init 180 = .ok (.aload_n 0, 1) := by decide +kernel
theorem dX11_init_181 : decode cX11_init 181 = .ok (.new 77, 3) := by decide +kernel
theorem dX11_init_184 : decode cX11_init 184 = .ok (.dup, 1) := by decide +kernel
theorem dX11_init_185 : decode cX11_init 185 = .ok (.aload_n 0, 1) := by decide +kernel
theorem dX11_init_186 : decode cX11_init 186 = .ok (.getfield 46, 3) := by decide +kernel
theorem dX11_init_189 : decode cX11_init 189 = .ok (.getfield 79, 3) := by decide +kernel
theorem dX11_init_192 : decode cX11_init 192 = .ok (.invokespecial 83, 3) := by decide +kernel
theorem dX11_init_195 : decode cX11_init 195 = .ok (.putfield 86, 3) := by decide +kernel
theorem dX11_init_198 : decode cX11_init 198 = .ok (.aload_n 0, 1) := by decide +kernel
theorem dX11_init_199 : decode cX11_init 199 = .ok (.new 90, 3) := by decide +kernel
theorem dX11_init_202 : decode cX11_init 202 = .ok (.dup, 1) := by decide +kernel
theorem dX11_init_203 : decode cX11_init 203 = .ok (.new 54, 3) := by decide +kernel
theorem dX11_init_206 : decode cX11_init 206 = .ok (.dup, 1) := by decide +kernel
theorem dX11_init_207 : decode cX11_init 207 = .ok (.aload_n 1, 1) := by decide +kernel
theorem dX11_init_208 : decode cX11_init 208 = .ok (.invokespecial 60, 3) := by decide +kernel
theorem dX11_init_211 : decode cX11_init 211 = .ok (.invokespecial 92, 3) := by decide +kernel
theorem dX11_init_214 : decode cX11_init 214 = .ok (.putfield 93, 3) := by decide +kernel
theorem dX11_init_217 : decode cX11_init 217 = .ok (.return_, 1) := by decide +kernel
theorem dX11_feed_0 : decode cX11_feed 0 = .ok (.aload_n 0, 1) := by decide +kernel
theorem dX11_feed_1 : decode cX11_feed 1 = .ok (.getfield 13, 3) := by decide +kernel
theorem dX11_feed_4 : decode cX11_feed 4 = .ok (.getfield 97, 3) := by decide +kernel
theorem dX11_feed_7 : decode cX11_feed 7 = .ok (.bipush 20, 2) := by decide +kernel
theorem dX11_feed_9 : decode cX11_feed 9 = .ok (.iadd, 1) := by decide +kernel
theorem dX11_feed_10 : decode cX11_feed 10 = .ok (.sipush 400, 3) := by decide +kernel
theorem dX11_feed_13 : decode cX11_feed 13 = .ok (.if_icmp .le 5, 3) := by decide +kernel
theorem dX11_feed_16 : decode cX11_feed 16 = .ok (.iconst (-1), 1) := by decide +kernel
theorem dX11_feed_17 : decode cX11_feed 17 = .ok (.ireturn, 1) := by decide +kernel
theorem dX11_feed_18 : decode cX11_feed 18 = .ok (.aload_n 0, 1) := by decide +kernel
theorem dX11_feed_19 : decode cX11_feed 19 = .ok (.getfield 13, 3) := by decide +kernel
theorem dX11_feed_22 : decode cX11_feed 22 = .ok (.iload_n 1, 1) := by decide +kernel
theorem dX11_feed_23 : decode cX11_feed 23 = .ok (.invokevirtual 101, 3) := by decide +kernel
theorem dX11_feed_26 : decode cX11_feed 26 = .ok (.aload_n 0, 1) := by decide +kernel
theorem dX11_feed_27 : decode cX11_feed 27 = .ok (.getfield 13, 3) := by decide +kernel
theorem dX11_feed_30 : decode cX11_feed 30 = .ok (.iload_n 2, 1) := by decide +kernel
theorem dX11_feed_31 : decode cX11_feed 31 = .ok (.invokevirtual 101, 3) := by decide +kernel
theorem dX11_feed_34 : decode cX11_feed 34 = .ok (.aload_n 0, 1) := by decide +kernel
theorem dX11_feed_35 : decode cX11_feed 35 = .ok (.getfield 13, 3) := by decide +kernel
theorem dX11_feed_38 : decode cX11_feed 38 = .ok (.iload_n 3, 1) := by decide +kernel
theorem dX11_feed_39 : decode cX11_feed 39 = .ok (.invokevirtual 101, 3) := by decide +kernel
theorem dX11_feed_42 : decode cX11_feed 42 = .ok (.aload_n 0, 1) := by decide +kernel
theorem dX11_feed_43 : decode cX11_feed 43 = .ok (.getfield 13, 3) := by decide +kernel
theorem dX11_feed_46 : decode cX11_feed 46 = .ok (.iload 4, 2) := by decide +kernel
theorem dX11_feed_48 : decode cX11_feed 48 = .ok (.invokevirtual 101, 3) := by decide +kernel
theorem dX11_feed_51 : decode cX11_feed 51 = .ok (.aload_n 0, 1) := by decide +kernel
theorem dX11_feed_52 : decode cX11_feed 52 = .ok (.getfield 13, 3) := by decide +kernel
theorem dX11_feed_55 : decode cX11_feed 55 = .ok (.iload 5, 2) := by decide +kernel
theorem dX11_feed_57 : decode cX11_feed 57 = .ok (.invokevirtual 101, 3) := by decide +kernel
theorem dX11_feed_60 : decode cX11_feed 60 = .ok (.aload_n 0, 1) := by decide +kernel
theorem dX11_feed_61 : decode cX11_feed 61 = .ok (.getfield 13, 3) := by decide +kernel
theorem dX11_feed_64 : decode cX11_feed 64 = .ok (.getfield 97, 3) := by decide +kernel
theorem dX11_feed_67 : decode cX11_feed 67 = .ok (.ireturn, 1) := by decide +kernel
theorem dX11_end_0 : decode cX11_end 0 = .ok (.iload_n 1, 1) := by decide +kernel
theorem dX11_end_1 : decode cX11_end 1 = .ok (.ifCond .lt 14, 3) := by decide +kernel
theorem dX11_end_4 : decode cX11_end 4 = .ok (.iload_n 1, 1) := by decide +kernel
theorem dX11_end_5 : decode cX11_end 5 = .ok (.aload_n 0, 1) := by decide +kernel
theorem dX11_end_6 : decode cX11_end 6 = .ok (.getfield 13, 3) := by decide +kernel
theorem dX11_end_9 : decode cX11_end 9 = .ok (.getfield 97, 3) := by decide +kernel
theorem dX11_end_12 : decode cX11_end 12 = .ok (.if_icmp .le 5, 3) := by decide +kernel
theorem dX11_end_15 : decode cX11_end 15 = .ok (.iconst (-1), 1) := by decide +kernel
theorem dX11_end_16 : decode cX11_end 16 = .ok (.ireturn, 1) := by decide +kernel
theorem dX11_end_17 : decode cX11_end 17 = .ok (.aload_n 0, 1) := by decide +kernel
theorem dX11_end_18 : decode cX11_end 18 = .ok (.getfield 13, 3) := by decide +kernel
theorem dX11_end_21 : decode cX11_end 21 = .ok (.iload_n 1, 1) := by decide +kernel
theorem dX11_end_22 : decode cX11_end 22 = .ok (.putfield 97, 3) := by decide +kernel
theorem dX11_end_25 : decode cX11_end 25 = .ok (.iload_n 1, 1) := by decide +kernel
theorem dX11_end_26 : decode cX11_end 26 = .ok (.ireturn, 1) := by decide +kernel
theorem dX11_ladder_0 : decode cX11_ladder 0 = .ok (.new 7, 3) := by decide +kernel
theorem dX11_ladder_3 : decode cX11_ladder 3 = .ok (.dup, 1) := by decide +kernel
theorem dX11_ladder_4 : decode cX11_ladder 4 = .ok (.invokespecial 9, 3) := by decide +kernel
theorem dX11_ladder_7 : decode cX11_ladder 7 = .ok (.astore_n 1, 1) := by decide +kernel
theorem dX11_ladder_8 : decode cX11_ladder 8 = .ok (.aload_n 0, 1) := by decide +kernel
theorem dX11_ladder_9 : decode cX11_ladder 9 = .ok (.getfield 24, 3) := by decide +kernel
theorem dX11_ladder_12 : decode cX11_ladder 12 = .ok (.aload_n 1, 1) := by decide +kernel
theorem dX11_ladder_13 : decode cX11_ladder 13 = .ok (.invokevirtual 105, 3) := by decide +kernel
theorem dX11_ladder_16 : decode cX11_ladder 16 = .ok (.istore_n 2, 1) := by decide +kernel
theorem dX11_ladder_17 : decode cX11_ladder 17 = .ok (.aload_n 0, 1) := by decide +kernel
theorem dX11_ladder_18 : decode cX11_ladder 18 = .ok (.getfield 13, 3) := by decide +kernel
theorem dX11_ladder_21 : decode cX11_ladder 21 = .ok (.iconst 0, 1) := by decide +kernel
theorem dX11_ladder_22 : decode cX11_ladder 22 = .ok (.putfield 97, 3) := by decide +kernel
theorem dX11_ladder_25 : decode cX11_ladder 25 = .ok (.iload_n 2, 1) := by decide +kernel
theorem dX11_ladder_26 : decode cX11_ladder 26 = .ok (.ifCond .ne 14, 3) := by decide +kernel
theorem dX11_ladder_29 : decode cX11_ladder 29 = .ok (.bipush (-2), 2) := by decide +kernel
theorem dX11_ladder_31 : decode cX11_ladder 31 = .ok (.aload_n 0, 1) := by decide +kernel
theorem dX11_ladder_32 : decode cX11_ladder 32 = .ok (.getfield 13, 3) := by decide +kernel
theorem dX11_ladder_35 : decode cX11_ladder 35 = .ok (.getfield 109, 3) := by decide +kernel
theorem dX11_ladder_38 : decode cX11_ladder 38 = .ok (.isub, 1) := by decide +kernel
theorem dX11_ladder_39 : decode cX11_ladder 39 = .ok (.ireturn, 1) := by decide +kernel
theorem dX11_ladder_40 : decode cX11_ladder 40 = .ok (.aload_n 0, 1) := by decide +kernel
theorem dX11_ladder_41 : decode cX11_ladder 41 = .ok (.getfield 46, 3) := by decide +kernel
theorem dX11_ladder_44 : decode cX11_ladder 44 = .ok (.getfield 79, 3) := by decide +kernel
theorem dX11_ladder_47 : decode cX11_ladder 47 = .ok (.aload_n 1, 1) := by decide +kernel
theorem dX11_ladder_48 : decode cX11_ladder 48 = .ok (.invokevirtual 112, 3) := by decide +kernel
theorem dX11_ladder_51 : decode cX11_ladder 51 = .ok (.aload_n 0, 1) := by decide +kernel
theorem dX11_ladder_52 : decode cX11_ladder 52 = .ok (.getfield 46, 3) := by decide +kernel
theorem dX11_ladder_55 : decode cX11_ladder 55 = .ok (.iconst 0, 1) := by decide +kernel
theorem dX11_ladder_56 : decode cX11_ladder 56 = .ok (.putfield 115, 3) := by decide +kernel
theorem dX11_ladder_59 : decode cX11_ladder 59 = .ok (.aload_n 0, 1) := by decide +kernel
theorem dX11_ladder_60 : decode cX11_ladder 60 = .ok (.iconst 0, 1) := by decide +kernel
theorem dX11_ladder_61 : decode cX11_ladder 61 = .ok (.putfield 118, 3) := by decide +kernel
theorem dX11_ladder_64 : decode cX11_ladder 64 = .ok (.aload_n 1, 1) := by decide +kernel
theorem dX11_ladder_65 : decode cX11_ladder 65 = .ok (.getfield 121, 3) := by decide +kernel
theorem dX11_ladder_68 : decode cX11_ladder 68 = .ok (.ireturn, 1) := by decide +kernel
theorem dX11_rule_0 : decode cX11_rule 0 = .ok (.aload_n 0, 1) := by decide +kernel
theorem dX11_rule_1 : decode cX11_rule 1 = .ok (.getfield 124, 3) := by decide +kernel
theorem dX11_rule_4 : decode cX11_rule 4 = .ok (.bipush 6, 2) := by decide +kernel
theorem dX11_rule_6 : decode cX11_rule 6 = .ok (.if_icmp .lt 5, 3) := by decide +kernel
theorem dX11_rule_9 : decode cX11_rule 9 = .ok (.iconst (-1), 1) := by decide +kernel
theorem dX11_rule_10 : decode cX11_rule 10 = .ok (.ireturn, 1) := by decide +kernel
theorem dX11_rule_11 : decode cX11_rule 11 = .ok (.aload_n 0, 1) := by decide +kernel
theorem dX11_rule_12 : decode cX11_rule 12 = .ok (.getfield 31, 3) := by decide +kernel
theorem dX11_rule_15 : decode cX11_rule 15 = .ok (.invokevirtual 127, 3) := by decide +kernel
theorem dX11_rule_18 : decode cX11_rule 18 = .ok (.istore_n 1, 1) := by decide +kernel
theorem dX11_rule_19 : decode cX11_rule 19 = .ok (.aload_n 0, 1) := by decide +kernel
theorem dX11_rule_20 : decode cX11_rule 20 = .ok (.getfield 13, 3) := by decide +kernel
theorem dX11_rule_23 : decode cX11_rule 23 = .ok (.iconst 0, 1) := by decide +kernel
theorem dX11_rule_24 : decode cX11_rule 24 = .ok (.putfield 97, 3) := by decide +kernel
theorem dX11_rule_27 : decode cX11_rule 27 = .ok (.iload_n 1, 1) := by decide +kernel
theorem dX11_rule_28 : decode cX11_rule 28 = .ok (.ifCond .ne 14, 3) := by decide +kernel
theorem dX11_rule_31 : decode cX11_rule 31 = .ok (.bipush (-2), 2) := by decide +kernel
theorem dX11_rule_33 : decode cX11_rule 33 = .ok (.aload_n 0, 1) := by decide +kernel
theorem dX11_rule_34 : decode cX11_rule 34 = .ok (.getfield 13, 3) := by decide +kernel
theorem dX11_rule_37 : decode cX11_rule 37 = .ok (.getfield 109, 3) := by decide +kernel
theorem dX11_rule_40 : decode cX11_rule 40 = .ok (.isub, 1) := by decide +kernel
theorem dX11_rule_41 : decode cX11_rule 41 = .ok (.ireturn, 1) := by decide +kernel
theorem dX11_rule_42 : decode cX11_rule 42 = .ok (.aload_n 0, 1) := by decide +kernel
theorem dX11_rule_43 : decode cX11_rule 43 = .ok (.getfield 37, 3) := by decide +kernel
theorem dX11_rule_46 : decode cX11_rule 46 = .ok (.aload_n 0, 1) := by decide +kernel
theorem dX11_rule_47 : decode cX11_rule 47 = .ok (.getfield 124, 3) := by decide +kernel
theorem dX11_rule_50 : decode cX11_rule 50 = .ok (.aload_n 0, 1) := by decide +kernel
theorem dX11_rule_51 : decode cX11_rule 51 = .ok (.getfield 31, 3) := by decide +kernel
theorem dX11_rule_54 : decode cX11_rule 54 = .ok (.invokevirtual 131, 3) := by decide +kernel
theorem dX11_rule_57 : decode cX11_rule 57 = .ok (.aastore, 1) := by decide +kernel
theorem dX11_rule_58 : decode cX11_rule 58 = .ok (.aload_n 0, 1) := by decide +kernel
theorem dX11_rule_59 : decode cX11_rule 59 = .ok (.dup, 1) := by decide +kernel
theorem dX11_rule_60 : decode cX11_rule 60 = .ok (.getfield 124, 3) := by decide +kernel
theorem dX11_rule_63 : decode cX11_rule 63 = .ok (.iconst 1, 1) := by decide +kernel
theorem dX11_rule_64 : decode cX11_rule 64 = .ok (.iadd, 1) := by decide +kernel
theorem dX11_rule_65 : decode cX11_rule 65 = .ok (.putfield 124, 3) := by decide +kernel
theorem dX11_rule_68 : decode cX11_rule 68 = .ok (.aload_n 0, 1) := by decide +kernel
theorem dX11_rule_69 : decode cX11_rule 69 = .ok (.getfield 124, 3) := by decide +kernel
theorem dX11_rule_72 : decode cX11_rule 72 = .ok (.iconst 1, 1) := by decide +kernel
theorem dX11_rule_73 : decode cX11_rule 73 = .ok (.isub, 1) := by decide +kernel
theorem dX11_rule_74 : decode cX11_rule 74 = .ok (.ireturn, 1) := by decide +kernel
theorem dX11_force_0 : decode cX11_force 0 = .ok (.iload_n 1, 1) := by decide +kernel
theorem dX11_force_1 : decode cX11_force 1 = .ok (.iconst (-1), 1) := by decide +kernel
theorem dX11_force_2 : decode cX11_force 2 = .ok (.if_icmp .lt 11, 3) := by decide +kernel
theorem dX11_force_5 : decode cX11_force 5 = .ok (.iload_n 1, 1) := by decide +kernel
theorem dX11_force_6 : decode cX11_force 6 = .ok (.aload_n 0, 1) := by decide +kernel
theorem dX11_force_7 : decode cX11_force 7 = .ok (.getfield 124, 3) := by decide +kernel
theorem dX11_force_10 : decode cX11_force 10 = .ok (.if_icmp .lt 6, 3) := by decide +kernel
theorem dX11_force_13 : decode cX11_force 13 = .ok (.bipush (-2), 2) := by decide +kernel
theorem dX11_force_15 : decode cX11_force 15 = .ok (.ireturn, 1) := by decide +kernel
theorem dX11_force_16 : decode cX11_force 16 = .ok (.aload_n 0, 1) := by decide +kernel
theorem dX11_force_17 : decode cX11_force 17 = .ok (.getfield 46, 3) := by decide +kernel
theorem dX11_force_20 : decode cX11_force 20 = .ok (.getfield 135, 3) := by decide +kernel
theorem dX11_force_23 : decode cX11_force 23 = .ok (.istore_n 2, 1) := by decide +kernel
theorem dX11_force_24 : decode cX11_force 24 = .ok (.aload_n 0, 1) := by decide +kernel
theorem dX11_force_25 : decode cX11_force 25 = .ok (.getfield 46, 3) := by decide +kernel
theorem dX11_force_28 : decode cX11_force 28 = .ok (.iload_n 1, 1) := by decide +kernel
theorem dX11_force_29 : decode cX11_force 29 = .ok (.putfield 135, 3) := by decide +kernel
theorem dX11_force_32 : decode cX11_force 32 = .ok (.iload_n 2, 1) := by decide +kernel
theorem dX11_force_33 : decode cX11_force 33 = .ok (.ireturn, 1) := by decide +kernel
theorem dX11_person_0 : decode cX11_person 0 = .ok (.aload_n 0, 1) := by decide +kernel
theorem dX11_person_1 : decode cX11_person 1 = .ok (.getfield 46, 3) := by decide +kernel
theorem dX11_person_4 : decode cX11_person 4 = .ok (.getfield 79, 3) := by decide +kernel
theorem dX11_person_7 : decode cX11_person 7 = .ok (.astore_n 3, 1) := by decide +kernel
theorem dX11_person_8 : decode cX11_person 8 = .ok (.aload_n 0, 1) := by decide +kernel
theorem dX11_person_9 : decode cX11_person 9 = .ok (.iload_n 1, 1) := by decide +kernel
theorem dX11_person_10 : decode cX11_person 10 = .ok (.invokevirtual 138, 3) := by decide +kernel
theorem dX11_person_13 : decode cX11_person 13 = .ok (.ifCond .ne 6, 3) := by decide +kernel
theorem dX11_person_16 : decode cX11_person 16 = .ok (.bipush (-2), 2) := by decide +kernel
theorem dX11_person_18 : decode cX11_person 18 = .ok (.ireturn, 1) := by decide +kernel
theorem dX11_person_19 : decode cX11_person 19 = .ok (.iload_n 2, 1) := by decide +kernel
theorem dX11_person_20 : decode cX11_person 20 = .ok (.tableswitch 106 0 6 #[44, 51, 61, 68, 75, 82, 94], 44) := by decide +kernel
theorem dX11_person_64 : decode cX11_person 64 = .ok (.aload_n 3, 1) := by decide +kernel
theorem dX11_person_65 : decode cX11_person 65 = .ok (.getfield 142, 3) := by decide +kernel
theorem dX11_person_68 : decode cX11_person 68 = .ok (.iload_n 1, 1) := by decide +kernel
theorem dX11_person_69 : decode cX11_person 69 = .ok (.iaload, 1) := by decide +kernel
theorem dX11_person_70 : decode cX11_person 70 = .ok (.ireturn, 1) := by decide +kernel
theorem dX11_person_71 : decode cX11_person 71 = .ok (.aload_n 3, 1) := by decide +kernel
theorem dX11_person_72 : decode cX11_person 72 = .ok (.getfield 146, 3) := by decide +kernel
theorem dX11_person_75 : decode cX11_person 75 = .ok (.getfield 150, 3) := by decide +kernel
theorem dX11_person_78 : decode cX11_person 78 = .ok (.iload_n 1, 1) := by decide +kernel
theorem dX11_person_79 : decode cX11_person 79 = .ok (.iaload, 1) := by decide +kernel
theorem dX11_person_80 : decode cX11_person 80 = .ok (.ireturn, 1) := by decide +kernel
theorem dX11_person_81 : decode cX11_person 81 = .ok (.aload_n 3, 1) := by decide +kernel
theorem dX11_person_82 : decode cX11_person 82 = .ok (.getfield 153, 3) := by decide +kernel
theorem dX11_person_85 : decode cX11_person 85 = .ok (.iload_n 1, 1) := by decide +kernel
theorem dX11_person_86 : decode cX11_person 86 = .ok (.iaload, 1) := by decide +kernel
theorem dX11_person_87 : decode cX11_person 87 = .ok (.ireturn, 1) := by decide +kernel
theorem dX11_person_88 : decode cX11_person 88 = .ok (.aload_n 3, 1) := by decide +kernel
theorem dX11_person_89 : decode cX11_person 89 = .ok (.getfield 156, 3) := by decide +kernel
theorem dX11_person_92 : decode cX11_person 92 = .ok (.iload_n 1, 1) := by decide +kernel
theorem dX11_person_93 : decode cX11_person 93 = .ok (.iaload, 1) := by decide +kernel
theorem dX11_person_94 : decode cX11_person 94 = .ok (.ireturn, 1) := by decide +kernel
theorem dX11_person_95 : decode cX11_person 95 = .ok (.aload_n 3, 1) := by decide +kernel
theorem dX11_person_96 : decode cX11_person 96 = .ok (.getfield 159, 3) := by decide +kernel
theorem dX11_person_99 : decode cX11_person 99 = .ok (.iload_n 1, 1) := by decide +kernel
theorem dX11_person_100 : decode cX11_person 100 = .ok (.iaload, 1) := by decide +kernel
theorem dX11_person_101 : decode cX11_person 101 = .ok (.ireturn, 1) := by decide +kernel
theorem dX11_person_102 : decode cX11_person 102 = .ok (.aload_n 3, 1) := by decide +kernel
theorem dX11_person_103 : decode cX11_person 103 = .ok (.aload_n 3, 1) := by decide +kernel
theorem dX11_person_104 : decode cX11_person 104 = .ok (.getfield 142, 3) := by decide +kernel
theorem dX11_person_107 : decode cX11_person 107 = .ok (.iload_n 1, 1) := by decide +kernel
theorem dX11_person_108 : decode cX11_person 108 = .ok (.iaload, 1) := by decide +kernel
theorem dX11_person_109 : decode cX11_person 109 = .ok (.iconst 1, 1) := by decide +kernel
theorem dX11_person_110 : decode cX11_person 110 = .ok (.invokevirtual 162, 3) := by decide +kernel
theorem dX11_person_113 : decode cX11_person 113 = .ok (.ireturn, 1) := by decide +kernel
theorem dX11_person_114 : decode cX11_person 114 = .ok (.aload_n 3, 1) := by decide +kernel
theorem dX11_person_115 : decode cX11_person 115 = .ok (.aload_n 3, 1) := by decide +kernel
theorem dX11_person_116 : decode cX11_person 116 = .ok (.getfield 142, 3) := by decide +kernel
theorem dX11_person_119 : decode cX11_person 119 = .ok (.iload_n 1, 1) := by decide +kernel
theorem dX11_person_120 : decode cX11_person 120 = .ok (.iaload, 1) := by decide +kernel
theorem dX11_person_121 : decode cX11_person 121 = .ok (.iconst (-1), 1) := by decide +kernel
theorem dX11_person_122 : decode cX11_person 122 = .ok (.invokevirtual 162, 3) := by decide +kernel
theorem dX11_person_125 : decode cX11_person 125 = .ok (.ireturn, 1) := by decide +kernel
theorem dX11_person_126 : decode cX11_person 126 = .ok (.bipush (-2), 2) := by decide +kernel
theorem dX11_person_128 : decode cX11_person 128 = .ok (.ireturn, 1) := by decide +kernel
theorem dX11_rung_0 : decode cX11_rung 0 = .ok (.aload_n 0, 1) := by decide +kernel
theorem dX11_rung_1 : decode cX11_rung 1 = .ok (.getfield 46, 3) := by decide +kernel
theorem dX11_rung_4 : decode cX11_rung 4 = .ok (.getfield 79, 3) := by decide +kernel
theorem dX11_rung_7 : decode cX11_rung 7 = .ok (.astore_n 3, 1) := by decide +kernel
theorem dX11_rung_8 : decode cX11_rung 8 = .ok (.aload_n 0, 1) := by decide +kernel
theorem dX11_rung_9 : decode cX11_rung 9 = .ok (.iload_n 1, 1) := by decide +kernel
theorem dX11_rung_10 : decode cX11_rung 10 = .ok (.invokevirtual 166, 3) := by decide +kernel
theorem dX11_rung_13 : decode cX11_rung 13 = .ok (.ifCond .ne 5, 3) := by decide +kernel
theorem dX11_rung_16 : decode cX11_rung 16 = .ok (.iconst (-1), 1) := by decide +kernel
theorem dX11_rung_17 : decode cX11_rung 17 = .ok (.ireturn, 1) := by decide +kernel
theorem dX11_rung_18 : decode cX11_rung 18 = .ok (.iload_n 2, 1) := by decide +kernel
theorem dX11_rung_19 : decode cX11_rung 19 = .ok (.tableswitch 90 0 5 #[37, 47, 57, 64, 78, 84], 37) := by decide +kernel
theorem dX11_rung_56 : decode cX11_rung 56 = .ok (.aload_n 3, 1) := by decide +kernel
theorem dX11_rung_57 : decode cX11_rung 57 = .ok (.getfield 146, 3) := by decide +kernel
theorem dX11_rung_60 : decode cX11_rung 60 = .ok (.getfield 169, 3) := by decide +kernel
theorem dX11_rung_63 : decode cX11_rung 63 = .ok (.iload_n 1, 1) := by decide +kernel
theorem dX11_rung_64 : decode cX11_rung 64 = .ok (.iaload, 1) := by decide +kernel
theorem dX11_rung_65 : decode cX11_rung 65 = .ok (.ireturn, 1) := by decide +kernel
theorem dX11_rung_66 : decode cX11_rung 66 = .ok (.aload_n 3, 1) := by decide +kernel
theorem dX11_rung_67 : decode cX11_rung 67 = .ok (.getfield 146, 3) := by decide +kernel
theorem dX11_rung_70 : decode cX11_rung 70 = .ok (.getfield 172, 3) := by decide +kernel
theorem dX11_rung_73 : decode cX11_rung 73 = .ok (.iload_n 1, 1) := by decide +kernel
theorem dX11_rung_74 : decode cX11_rung 74 = .ok (.iaload, 1) := by decide +kernel
theorem dX11_rung_75 : decode cX11_rung 75 = .ok (.ireturn, 1) := by decide +kernel
theorem dX11_rung_76 : decode cX11_rung 76 = .ok (.aload_n 3, 1) := by decide +kernel
theorem dX11_rung_77 : decode cX11_rung 77 = .ok (.getfield 175, 3) := by decide +kernel
theorem dX11_rung_80 : decode cX11_rung 80 = .ok (.iload_n 1, 1) := by decide +kernel
theorem dX11_rung_81 : decode cX11_rung 81 = .ok (.iaload, 1) := by decide +kernel
theorem dX11_rung_82 : decode cX11_rung 82 = .ok (.ireturn, 1) := by decide +kernel
theorem dX11_rung_83 : decode cX11_rung 83 = .ok (.aload_n 3, 1) := by decide +kernel
theorem dX11_rung_84 : decode cX11_rung 84 = .ok (.iload_n 1, 1) := by decide +kernel
theorem dX11_rung_85 : decode cX11_rung 85 = .ok (.invokevirtual 178, 3) := by decide +kernel
theorem dX11_rung_88 : decode cX11_rung 88 = .ok (.ifCond .eq 7, 3) := by decide +kernel
theorem dX11_rung_91 : decode cX11_rung 91 = .ok (.iconst 1, 1) := by decide +kernel
theorem dX11_rung_92 : decode cX11_rung 92 = .ok (.goto 4, 3) := by decide +kernel
theorem dX11_rung_95 : decode cX11_rung 95 = .ok (.iconst 0, 1) := by decide +kernel
theorem dX11_rung_96 : decode cX11_rung 96 = .ok (.ireturn, 1) := by decide +kernel
theorem dX11_rung_97 : decode cX11_rung 97 = .ok (.aload_n 3, 1) := by decide +kernel
theorem dX11_rung_98 : decode cX11_rung 98 = .ok (.iload_n 1, 1) := by decide +kernel
theorem dX11_rung_99 : decode cX11_rung 99 = .ok (.invokevirtual 181, 3) := by decide +kernel
theorem dX11_rung_102 : decode cX11_rung 102 = .ok (.ireturn, 1) := by decide +kernel
theorem dX11_rung_103 : decode cX11_rung 103 = .ok (.aload_n 3, 1) := by decide +kernel
theorem dX11_rung_104 : decode cX11_rung 104 = .ok (.iload_n 1, 1) := by decide +kernel
theorem dX11_rung_105 : decode cX11_rung 105 = .ok (.invokevirtual 185, 3) := by decide +kernel
theorem dX11_rung_108 : decode cX11_rung 108 = .ok (.ireturn, 1) := by decide +kernel
theorem dX11_rung_109 : decode cX11_rung 109 = .ok (.iconst (-1), 1) := by decide +kernel
theorem dX11_rung_110 : decode cX11_rung 110 = .ok (.ireturn, 1) := by decide +kernel
theorem dX11_hour_0 : decode cX11_hour 0 = .ok (.aload_n 0, 1) := by decide +kernel
theorem dX11_hour_1 : decode cX11_hour 1 = .ok (.invokevirtual 188, 3) := by decide +kernel
theorem dX11_hour_4 : decode cX11_hour 4 = .ok (.ifCond .eq 19, 3) := by decide +kernel
theorem dX11_hour_7 : decode cX11_hour 7 = .ok (.aload_n 0, 1) := by decide +kernel
theorem dX11_hour_8 : decode cX11_hour 8 = .ok (.getfield 46, 3) := by decide +kernel
theorem dX11_hour_11 : decode cX11_hour 11 = .ok (.getfield 79, 3) := by decide +kernel
theorem dX11_hour_14 : decode cX11_hour 14 = .ok (.getfield 191, 3) := by decide +kernel
theorem dX11_hour_17 : decode cX11_hour 17 = .ok (.sipush 999, 3) := by decide +kernel
theorem dX11_hour_20 : decode cX11_hour 20 = .ok (.if_icmp .lt 5, 3) := by decide +kernel
theorem dX11_hour_23 : decode cX11_hour 23 = .ok (.iconst (-1), 1) := by decide +kernel
theorem dX11_hour_24 : decode cX11_hour 24 = .ok (.ireturn, 1) := by decide +kernel
theorem dX11_hour_25 : decode cX11_hour 25 = .ok (.aload_n 0, 1) := by decide +kernel
theorem dX11_hour_26 : decode cX11_hour 26 = .ok (.invokevirtual 194, 3) := by decide +kernel
theorem dX11_hour_29 : decode cX11_hour 29 = .ok (.aload_n 0, 1) := by decide +kernel
theorem dX11_hour_30 : decode cX11_hour 30 = .ok (.getfield 64, 3) := by decide +kernel
theorem dX11_hour_33 : decode cX11_hour 33 = .ok (.aload_n 0, 1) := by decide +kernel
theorem dX11_hour_34 : decode cX11_hour 34 = .ok (.getfield 46, 3) := by decide +kernel
theorem dX11_hour_37 : decode cX11_hour 37 = .ok (.getfield 79, 3) := by decide +kernel
theorem dX11_hour_40 : decode cX11_hour 40 = .ok (.aload_n 0, 1) := by decide +kernel
theorem dX11_hour_41 : decode cX11_hour 41 = .ok (.invokevirtual 197, 3) := by decide +kernel
theorem dX11_hour_44 : decode cX11_hour 44 = .ok (.invokevirtual 200, 3) := by decide +kernel
theorem dX11_hour_47 : decode cX11_hour 47 = .ok (.ireturn, 1) := by decide +kernel
theorem dX11_step_0 : decode cX11_step 0 = .ok (.aload_n 0, 1) := by decide +kernel
theorem dX11_step_1 : decode cX11_step 1 = .ok (.iload_n 1, 1) := by decide +kernel
theorem dX11_step_2 : decode cX11_step 2 = .ok (.invokevirtual 138, 3) := by decide +kernel
theorem dX11_step_5 : decode cX11_step 5 = .ok (.ifCond .ne 5, 3) := by decide +kernel
theorem dX11_step_8 : decode cX11_step 8 = .ok (.iconst (-1), 1) := by decide +kernel
theorem dX11_step_9 : decode cX11_step 9 = .ok (.ireturn, 1) := by decide +kernel
theorem dX11_step_10 : decode cX11_step 10 = .ok (.aload_n 0, 1) := by decide +kernel
theorem dX11_step_11 : decode cX11_step 11 = .ok (.getfield 46, 3) := by decide +kernel
theorem dX11_step_14 : decode cX11_step 14 = .ok (.getfield 79, 3) := by decide +kernel
theorem dX11_step_17 : decode cX11_step 17 = .ok (.iload_n 1, 1) := by decide +kernel
theorem dX11_step_18 : decode cX11_step 18 = .ok (.iload_n 2, 1) := by decide +kernel
theorem dX11_step_19 : decode cX11_step 19 = .ok (.ifCond .eq 7, 3) := by decide +kernel
theorem dX11_step_22 : decode cX11_step 22 = .ok (.iconst 1, 1) := by decide +kernel
theorem dX11_step_23 : decode cX11_step 23 = .ok (.goto 4, 3) := by decide +kernel
theorem dX11_step_26 : decode cX11_step 26 = .ok (.iconst (-1), 1) := by decide +kernel
theorem dX11_step_27 : decode cX11_step 27 = .ok (.invokevirtual 204, 3) := by decide +kernel
theorem dX11_step_30 : decode cX11_step 30 = .ok (.istore_n 3, 1) := by decide +kernel
theorem dX11_step_31 : decode cX11_step 31 = .ok (.iload_n 3, 1) := by decide +kernel
theorem dX11_step_32 : decode cX11_step 32 = .ok (.iconst (-1), 1) := by decide +kernel
theorem dX11_step_33 : decode cX11_step 33 = .ok (.if_icmp .ne 5, 3) := by decide +kernel
theorem dX11_step_36 : decode cX11_step 36 = .ok (.iconst (-1), 1) := by decide +kernel
theorem dX11_step_37 : decode cX11_step 37 = .ok (.ireturn, 1) := by decide +kernel
theorem dX11_step_38 : decode cX11_step 38 = .ok (.aload_n 0, 1) := by decide +kernel
theorem dX11_step_39 : decode cX11_step 39 = .ok (.invokevirtual 194, 3) := by decide +kernel
theorem dX11_step_42 : decode cX11_step 42 = .ok (.aload_n 0, 1) := by decide +kernel
theorem dX11_step_43 : decode cX11_step 43 = .ok (.getfield 46, 3) := by decide +kernel
theorem dX11_step_46 : decode cX11_step 46 = .ok (.getfield 79, 3) := by decide +kernel
theorem dX11_step_49 : decode cX11_step 49 = .ok (.getfield 142, 3) := by decide +kernel
theorem dX11_step_52 : decode cX11_step 52 = .ok (.iload_n 1, 1) := by decide +kernel
theorem dX11_step_53 : decode cX11_step 53 = .ok (.iload_n 3, 1) := by decide +kernel
theorem dX11_step_54 : decode cX11_step 54 = .ok (.iastore, 1) := by decide +kernel
theorem dX11_step_55 : decode cX11_step 55 = .ok (.iload_n 3, 1) := by decide +kernel
theorem dX11_step_56 : decode cX11_step 56 = .ok (.ireturn, 1) := by decide +kernel
theorem dX11_pass_0 : decode cX11_pass 0 = .ok (.aload_n 0, 1) := by decide +kernel
theorem dX11_pass_1 : decode cX11_pass 1 = .ok (.iload_n 1, 1) := by decide +kernel
theorem dX11_pass_2 : decode cX11_pass 2 = .ok (.invokevirtual 138, 3) := by decide +kernel
theorem dX11_pass_5 : decode cX11_pass 5 = .ok (.ifCond .eq 26, 3) := by decide +kernel
theorem dX11_pass_8 : decode cX11_pass 8 = .ok (.aload_n 0, 1) := by decide +kernel
theorem dX11_pass_9 : decode cX11_pass 9 = .ok (.iload_n 2, 1) := by decide +kernel
theorem dX11_pass_10 : decode cX11_pass 10 = .ok (.invokevirtual 138, 3) := by decide +kernel
theorem dX11_pass_13 : decode cX11_pass 13 = .ok (.ifCond .eq 18, 3) := by decide +kernel
theorem dX11_pass_16 : decode cX11_pass 16 = .ok (.aload_n 0, 1) := by decide +kernel
theorem dX11_pass_17 : decode cX11_pass 17 = .ok (.getfield 46, 3) := by decide +kernel
theorem dX11_pass_20 : decode cX11_pass 20 = .ok (.getfield 79, 3) := by decide +kernel
theorem dX11_pass_23 : decode cX11_pass 23 = .ok (.iload_n 1, 1) := by decide +kernel
theorem dX11_pass_24 : decode cX11_pass 24 = .ok (.iload_n 2, 1) := by decide +kernel
theorem dX11_pass_25 : decode cX11_pass 25 = .ok (.invokevirtual 207, 3) := by decide +kernel
theorem dX11_pass_28 : decode cX11_pass 28 = .ok (.ifCond .ne 5, 3) := by decide +kernel
theorem dX11_pass_31 : decode cX11_pass 31 = .ok (.iconst 0, 1) := by decide +kernel
theorem dX11_pass_32 : decode cX11_pass 32 = .ok (.ireturn, 1) := by decide +kernel
theorem dX11_pass_33 : decode cX11_pass 33 = .ok (.aload_n 0, 1) := by decide +kernel
theorem dX11_pass_34 : decode cX11_pass 34 = .ok (.invokevirtual 194, 3) := by decide +kernel
theorem dX11_pass_37 : decode cX11_pass 37 = .ok (.aload_n 0, 1) := by decide +kernel
theorem dX11_pass_38 : decode cX11_pass 38 = .ok (.getfield 46, 3) := by decide +kernel
theorem dX11_pass_41 : decode cX11_pass 41 = .ok (.getfield 79, 3) := by decide +kernel
theorem dX11_pass_44 : decode cX11_pass 44 = .ok (.iload_n 1, 1) := by decide +kernel
theorem dX11_pass_45 : decode cX11_pass 45 = .ok (.iload_n 2, 1) := by decide +kernel
theorem dX11_pass_46 : decode cX11_pass 46 = .ok (.invokevirtual 211, 3) := by decide +kernel
theorem dX11_pass_49 : decode cX11_pass 49 = .ok (.iconst 1, 1) := by decide +kernel
theorem dX11_pass_50 : decode cX11_pass 50 = .ok (.ireturn, 1) := by decide +kernel
theorem dX11_mend_0 : decode cX11_mend 0 = .ok (.aload_n 0, 1) := by decide +kernel
theorem dX11_mend_1 : decode cX11_mend 1 = .ok (.iload_n 1, 1) := by decide +kernel
theorem dX11_mend_2 : decode cX11_mend 2 = .ok (.invokevirtual 166, 3) := by decide +kernel
theorem dX11_mend_5 : decode cX11_mend 5 = .ok (.ifCond .eq 17, 3) := by decide +kernel
theorem dX11_mend_8 : decode cX11_mend 8 = .ok (.aload_n 0, 1) := by decide +kernel
theorem dX11_mend_9 : decode cX11_mend 9 = .ok (.getfield 46, 3) := by decide +kernel
theorem dX11_mend_12 : decode cX11_mend 12 = .ok (.getfield 79, 3) := by decide +kernel
theorem dX11_mend_15 : decode cX11_mend 15 = .ok (.iload_n 1, 1) := by decide +kernel
theorem dX11_mend_16 : decode cX11_mend 16 = .ok (.invokevirtual 215, 3) := by decide +kernel
theorem dX11_mend_19 : decode cX11_mend 19 = .ok (.ifCond .ne 5, 3) := by decide +kernel
theorem dX11_mend_22 : decode cX11_mend 22 = .ok (.iconst (-1), 1) := by decide +kernel
theorem dX11_mend_23 : decode cX11_mend 23 = .ok (.ireturn, 1) := by decide +kernel
theorem dX11_mend_24 : decode cX11_mend 24 = .ok (.aload_n 0, 1) := by decide +kernel
theorem dX11_mend_25 : decode cX11_mend 25 = .ok (.invokevirtual 194, 3) := by decide +kernel
theorem dX11_mend_28 : decode cX11_mend 28 = .ok (.aload_n 0, 1) := by decide +kernel
theorem dX11_mend_29 : decode cX11_mend 29 = .ok (.getfield 46, 3) := by decide +kernel
theorem dX11_mend_32 : decode cX11_mend 32 = .ok (.getfield 79, 3) := by decide +kernel
theorem dX11_mend_35 : decode cX11_mend 35 = .ok (.iload_n 1, 1) := by decide +kernel
theorem dX11_mend_36 : decode cX11_mend 36 = .ok (.invokevirtual 218, 3) := by decide +kernel
theorem dX11_mend_39 : decode cX11_mend 39 = .ok (.aload_n 0, 1) := by decide +kernel
theorem dX11_mend_40 : decode cX11_mend 40 = .ok (.getfield 46, 3) := by decide +kernel
theorem dX11_mend_43 : decode cX11_mend 43 = .ok (.getfield 79, 3) := by decide +kernel
theorem dX11_mend_46 : decode cX11_mend 46 = .ok (.getfield 175, 3) := by decide +kernel
theorem dX11_mend_49 : decode cX11_mend 49 = .ok (.iload_n 1, 1) := by decide +kernel
theorem dX11_mend_50 : decode cX11_mend 50 = .ok (.iaload, 1) := by decide +kernel
theorem dX11_mend_51 : decode cX11_mend 51 = .ok (.ireturn, 1) := by decide +kernel
theorem dX11_cut_0 : decode cX11_cut 0 = .ok (.aload_n 0, 1) := by decide +kernel
theorem dX11_cut_1 : decode cX11_cut 1 = .ok (.iload_n 1, 1) := by decide +kernel
theorem dX11_cut_2 : decode cX11_cut 2 = .ok (.invokevirtual 166, 3) := by decide +kernel
theorem dX11_cut_5 : decode cX11_cut 5 = .ok (.ifCond .eq 17, 3) := by decide +kernel
theorem dX11_cut_8 : decode cX11_cut 8 = .ok (.aload_n 0, 1) := by decide +kernel
theorem dX11_cut_9 : decode cX11_cut 9 = .ok (.getfield 46, 3) := by decide +kernel
theorem dX11_cut_12 : decode cX11_cut 12 = .ok (.getfield 79, 3) := by decide +kernel
theorem dX11_cut_15 : decode cX11_cut 15 = .ok (.iload_n 1, 1) := by decide +kernel
theorem dX11_cut_16 : decode cX11_cut 16 = .ok (.invokevirtual 178, 3) := by decide +kernel
theorem dX11_cut_19 : decode cX11_cut 19 = .ok (.ifCond .eq 5, 3) := by decide +kernel
theorem dX11_cut_22 : decode cX11_cut 22 = .ok (.iconst (-1), 1) := by decide +kernel
theorem dX11_cut_23 : decode cX11_cut 23 = .ok (.ireturn, 1) := by decide +kernel
theorem dX11_cut_24 : decode cX11_cut 24 = .ok (.aload_n 0, 1) := by decide +kernel
theorem dX11_cut_25 : decode cX11_cut 25 = .ok (.invokevirtual 194, 3) := by decide +kernel
theorem dX11_cut_28 : decode cX11_cut 28 = .ok (.aload_n 0, 1) := by decide +kernel
theorem dX11_cut_29 : decode cX11_cut 29 = .ok (.getfield 46, 3) := by decide +kernel
theorem dX11_cut_32 : decode cX11_cut 32 = .ok (.getfield 79, 3) := by decide +kernel
theorem dX11_cut_35 : decode cX11_cut 35 = .ok (.iload_n 1, 1) := by decide +kernel
theorem dX11_cut_36 : decode cX11_cut 36 = .ok (.invokevirtual 221, 3) := by decide +kernel
theorem dX11_cut_39 : decode cX11_cut 39 = .ok (.ireturn, 1) := by decide +kernel
theorem dX11_aim_0 : decode cX11_aim 0 = .ok (.aload_n 0, 1) := by decide +kernel
theorem dX11_aim_1 : decode cX11_aim 1 = .ok (.iload_n 1, 1) := by decide +kernel
theorem dX11_aim_2 : decode cX11_aim 2 = .ok (.invokevirtual 138, 3) := by decide +kernel
theorem dX11_aim_5 : decode cX11_aim 5 = .ok (.ifCond .eq 25, 3) := by decide +kernel
theorem dX11_aim_8 : decode cX11_aim 8 = .ok (.aload_n 0, 1) := by decide +kernel
theorem dX11_aim_9 : decode cX11_aim 9 = .ok (.iload_n 2, 1) := by decide +kernel
theorem dX11_aim_10 : decode cX11_aim 10 = .ok (.invokevirtual 166, 3) := by decide +kernel
theorem dX11_aim_13 : decode cX11_aim 13 = .ok (.ifCond .eq 17, 3) := by decide +kernel
theorem dX11_aim_16 : decode cX11_aim 16 = .ok (.aload_n 0, 1) := by decide +kernel
theorem dX11_aim_17 : decode cX11_aim 17 = .ok (.getfield 46, 3) := by decide +kernel
theorem dX11_aim_20 : decode cX11_aim 20 = .ok (.getfield 79, 3) := by decide +kernel
theorem dX11_aim_23 : decode cX11_aim 23 = .ok (.iload_n 1, 1) := by decide +kernel
theorem dX11_aim_24 : decode cX11_aim 24 = .ok (.invokevirtual 224, 3) := by decide +kernel
theorem dX11_aim_27 : decode cX11_aim 27 = .ok (.ifCond .eq 5, 3) := by decide +kernel
theorem dX11_aim_30 : decode cX11_aim 30 = .ok (.iconst (-1), 1) := by decide +kernel
theorem dX11_aim_31 : decode cX11_aim 31 = .ok (.ireturn, 1) := by decide +kernel
theorem dX11_aim_32 : decode cX11_aim 32 = .ok (.aload_n 0, 1) := by decide +kernel
theorem dX11_aim_33 : decode cX11_aim 33 = .ok (.getfield 46, 3) := by decide +kernel
theorem dX11_aim_36 : decode cX11_aim 36 = .ok (.getfield 79, 3) := by decide +kernel
theorem dX11_aim_39 : decode cX11_aim 39 = .ok (.getfield 156, 3) := by decide +kernel
theorem dX11_aim_42 : decode cX11_aim 42 = .ok (.iload_n 1, 1) := by decide +kernel
theorem dX11_aim_43 : decode cX11_aim 43 = .ok (.iaload, 1) := by decide +kernel
theorem dX11_aim_44 : decode cX11_aim 44 = .ok (.istore_n 3, 1) := by decide +kernel
theorem dX11_aim_45 : decode cX11_aim 45 = .ok (.iload_n 3, 1) := by decide +kernel
theorem dX11_aim_46 : decode cX11_aim 46 = .ok (.iload_n 2, 1) := by decide +kernel
theorem dX11_aim_47 : decode cX11_aim 47 = .ok (.if_icmp .ne 5, 3) := by decide +kernel
theorem dX11_aim_50 : decode cX11_aim 50 = .ok (.iconst (-1), 1) := by decide +kernel
theorem dX11_aim_51 : decode cX11_aim 51 = .ok (.ireturn, 1) := by decide +kernel
theorem dX11_aim_52 : decode cX11_aim 52 = .ok (.aload_n 0, 1) := by decide +kernel
theorem dX11_aim_53 : decode cX11_aim 53 = .ok (.invokevirtual 194, 3) := by decide +kernel
theorem dX11_aim_56 : decode cX11_aim 56 = .ok (.aload_n 0, 1) := by decide +kernel
theorem dX11_aim_57 : decode cX11_aim 57 = .ok (.getfield 46, 3) := by decide +kernel
theorem dX11_aim_60 : decode cX11_aim 60 = .ok (.getfield 79, 3) := by decide +kernel
theorem dX11_aim_63 : decode cX11_aim 63 = .ok (.getfield 156, 3) := by decide +kernel
theorem dX11_aim_66 : decode cX11_aim 66 = .ok (.iload_n 1, 1) := by decide +kernel
theorem dX11_aim_67 : decode cX11_aim 67 = .ok (.iload_n 2, 1) := by decide +kernel
theorem dX11_aim_68 : decode cX11_aim 68 = .ok (.iastore, 1) := by decide +kernel
theorem dX11_aim_69 : decode cX11_aim 69 = .ok (.iload_n 3, 1) := by decide +kernel
theorem dX11_aim_70 : decode cX11_aim 70 = .ok (.ireturn, 1) := by decide +kernel
theorem dX11_undo_0 : decode cX11_undo 0 = .ok (.aload_n 0, 1) := by decide +kernel
theorem dX11_undo_1 : decode cX11_undo 1 = .ok (.getfield 118, 3) := by decide +kernel
theorem dX11_undo_4 : decode cX11_undo 4 = .ok (.ifCond .gt 5, 3) := by decide +kernel
theorem dX11_undo_7 : decode cX11_undo 7 = .ok (.iconst (-1), 1) := by decide +kernel
theorem dX11_undo_8 : decode cX11_undo 8 = .ok (.ireturn, 1) := by decide +kernel
theorem dX11_undo_9 : decode cX11_undo 9 = .ok (.aload_n 0, 1) := by decide +kernel
theorem dX11_undo_10 : decode cX11_undo 10 = .ok (.dup, 1) := by decide +kernel
theorem dX11_undo_11 : decode cX11_undo 11 = .ok (.getfield 118, 3) := by decide +kernel
theorem dX11_undo_14 : decode cX11_undo 14 = .ok (.iconst 1, 1) := by decide +kernel
theorem dX11_undo_15 : decode cX11_undo 15 = .ok (.isub, 1) := by decide +kernel
theorem dX11_undo_16 : decode cX11_undo 16 = .ok (.putfield 118, 3) := by decide +kernel
theorem dX11_undo_19 : decode cX11_undo 19 = .ok (.aload_n 0, 1) := by decide +kernel
theorem dX11_undo_20 : decode cX11_undo 20 = .ok (.aload_n 0, 1) := by decide +kernel
theorem dX11_undo_21 : decode cX11_undo 21 = .ok (.getfield 227, 3) := by decide +kernel
theorem dX11_undo_24 : decode cX11_undo 24 = .ok (.ifCond .le 12, 3) := by decide +kernel
theorem dX11_undo_27 : decode cX11_undo 27 = .ok (.aload_n 0, 1) := by decide +kernel
theorem dX11_undo_28 : decode cX11_undo 28 = .ok (.getfield 227, 3) := by decide +kernel
theorem dX11_undo_31 : decode cX11_undo 31 = .ok (.iconst 1, 1) := by decide +kernel
theorem dX11_undo_32 : decode cX11_undo 32 = .ok (.isub, 1) := by decide +kernel
theorem dX11_undo_33 : decode cX11_undo 33 = .ok (.goto 5, 3) := by decide +kernel
theorem dX11_undo_36 : decode cX11_undo 36 = .ok (.bipush 19, 2) := by decide +kernel
theorem dX11_undo_38 : decode cX11_undo 38 = .ok (.putfield 227, 3) := by decide +kernel
theorem dX11_undo_41 : decode cX11_undo 41 = .ok (.aload_n 0, 1) := by decide +kernel
theorem dX11_undo_42 : decode cX11_undo 42 = .ok (.getfield 46, 3) := by decide +kernel
theorem dX11_undo_45 : decode cX11_undo 45 = .ok (.getfield 79, 3) := by decide +kernel
theorem dX11_undo_48 : decode cX11_undo 48 = .ok (.aload_n 0, 1) := by decide +kernel
theorem dX11_undo_49 : decode cX11_undo 49 = .ok (.getfield 56, 3) := by decide +kernel
theorem dX11_undo_52 : decode cX11_undo 52 = .ok (.aload_n 0, 1) := by decide +kernel
theorem dX11_undo_53 : decode cX11_undo 53 = .ok (.getfield 227, 3) := by decide +kernel
theorem dX11_undo_56 : decode cX11_undo 56 = .ok (.aaload, 1) := by decide +kernel
theorem dX11_undo_57 : decode cX11_undo 57 = .ok (.invokevirtual 230, 3) := by decide +kernel
theorem dX11_undo_60 : decode cX11_undo 60 = .ok (.aload_n 0, 1) := by decide +kernel
theorem dX11_undo_61 : decode cX11_undo 61 = .ok (.getfield 118, 3) := by decide +kernel
theorem dX11_undo_64 : decode cX11_undo 64 = .ok (.ireturn, 1) := by decide +kernel
theorem dX11_ahead_0 : decode cX11_ahead 0 = .ok (.aload_n 0, 1) := by decide +kernel
theorem dX11_ahead_1 : decode cX11_ahead 1 = .ok (.iload_n 1, 1) := by decide +kernel
theorem dX11_ahead_2 : decode cX11_ahead 2 = .ok (.invokevirtual 138, 3) := by decide +kernel
theorem dX11_ahead_5 : decode cX11_ahead 5 = .ok (.ifCond .eq 22, 3) := by decide +kernel
theorem dX11_ahead_8 : decode cX11_ahead 8 = .ok (.iload_n 2, 1) := by decide +kernel
theorem dX11_ahead_9 : decode cX11_ahead 9 = .ok (.ifCond .lt 18, 3) := by decide +kernel
theorem dX11_ahead_12 : decode cX11_ahead 12 = .ok (.iload_n 2, 1) := by decide +kernel
theorem dX11_ahead_13 : decode cX11_ahead 13 = .ok (.bipush 100, 2) := by decide +kernel
theorem dX11_ahead_15 : decode cX11_ahead 15 = .ok (.if_icmp .gt 12, 3) := by decide +kernel
theorem dX11_ahead_18 : decode cX11_ahead 18 = .ok (.iload_n 3, 1) := by decide +kernel
theorem dX11_ahead_19 : decode cX11_ahead 19 = .ok (.ifCond .lt 8, 3) := by decide +kernel
theorem dX11_ahead_22 : decode cX11_ahead 22 = .ok (.iload_n 3, 1) := by decide +kernel
theorem dX11_ahead_23 : decode cX11_ahead 23 = .ok (.iconst 2, 1) := by decide +kernel
theorem dX11_ahead_24 : decode cX11_ahead 24 = .ok (.if_icmp .le 6, 3) := by decide +kernel
theorem dX11_ahead_27 : decode cX11_ahead 27 = .ok (.bipush (-2), 2) := by decide +kernel
theorem dX11_ahead_29 : decode cX11_ahead 29 = .ok (.ireturn, 1) := by decide +kernel
theorem dX11_ahead_30 : decode cX11_ahead 30 = .ok (.aload_n 0, 1) := by decide +kernel
theorem dX11_ahead_31 : decode cX11_ahead 31 = .ok (.getfield 73, 3) := by decide +kernel
theorem dX11_ahead_34 : decode cX11_ahead 34 = .ok (.aload_n 0, 1) := by decide +kernel
theorem dX11_ahead_35 : decode cX11_ahead 35 = .ok (.getfield 46, 3) := by decide +kernel
theorem dX11_ahead_38 : decode cX11_ahead 38 = .ok (.getfield 79, 3) := by decide +kernel
theorem dX11_ahead_41 : decode cX11_ahead 41 = .ok (.aload_n 0, 1) := by decide +kernel
theorem dX11_ahead_42 : decode cX11_ahead 42 = .ok (.invokevirtual 197, 3) := by decide +kernel
theorem dX11_ahead_45 : decode cX11_ahead 45 = .ok (.iload_n 2, 1) := by decide +kernel
theorem dX11_ahead_46 : decode cX11_ahead 46 = .ok (.invokevirtual 233, 3) := by decide +kernel
theorem dX11_ahead_49 : decode cX11_ahead 49 = .ok (.astore 4, 2) := by decide +kernel
theorem dX11_ahead_51 : decode cX11_ahead 51 = .ok (.iload_n 3, 1) := by decide +kernel
theorem dX11_ahead_52 : decode cX11_ahead 52 = .ok (.lookupswitch 44 #[(0, 28), (1, 36)], 28) := by decide +kernel
theorem dX11_ahead_80 : decode cX11_ahead 80 = .ok (.aload 4, 2) := by decide +kernel
theorem dX11_ahead_82 : decode cX11_ahead 82 = .ok (.getfield 142, 3) := by decide +kernel
theorem dX11_ahead_85 : decode cX11_ahead 85 = .ok (.iload_n 1, 1) := by decide +kernel
theorem dX11_ahead_86 : decode cX11_ahead 86 = .ok (.iaload, 1) := by decide +kernel
theorem dX11_ahead_87 : decode cX11_ahead 87 = .ok (.ireturn, 1) := by decide +kernel
theorem dX11_ahead_88 : decode cX11_ahead 88 = .ok (.aload 4, 2) := by decide +kernel
theorem dX11_ahead_90 : decode cX11_ahead 90 = .ok (.getfield 153, 3) := by decide +kernel
theorem dX11_ahead_93 : decode cX11_ahead 93 = .ok (.iload_n 1, 1) := by decide +kernel
theorem dX11_ahead_94 : decode cX11_ahead 94 = .ok (.iaload, 1) := by decide +kernel
theorem dX11_ahead_95 : decode cX11_ahead 95 = .ok (.ireturn, 1) := by decide +kernel
theorem dX11_ahead_96 : decode cX11_ahead 96 = .ok (.aload 4, 2) := by decide +kernel
theorem dX11_ahead_98 : decode cX11_ahead 98 = .ok (.getfield 159, 3) := by decide +kernel
theorem dX11_ahead_101 : decode cX11_ahead 101 = .ok (.iload_n 1, 1) := by decide +kernel
theorem dX11_ahead_102 : decode cX11_ahead 102 = .ok (.iaload, 1) := by decide +kernel
theorem dX11_ahead_103 : decode cX11_ahead 103 = .ok (.ireturn, 1) := by decide +kernel
theorem dX11_breaks_0 : decode cX11_breaks 0 = .ok (.aload_n 0, 1) := by decide +kernel
theorem dX11_breaks_1 : decode cX11_breaks 1 = .ok (.invokevirtual 188, 3) := by decide +kernel
theorem dX11_breaks_4 : decode cX11_breaks 4 = .ok (.ifCond .eq 12, 3) := by decide +kernel
theorem dX11_breaks_7 : decode cX11_breaks 7 = .ok (.iload_n 1, 1) := by decide +kernel
theorem dX11_breaks_8 : decode cX11_breaks 8 = .ok (.ifCond .lt 8, 3) := by decide +kernel
theorem dX11_breaks_11 : decode cX11_breaks 11 = .ok (.iload_n 1, 1) := by decide +kernel
theorem dX11_breaks_12 : decode cX11_breaks 12 = .ok (.iconst 1, 1) := by decide +kernel
theorem dX11_breaks_13 : decode cX11_breaks 13 = .ok (.if_icmp .le 5, 3) := by decide +kernel
theorem dX11_breaks_16 : decode cX11_breaks 16 = .ok (.iconst (-1), 1) := by decide +kernel
theorem dX11_breaks_17 : decode cX11_breaks 17 = .ok (.ireturn, 1) := by decide +kernel
theorem dX11_breaks_18 : decode cX11_breaks 18 = .ok (.aload_n 0, 1) := by decide +kernel
theorem dX11_breaks_19 : decode cX11_breaks 19 = .ok (.getfield 73, 3) := by decide +kernel
theorem dX11_breaks_22 : decode cX11_breaks 22 = .ok (.aload_n 0, 1) := by decide +kernel
theorem dX11_breaks_23 : decode cX11_breaks 23 = .ok (.getfield 46, 3) := by decide +kernel
theorem dX11_breaks_26 : decode cX11_breaks 26 = .ok (.getfield 79, 3) := by decide +kernel
theorem dX11_breaks_29 : decode cX11_breaks 29 = .ok (.iconst (-1), 1) := by decide +kernel
theorem dX11_breaks_30 : decode cX11_breaks 30 = .ok (.aload_n 0, 1) := by decide +kernel
theorem dX11_breaks_31 : decode cX11_breaks 31 = .ok (.invokevirtual 197, 3) := by decide +kernel
theorem dX11_breaks_34 : decode cX11_breaks 34 = .ok (.invokevirtual 237, 3) := by decide +kernel
theorem dX11_breaks_37 : decode cX11_breaks 37 = .ok (.ifCond .ne 6, 3) := by decide +kernel
theorem dX11_breaks_40 : decode cX11_breaks 40 = .ok (.bipush (-2), 2) := by decide +kernel
theorem dX11_breaks_42 : decode cX11_breaks 42 = .ok (.ireturn, 1) := by decide +kernel
theorem dX11_breaks_43 : decode cX11_breaks 43 = .ok (.iload_n 1, 1) := by decide +kernel
theorem dX11_breaks_44 : decode cX11_breaks 44 = .ok (.ifCond .ne 13, 3) := by decide +kernel
theorem dX11_breaks_47 : decode cX11_breaks 47 = .ok (.aload_n 0, 1) := by decide +kernel
theorem dX11_breaks_48 : decode cX11_breaks 48 = .ok (.getfield 73, 3) := by decide +kernel
theorem dX11_breaks_51 : decode cX11_breaks 51 = .ok (.getfield 241, 3) := by decide +kernel
theorem dX11_breaks_54 : decode cX11_breaks 54 = .ok (.goto 10, 3) := by decide +kernel
theorem dX11_breaks_57 : decode cX11_breaks 57 = .ok (.aload_n 0, 1) := by decide +kernel
theorem dX11_breaks_58 : decode cX11_breaks 58 = .ok (.getfield 73, 3) := by decide +kernel
theorem dX11_breaks_61 : decode cX11_breaks 61 = .ok (.getfield 244, 3) := by decide +kernel
theorem dX11_breaks_64 : decode cX11_breaks 64 = .ok (.ireturn, 1) := by decide +kernel
theorem dX11_moves_0 : decode cX11_moves 0 = .ok (.aload_n 0, 1) := by decide +kernel
theorem dX11_moves_1 : decode cX11_moves 1 = .ok (.invokevirtual 188, 3) := by decide +kernel
theorem dX11_moves_4 : decode cX11_moves 4 = .ok (.ifCond .eq 11, 3) := by decide +kernel
theorem dX11_moves_7 : decode cX11_moves 7 = .ok (.aload_n 0, 1) := by decide +kernel
theorem dX11_moves_8 : decode cX11_moves 8 = .ok (.iload_n 1, 1) := by decide +kernel
theorem dX11_moves_9 : decode cX11_moves 9 = .ok (.invokevirtual 247, 3) := by decide +kernel
theorem dX11_moves_12 : decode cX11_moves 12 = .ok (.ifCond .ne 5, 3) := by decide +kernel
theorem dX11_moves_15 : decode cX11_moves 15 = .ok (.iconst (-1), 1) := by decide +kernel
theorem dX11_moves_16 : decode cX11_moves 16 = .ok (.ireturn, 1) := by decide +kernel
theorem dX11_moves_17 : decode cX11_moves 17 = .ok (.aload_n 0, 1) := by decide +kernel
theorem dX11_moves_18 : decode cX11_moves 18 = .ok (.getfield 86, 3) := by decide +kernel
theorem dX11_moves_21 : decode cX11_moves 21 = .ok (.iload_n 1, 1) := by decide +kernel
theorem dX11_moves_22 : decode cX11_moves 22 = .ok (.invokevirtual 250, 3) := by decide +kernel
theorem dX11_moves_25 : decode cX11_moves 25 = .ok (.ireturn, 1) := by decide +kernel
theorem dX11_move_0 : decode cX11_move 0 = .ok (.aload_n 0, 1) := by decide +kernel
theorem dX11_move_1 : decode cX11_move 1 = .ok (.invokevirtual 188, 3) := by decide +kernel
theorem dX11_move_4 : decode cX11_move 4 = .ok (.ifCond .eq 24, 3) := by decide +kernel
theorem dX11_move_7 : decode cX11_move 7 = .ok (.aload_n 0, 1) := by decide +kernel
theorem dX11_move_8 : decode cX11_move 8 = .ok (.iload_n 1, 1) := by decide +kernel
theorem dX11_move_9 : decode cX11_move 9 = .ok (.invokevirtual 247, 3) := by decide +kernel
theorem dX11_move_12 : decode cX11_move 12 = .ok (.ifCond .eq 16, 3) := by decide +kernel
theorem dX11_move_15 : decode cX11_move 15 = .ok (.iload_n 2, 1) := by decide +kernel
theorem dX11_move_16 : decode cX11_move 16 = .ok (.ifCond .lt 12, 3) := by decide +kernel
theorem dX11_move_19 : decode cX11_move 19 = .ok (.iload_n 3, 1) := by decide +kernel
theorem dX11_move_20 : decode cX11_move 20 = .ok (.ifCond .lt 8, 3) := by decide +kernel
theorem dX11_move_23 : decode cX11_move 23 = .ok (.iload_n 3, 1) := by decide +kernel
theorem dX11_move_24 : decode cX11_move 24 = .ok (.iconst 2, 1) := by decide +kernel
theorem dX11_move_25 : decode cX11_move 25 = .ok (.if_icmp .le 6, 3) := by decide +kernel
theorem dX11_move_28 : decode cX11_move 28 = .ok (.bipush (-3), 2) := by decide +kernel
theorem dX11_move_30 : decode cX11_move 30 = .ok (.ireturn, 1) := by decide +kernel
theorem dX11_move_31 : decode cX11_move 31 = .ok (.iload_n 2, 1) := by decide +kernel
theorem dX11_move_32 : decode cX11_move 32 = .ok (.aload_n 0, 1) := by decide +kernel
theorem dX11_move_33 : decode cX11_move 33 = .ok (.getfield 86, 3) := by decide +kernel
theorem dX11_move_36 : decode cX11_move 36 = .ok (.iload_n 1, 1) := by decide +kernel
theorem dX11_move_37 : decode cX11_move 37 = .ok (.invokevirtual 250, 3) := by decide +kernel
theorem dX11_move_40 : decode cX11_move 40 = .ok (.if_icmp .lt 6, 3) := by decide +kernel
theorem dX11_move_43 : decode cX11_move 43 = .ok (.bipush (-2), 2) := by decide +kernel
theorem dX11_move_45 : decode cX11_move 45 = .ok (.ireturn, 1) := by decide +kernel
theorem dX11_move_46 : decode cX11_move 46 = .ok (.aload_n 0, 1) := by decide +kernel
theorem dX11_move_47 : decode cX11_move 47 = .ok (.getfield 86, 3) := by decide +kernel
theorem dX11_move_50 : decode cX11_move 50 = .ok (.iload_n 2, 1) := by decide +kernel
theorem dX11_move_51 : decode cX11_move 51 = .ok (.iload_n 3, 1) := by decide +kernel
theorem dX11_move_52 : decode cX11_move 52 = .ok (.invokevirtual 253, 3) := by decide +kernel
theorem dX11_move_55 : decode cX11_move 55 = .ok (.ireturn, 1) := by decide +kernel
theorem dX11_squeeze_0 : decode cX11_squeeze 0 = .ok (.aload_n 0, 1) := by decide +kernel
theorem dX11_squeeze_1 : decode cX11_squeeze 1 = .ok (.invokevirtual 188, 3) := by decide +kernel
theorem dX11_squeeze_4 : decode cX11_squeeze 4 = .ok (.ifCond .eq 11, 3) := by decide +kernel
theorem dX11_squeeze_7 : decode cX11_squeeze 7 = .ok (.aload_n 0, 1) := by decide +kernel
theorem dX11_squeeze_8 : decode cX11_squeeze 8 = .ok (.iload_n 1, 1) := by decide +kernel
theorem dX11_squeeze_9 : decode cX11_squeeze 9 = .ok (.invokevirtual 247, 3) := by decide +kernel
theorem dX11_squeeze_12 : decode cX11_squeeze 12 = .ok (.ifCond .ne 5, 3) := by decide +kernel
theorem dX11_squeeze_15 : decode cX11_squeeze 15 = .ok (.iconst (-1), 1) := by decide +kernel
theorem dX11_squeeze_16 : decode cX11_squeeze 16 = .ok (.ireturn, 1) := by decide +kernel
theorem dX11_squeeze_17 : decode cX11_squeeze 17 = .ok (.aload_n 0, 1) := by decide +kernel
theorem dX11_squeeze_18 : decode cX11_squeeze 18 = .ok (.getfield 86, 3) := by decide +kernel
theorem dX11_squeeze_21 : decode cX11_squeeze 21 = .ok (.iload_n 1, 1) := by decide +kernel
theorem dX11_squeeze_22 : decode cX11_squeeze 22 = .ok (.invokevirtual 256, 3) := by decide +kernel
theorem dX11_squeeze_25 : decode cX11_squeeze 25 = .ok (.ireturn, 1) := by decide +kernel
theorem dX11_mending_0 : decode cX11_mending 0 = .ok (.aload_n 0, 1) := by decide +kernel
theorem dX11_mending_1 : decode cX11_mending 1 = .ok (.invokevirtual 188, 3) := by decide +kernel
theorem dX11_mending_4 : decode cX11_mending 4 = .ok (.ifCond .eq 12, 3) := by decide +kernel
theorem dX11_mending_7 : decode cX11_mending 7 = .ok (.iload_n 1, 1) := by decide +kernel
theorem dX11_mending_8 : decode cX11_mending 8 = .ok (.ifCond .lt 8, 3) := by decide +kernel
theorem dX11_mending_11 : decode cX11_mending 11 = .ok (.iload_n 1, 1) := by decide +kernel
theorem dX11_mending_12 : decode cX11_mending 12 = .ok (.iconst 1, 1) := by decide +kernel
theorem dX11_mending_13 : decode cX11_mending 13 = .ok (.if_icmp .le 6, 3) := by decide +kernel
theorem dX11_mending_16 : decode cX11_mending 16 = .ok (.bipush (-3), 2) := by decide +kernel
theorem dX11_mending_18 : decode cX11_mending 18 = .ok (.ireturn, 1) := by decide +kernel
theorem dX11_mending_19 : decode cX11_mending 19 = .ok (.aload_n 0, 1) := by decide +kernel
theorem dX11_mending_20 : decode cX11_mending 20 = .ok (.getfield 73, 3) := by decide +kernel
theorem dX11_mending_23 : decode cX11_mending 23 = .ok (.aload_n 0, 1) := by decide +kernel
theorem dX11_mending_24 : decode cX11_mending 24 = .ok (.getfield 46, 3) := by decide +kernel
theorem dX11_mending_27 : decode cX11_mending 27 = .ok (.getfield 79, 3) := by decide +kernel
theorem dX11_mending_30 : decode cX11_mending 30 = .ok (.aload_n 0, 1) := by decide +kernel
theorem dX11_mending_31 : decode cX11_mending 31 = .ok (.invokevirtual 197, 3) := by decide +kernel
theorem dX11_mending_34 : decode cX11_mending 34 = .ok (.invokevirtual 259, 3) := by decide +kernel
theorem dX11_mending_37 : decode cX11_mending 37 = .ok (.iload_n 1, 1) := by decide +kernel
theorem dX11_mending_38 : decode cX11_mending 38 = .ok (.ifCond .ne 13, 3) := by decide +kernel
theorem dX11_mending_41 : decode cX11_mending 41 = .ok (.aload_n 0, 1) := by decide +kernel
theorem dX11_mending_42 : decode cX11_mending 42 = .ok (.getfield 73, 3) := by decide +kernel
theorem dX11_mending_45 : decode cX11_mending 45 = .ok (.getfield 263, 3) := by decide +kernel
theorem dX11_mending_48 : decode cX11_mending 48 = .ok (.goto 10, 3) := by decide +kernel
theorem dX11_mending_51 : decode cX11_mending 51 = .ok (.aload_n 0, 1) := by decide +kernel
theorem dX11_mending_52 : decode cX11_mending 52 = .ok (.getfield 73, 3) := by decide +kernel
theorem dX11_mending_55 : decode cX11_mending 55 = .ok (.getfield 266, 3) := by decide +kernel
theorem dX11_mending_58 : decode cX11_mending 58 = .ok (.ireturn, 1) := by decide +kernel
theorem dX11_capital_0 : decode cX11_capital 0 = .ok (.aload_n 0, 1) := by decide +kernel
theorem dX11_capital_1 : decode cX11_capital 1 = .ok (.getfield 46, 3) := by decide +kernel
theorem dX11_capital_4 : decode cX11_capital 4 = .ok (.getfield 79, 3) := by decide +kernel
theorem dX11_capital_7 : decode cX11_capital 7 = .ok (.invokevirtual 269, 3) := by decide +kernel
theorem dX11_capital_10 : decode cX11_capital 10 = .ok (.ireturn, 1) := by decide +kernel
theorem dX11_ballot_0 : decode cX11_ballot 0 = .ok (.aload_n 0, 1) := by decide +kernel
theorem dX11_ballot_1 : decode cX11_ballot 1 = .ok (.invokevirtual 188, 3) := by decide +kernel
theorem dX11_ballot_4 : decode cX11_ballot 4 = .ok (.ifCond .eq 20, 3) := by decide +kernel
theorem dX11_ballot_7 : decode cX11_ballot 7 = .ok (.aload_n 0, 1) := by decide +kernel
theorem dX11_ballot_8 : decode cX11_ballot 8 = .ok (.getfield 93, 3) := by decide +kernel
theorem dX11_ballot_11 : decode cX11_ballot 11 = .ok (.aload_n 0, 1) := by decide +kernel
theorem dX11_ballot_12 : decode cX11_ballot 12 = .ok (.getfield 46, 3) := by decide +kernel
theorem dX11_ballot_15 : decode cX11_ballot 15 = .ok (.getfield 79, 3) := by decide +kernel
theorem dX11_ballot_18 : decode cX11_ballot 18 = .ok (.invokevirtual 273, 3) := by decide +kernel
theorem dX11_ballot_21 : decode cX11_ballot 21 = .ok (.goto 4, 3) := by decide +kernel
theorem dX11_ballot_24 : decode cX11_ballot 24 = .ok (.iconst (-1), 1) := by decide +kernel
theorem dX11_ballot_25 : decode cX11_ballot 25 = .ok (.ireturn, 1) := by decide +kernel
theorem dX11_hold_0 : decode cX11_hold 0 = .ok (.aload_n 0, 1) := by decide +kernel
theorem dX11_hold_1 : decode cX11_hold 1 = .ok (.invokevirtual 188, 3) := by decide +kernel
theorem dX11_hold_4 : decode cX11_hold 4 = .ok (.ifCond .eq 22, 3) := by decide +kernel
theorem dX11_hold_7 : decode cX11_hold 7 = .ok (.iload_n 1, 1) := by decide +kernel
theorem dX11_hold_8 : decode cX11_hold 8 = .ok (.iconst 1, 1) := by decide +kernel
theorem dX11_hold_9 : decode cX11_hold 9 = .ok (.if_icmp .lt 17, 3) := by decide +kernel
theorem dX11_hold_12 : decode cX11_hold 12 = .ok (.iload_n 1, 1) := by decide +kernel
theorem dX11_hold_13 : decode cX11_hold 13 = .ok (.iconst 4, 1) := by decide +kernel
theorem dX11_hold_14 : decode cX11_hold 14 = .ok (.if_icmp .gt 12, 3) := by decide +kernel
theorem dX11_hold_17 : decode cX11_hold 17 = .ok (.iload_n 2, 1) := by decide +kernel
theorem dX11_hold_18 : decode cX11_hold 18 = .ok (.ifCond .lt 8, 3) := by decide +kernel
theorem dX11_hold_21 : decode cX11_hold 21 = .ok (.iload_n 2, 1) := by decide +kernel
theorem dX11_hold_22 : decode cX11_hold 22 = .ok (.iconst 1, 1) := by decide +kernel
theorem dX11_hold_23 : decode cX11_hold 23 = .ok (.if_icmp .le 6, 3) := by decide +kernel
theorem dX11_hold_26 : decode cX11_hold 26 = .ok (.bipush (-2), 2) := by decide +kernel
theorem dX11_hold_28 : decode cX11_hold 28 = .ok (.ireturn, 1) := by decide +kernel
theorem dX11_hold_29 : decode cX11_hold 29 = .ok (.aload_n 0, 1) := by decide +kernel
theorem dX11_hold_30 : decode cX11_hold 30 = .ok (.getfield 93, 3) := by decide +kernel
theorem dX11_hold_33 : decode cX11_hold 33 = .ok (.aload_n 0, 1) := by decide +kernel
theorem dX11_hold_34 : decode cX11_hold 34 = .ok (.getfield 46, 3) := by decide +kernel
theorem dX11_hold_37 : decode cX11_hold 37 = .ok (.getfield 79, 3) := by decide +kernel
theorem dX11_hold_40 : decode cX11_hold 40 = .ok (.iload_n 1, 1) := by decide +kernel
theorem dX11_hold_41 : decode cX11_hold 41 = .ok (.invokevirtual 277, 3) := by decide +kernel
theorem dX11_hold_44 : decode cX11_hold 44 = .ok (.istore_n 3, 1) := by decide +kernel
theorem dX11_hold_45 : decode cX11_hold 45 = .ok (.iload_n 2, 1) := by decide +kernel
theorem dX11_hold_46 : decode cX11_hold 46 = .ok (.ifCond .ne 7, 3) := by decide +kernel
theorem dX11_hold_49 : decode cX11_hold 49 = .ok (.iload_n 3, 1) := by decide +kernel
theorem dX11_hold_50 : decode cX11_hold 50 = .ok (.goto 10, 3) := by decide +kernel
theorem dX11_hold_53 : decode cX11_hold 53 = .ok (.aload_n 0, 1) := by decide +kernel
theorem dX11_hold_54 : decode cX11_hold 54 = .ok (.getfield 93, 3) := by decide +kernel
theorem dX11_hold_57 : decode cX11_hold 57 = .ok (.getfield 281, 3) := by decide +kernel
theorem dX11_hold_60 : decode cX11_hold 60 = .ok (.ireturn, 1) := by decide +kernel
theorem dX11_goods_0 : decode cX11_goods 0 = .ok (.aload_n 0, 1) := by decide +kernel
theorem dX11_goods_1 : decode cX11_goods 1 = .ok (.iload_n 1, 1) := by decide +kernel
theorem dX11_goods_2 : decode cX11_goods 2 = .ok (.invokevirtual 166, 3) := by decide +kernel
theorem dX11_goods_5 : decode cX11_goods 5 = .ok (.ifCond .eq 11, 3) := by decide +kernel
theorem dX11_goods_8 : decode cX11_goods 8 = .ok (.aload_n 0, 1) := by decide +kernel
theorem dX11_goods_9 : decode cX11_goods 9 = .ok (.iload_n 2, 1) := by decide +kernel
theorem dX11_goods_10 : decode cX11_goods 10 = .ok (.invokevirtual 166, 3) := by decide +kernel
theorem dX11_goods_13 : decode cX11_goods 13 = .ok (.ifCond .ne 5, 3) := by decide +kernel
theorem dX11_goods_16 : decode cX11_goods 16 = .ok (.iconst (-1), 1) := by decide +kernel
theorem dX11_goods_17 : decode cX11_goods 17 = .ok (.ireturn, 1) := by decide +kernel
theorem dX11_goods_18 : decode cX11_goods 18 = .ok (.aload_n 0, 1) := by decide +kernel
theorem dX11_goods_19 : decode cX11_goods 19 = .ok (.getfield 73, 3) := by decide +kernel
theorem dX11_goods_22 : decode cX11_goods 22 = .ok (.aload_n 0, 1) := by decide +kernel
theorem dX11_goods_23 : decode cX11_goods 23 = .ok (.getfield 46, 3) := by decide +kernel
theorem dX11_goods_26 : decode cX11_goods 26 = .ok (.getfield 79, 3) := by decide +kernel
theorem dX11_goods_29 : decode cX11_goods 29 = .ok (.aload_n 0, 1) := by decide +kernel
theorem dX11_goods_30 : decode cX11_goods 30 = .ok (.invokevirtual 197, 3) := by decide +kernel
theorem dX11_goods_33 : decode cX11_goods 33 = .ok (.iload_n 1, 1) := by decide +kernel
theorem dX11_goods_34 : decode cX11_goods 34 = .ok (.iload_n 2, 1) := by decide +kernel
theorem dX11_goods_35 : decode cX11_goods 35 = .ok (.invokevirtual 284, 3) := by decide +kernel
theorem dX11_goods_38 : decode cX11_goods 38 = .ok (.ireturn, 1) := by decide +kernel
theorem dX11_stand_0 : decode cX11_stand 0 = .ok (.aload_n 0, 1) := by decide +kernel
theorem dX11_stand_1 : decode cX11_stand 1 = .ok (.iload_n 1, 1) := by decide +kernel
theorem dX11_stand_2 : decode cX11_stand 2 = .ok (.invokevirtual 166, 3) := by decide +kernel
theorem dX11_stand_5 : decode cX11_stand 5 = .ok (.ifCond .eq 28, 3) := by decide +kernel
theorem dX11_stand_8 : decode cX11_stand 8 = .ok (.aload_n 0, 1) := by decide +kernel
theorem dX11_stand_9 : decode cX11_stand 9 = .ok (.getfield 46, 3) := by decide +kernel
theorem dX11_stand_12 : decode cX11_stand 12 = .ok (.getfield 79, 3) := by decide +kernel
theorem dX11_stand_15 : decode cX11_stand 15 = .ok (.iload_n 1, 1) := by decide +kernel
theorem dX11_stand_16 : decode cX11_stand 16 = .ok (.invokevirtual 178, 3) := by decide +kernel
theorem dX11_stand_19 : decode cX11_stand 19 = .ok (.ifCond .ne 14, 3) := by decide +kernel
theorem dX11_stand_22 : decode cX11_stand 22 = .ok (.iload_n 2, 1) := by decide +kernel
theorem dX11_stand_23 : decode cX11_stand 23 = .ok (.iconst 1, 1) := by decide +kernel
theorem dX11_stand_24 : decode cX11_stand 24 = .ok (.if_icmp .lt 9, 3) := by decide +kernel
theorem dX11_stand_27 : decode cX11_stand 27 = .ok (.iload_n 2, 1) := by decide +kernel
theorem dX11_stand_28 : decode cX11_stand 28 = .ok (.bipush 20, 2) := by decide +kernel
theorem dX11_stand_30 : decode cX11_stand 30 = .ok (.if_icmp .le 5, 3) := by decide +kernel
theorem dX11_stand_33 : decode cX11_stand 33 = .ok (.iconst (-1), 1) := by decide +kernel
theorem dX11_stand_34 : decode cX11_stand 34 = .ok (.ireturn, 1) := by decide +kernel
theorem dX11_stand_35 : decode cX11_stand 35 = .ok (.aload_n 0, 1) := by decide +kernel
theorem dX11_stand_36 : decode cX11_stand 36 = .ok (.getfield 46, 3) := by decide +kernel
theorem dX11_stand_39 : decode cX11_stand 39 = .ok (.getfield 79, 3) := by decide +kernel
theorem dX11_stand_42 : decode cX11_stand 42 = .ok (.iload_n 1, 1) := by decide +kernel
theorem dX11_stand_43 : decode cX11_stand 43 = .ok (.iload_n 2, 1) := by decide +kernel
theorem dX11_stand_44 : decode cX11_stand 44 = .ok (.invokevirtual 288, 3) := by decide +kernel
theorem dX11_stand_47 : decode cX11_stand 47 = .ok (.ireturn, 1) := by decide +kernel
theorem dX11_note_0 : decode cX11_note 0 = .ok (.iload_n 1, 1) := by decide +kernel
theorem dX11_note_1 : decode cX11_note 1 = .ok (.iconst (-1), 1) := by decide +kernel
theorem dX11_note_2 : decode cX11_note 2 = .ok (.if_icmp .ne 13, 3) := by decide +kernel
theorem dX11_note_5 : decode cX11_note 5 = .ok (.aload_n 0, 1) := by decide +kernel
theorem dX11_note_6 : decode cX11_note 6 = .ok (.getfield 46, 3) := by decide +kernel
theorem dX11_note_9 : decode cX11_note 9 = .ok (.iconst 0, 1) := by decide +kernel
theorem dX11_note_10 : decode cX11_note 10 = .ok (.putfield 115, 3) := by decide +kernel
theorem dX11_note_13 : decode cX11_note 13 = .ok (.iconst 0, 1) := by decide +kernel
theorem dX11_note_14 : decode cX11_note 14 = .ok (.ireturn, 1) := by decide +kernel
theorem dX11_note_15 : decode cX11_note 15 = .ok (.iload_n 1, 1) := by decide +kernel
theorem dX11_note_16 : decode cX11_note 16 = .ok (.ifCond .lt 26, 3) := by decide +kernel
theorem dX11_note_19 : decode cX11_note 19 = .ok (.iload_n 1, 1) := by decide +kernel
theorem dX11_note_20 : decode cX11_note 20 = .ok (.bipush 60, 2) := by decide +kernel
theorem dX11_note_22 : decode cX11_note 22 = .ok (.if_icmp .gt 20, 3) := by decide +kernel
theorem dX11_note_25 : decode cX11_note 25 = .ok (.aload_n 0, 1) := by decide +kernel
theorem dX11_note_26 : decode cX11_note 26 = .ok (.iload_n 2, 1) := by decide +kernel
theorem dX11_note_27 : decode cX11_note 27 = .ok (.invokevirtual 166, 3) := by decide +kernel
theorem dX11_note_30 : decode cX11_note 30 = .ok (.ifCond .eq 12, 3) := by decide +kernel
theorem dX11_note_33 : decode cX11_note 33 = .ok (.iload_n 3, 1) := by decide +kernel
theorem dX11_note_34 : decode cX11_note 34 = .ok (.ifCond .lt 8, 3) := by decide +kernel
theorem dX11_note_37 : decode cX11_note 37 = .ok (.iload_n 3, 1) := by decide +kernel
theorem dX11_note_38 : decode cX11_note 38 = .ok (.iconst 4, 1) := by decide +kernel
theorem dX11_note_39 : decode cX11_note 39 = .ok (.if_icmp .le 6, 3) := by decide +kernel
theorem dX11_note_42 : decode cX11_note 42 = .ok (.bipush (-2), 2) := by decide +kernel
theorem dX11_note_44 : decode cX11_note 44 = .ok (.ireturn, 1) := by decide +kernel
theorem dX11_note_45 : decode cX11_note 45 = .ok (.aload_n 0, 1) := by decide +kernel
theorem dX11_note_46 : decode cX11_note 46 = .ok (.getfield 46, 3) := by decide +kernel
theorem dX11_note_49 : decode cX11_note 49 = .ok (.iload_n 1, 1) := by decide +kernel
theorem dX11_note_50 : decode cX11_note 50 = .ok (.iload_n 2, 1) := by decide +kernel
theorem dX11_note_51 : decode cX11_note 51 = .ok (.iload_n 3, 1) := by decide +kernel
theorem dX11_note_52 : decode cX11_note 52 = .ok (.invokevirtual 291, 3) := by decide +kernel
theorem dX11_note_55 : decode cX11_note 55 = .ok (.ireturn, 1) := by decide +kernel
theorem dX11_ruled_0 : decode cX11_ruled 0 = .ok (.aload_n 0, 1) := by decide +kernel
theorem dX11_ruled_1 : decode cX11_ruled 1 = .ok (.invokevirtual 188, 3) := by decide +kernel
theorem dX11_ruled_4 : decode cX11_ruled 4 = .ok (.ifCond .eq 12, 3) := by decide +kernel
theorem dX11_ruled_7 : decode cX11_ruled 7 = .ok (.iload_n 1, 1) := by decide +kernel
theorem dX11_ruled_8 : decode cX11_ruled 8 = .ok (.ifCond .lt 8, 3) := by decide +kernel
theorem dX11_ruled_11 : decode cX11_ruled 11 = .ok (.iload_n 1, 1) := by decide +kernel
theorem dX11_ruled_12 : decode cX11_ruled 12 = .ok (.iconst 1, 1) := by decide +kernel
theorem dX11_ruled_13 : decode cX11_ruled 13 = .ok (.if_icmp .le 6, 3) := by decide +kernel
theorem dX11_ruled_16 : decode cX11_ruled 16 = .ok (.bipush (-3), 2) := by decide +kernel
theorem dX11_ruled_18 : decode cX11_ruled 18 = .ok (.ireturn, 1) := by decide +kernel
theorem dX11_ruled_19 : decode cX11_ruled 19 = .ok (.aload_n 0, 1) := by decide +kernel
theorem dX11_ruled_20 : decode cX11_ruled 20 = .ok (.getfield 73, 3) := by decide +kernel
theorem dX11_ruled_23 : decode cX11_ruled 23 = .ok (.aload_n 0, 1) := by decide +kernel
theorem dX11_ruled_24 : decode cX11_ruled 24 = .ok (.getfield 46, 3) := by decide +kernel
theorem dX11_ruled_27 : decode cX11_ruled 27 = .ok (.aload_n 0, 1) := by decide +kernel
theorem dX11_ruled_28 : decode cX11_ruled 28 = .ok (.getfield 37, 3) := by decide +kernel
theorem dX11_ruled_31 : decode cX11_ruled 31 = .ok (.aload_n 0, 1) := by decide +kernel
theorem dX11_ruled_32 : decode cX11_ruled 32 = .ok (.getfield 124, 3) := by decide +kernel
theorem dX11_ruled_35 : decode cX11_ruled 35 = .ok (.iconst 0, 1) := by decide +kernel
theorem dX11_ruled_36 : decode cX11_ruled 36 = .ok (.invokevirtual 295, 3) := by decide +kernel
theorem dX11_ruled_39 : decode cX11_ruled 39 = .ok (.iload_n 1, 1) := by decide +kernel
theorem dX11_ruled_40 : decode cX11_ruled 40 = .ok (.ifCond .ne 13, 3) := by decide +kernel
theorem dX11_ruled_43 : decode cX11_ruled 43 = .ok (.aload_n 0, 1) := by decide +kernel
theorem dX11_ruled_44 : decode cX11_ruled 44 = .ok (.getfield 73, 3) := by decide +kernel
theorem dX11_ruled_47 : decode cX11_ruled 47 = .ok (.getfield 299, 3) := by decide +kernel
theorem dX11_ruled_50 : decode cX11_ruled 50 = .ok (.goto 10, 3) := by decide +kernel
theorem dX11_ruled_53 : decode cX11_ruled 53 = .ok (.aload_n 0, 1) := by decide +kernel
theorem dX11_ruled_54 : decode cX11_ruled 54 = .ok (.getfield 73, 3) := by decide +kernel
theorem dX11_ruled_57 : decode cX11_ruled 57 = .ok (.getfield 302, 3) := by decide +kernel
theorem dX11_ruled_60 : decode cX11_ruled 60 = .ok (.ireturn, 1) := by decide +kernel
theorem dX11_look_0 : decode cX11_look 0 = .ok (.aload_n 0, 1) := by decide +kernel
theorem dX11_look_1 : decode cX11_look 1 = .ok (.invokevirtual 188, 3) := by decide +kernel
theorem dX11_look_4 : decode cX11_look 4 = .ok (.ifCond .eq 22, 3) := by decide +kernel
theorem dX11_look_7 : decode cX11_look 7 = .ok (.iload_n 1, 1) := by decide +kernel
theorem dX11_look_8 : decode cX11_look 8 = .ok (.ifCond .lt 18, 3) := by decide +kernel
theorem dX11_look_11 : decode cX11_look 11 = .ok (.iload_n 1, 1) := by decide +kernel
theorem dX11_look_12 : decode cX11_look 12 = .ok (.bipush 60, 2) := by decide +kernel
theorem dX11_look_14 : decode cX11_look 14 = .ok (.if_icmp .gt 12, 3) := by decide +kernel
theorem dX11_look_17 : decode cX11_look 17 = .ok (.iload_n 2, 1) := by decide +kernel
theorem dX11_look_18 : decode cX11_look 18 = .ok (.ifCond .lt 8, 3) := by decide +kernel
theorem dX11_look_21 : decode cX11_look 21 = .ok (.iload_n 2, 1) := by decide +kernel
theorem dX11_look_22 : decode cX11_look 22 = .ok (.iconst 1, 1) := by decide +kernel
theorem dX11_look_23 : decode cX11_look 23 = .ok (.if_icmp .le 5, 3) := by decide +kernel
theorem dX11_look_26 : decode cX11_look 26 = .ok (.iconst (-1), 1) := by decide +kernel
theorem dX11_look_27 : decode cX11_look 27 = .ok (.ireturn, 1) := by decide +kernel
theorem dX11_look_28 : decode cX11_look 28 = .ok (.aload_n 0, 1) := by decide +kernel
theorem dX11_look_29 : decode cX11_look 29 = .ok (.getfield 73, 3) := by decide +kernel
theorem dX11_look_32 : decode cX11_look 32 = .ok (.aload_n 0, 1) := by decide +kernel
theorem dX11_look_33 : decode cX11_look 33 = .ok (.getfield 46, 3) := by decide +kernel
theorem dX11_look_36 : decode cX11_look 36 = .ok (.aload_n 0, 1) := by decide +kernel
theorem dX11_look_37 : decode cX11_look 37 = .ok (.getfield 37, 3) := by decide +kernel
theorem dX11_look_40 : decode cX11_look 40 = .ok (.aload_n 0, 1) := by decide +kernel
theorem dX11_look_41 : decode cX11_look 41 = .ok (.getfield 124, 3) := by decide +kernel
theorem dX11_look_44 : decode cX11_look 44 = .ok (.iload_n 1, 1) := by decide +kernel
theorem dX11_look_45 : decode cX11_look 45 = .ok (.invokevirtual 295, 3) := by decide +kernel
theorem dX11_look_48 : decode cX11_look 48 = .ok (.aload_n 0, 1) := by decide +kernel
theorem dX11_look_49 : decode cX11_look 49 = .ok (.getfield 73, 3) := by decide +kernel
theorem dX11_look_52 : decode cX11_look 52 = .ok (.getfield 299, 3) := by decide +kernel
theorem dX11_look_55 : decode cX11_look 55 = .ok (.ifCond .ne 6, 3) := by decide +kernel
theorem dX11_look_58 : decode cX11_look 58 = .ok (.bipush (-2), 2) := by decide +kernel
theorem dX11_look_60 : decode cX11_look 60 = .ok (.ireturn, 1) := by decide +kernel
theorem dX11_look_61 : decode cX11_look 61 = .ok (.aload_n 0, 1) := by decide +kernel
theorem dX11_look_62 : decode cX11_look 62 = .ok (.getfield 73, 3) := by decide +kernel
theorem dX11_look_65 : decode cX11_look 65 = .ok (.aload_n 0, 1) := by decide +kernel
theorem dX11_look_66 : decode cX11_look 66 = .ok (.getfield 46, 3) := by decide +kernel
theorem dX11_look_69 : decode cX11_look 69 = .ok (.getfield 79, 3) := by decide +kernel
theorem dX11_look_72 : decode cX11_look 72 = .ok (.getfield 146, 3) := by decide +kernel
theorem dX11_look_75 : decode cX11_look 75 = .ok (.getfield 305, 3) := by decide +kernel
theorem dX11_look_78 : decode cX11_look 78 = .ok (.invokevirtual 308, 3) := by decide +kernel
theorem dX11_look_81 : decode cX11_look 81 = .ok (.iload_n 2, 1) := by decide +kernel
theorem dX11_look_82 : decode cX11_look 82 = .ok (.ifCond .ne 13, 3) := by decide +kernel
theorem dX11_look_85 : decode cX11_look 85 = .ok (.aload_n 0, 1) := by decide +kernel
theorem dX11_look_86 : decode cX11_look 86 = .ok (.getfield 73, 3) := by decide +kernel
theorem dX11_look_89 : decode cX11_look 89 = .ok (.getfield 311, 3) := by decide +kernel
theorem dX11_look_92 : decode cX11_look 92 = .ok (.goto 10, 3) := by decide +kernel
theorem dX11_look_95 : decode cX11_look 95 = .ok (.aload_n 0, 1) := by decide +kernel
theorem dX11_look_96 : decode cX11_look 96 = .ok (.getfield 73, 3) := by decide +kernel
theorem dX11_look_99 : decode cX11_look 99 = .ok (.getfield 314, 3) := by decide +kernel
theorem dX11_look_102 : decode cX11_look 102 = .ok (.ireturn, 1) := by decide +kernel
theorem dX11_seed_0 : decode cX11_seed 0 = .ok (.iload_n 1, 1) := by decide +kernel
theorem dX11_seed_1 : decode cX11_seed 1 = .ok (.ifCond .ge 5, 3) := by decide +kernel
theorem dX11_seed_4 : decode cX11_seed 4 = .ok (.iconst (-1), 1) := by decide +kernel
theorem dX11_seed_5 : decode cX11_seed 5 = .ok (.ireturn, 1) := by decide +kernel
theorem dX11_seed_6 : decode cX11_seed 6 = .ok (.aload_n 0, 1) := by decide +kernel
theorem dX11_seed_7 : decode cX11_seed 7 = .ok (.getfield 46, 3) := by decide +kernel
theorem dX11_seed_10 : decode cX11_seed 10 = .ok (.getfield 317, 3) := by decide +kernel
theorem dX11_seed_13 : decode cX11_seed 13 = .ok (.istore_n 2, 1) := by decide +kernel
theorem dX11_seed_14 : decode cX11_seed 14 = .ok (.aload_n 0, 1) := by decide +kernel
theorem dX11_seed_15 : decode cX11_seed 15 = .ok (.getfield 46, 3) := by decide +kernel
theorem dX11_seed_18 : decode cX11_seed 18 = .ok (.iload_n 1, 1) := by decide +kernel
theorem dX11_seed_19 : decode cX11_seed 19 = .ok (.putfield 317, 3) := by decide +kernel
theorem dX11_seed_22 : decode cX11_seed 22 = .ok (.iload_n 2, 1) := by decide +kernel
theorem dX11_seed_23 : decode cX11_seed 23 = .ok (.ireturn, 1) := by decide +kernel
theorem dX11_years_0 : decode cX11_years 0 = .ok (.aload_n 0, 1) := by decide +kernel
theorem dX11_years_1 : decode cX11_years 1 = .ok (.invokevirtual 188, 3) := by decide +kernel
theorem dX11_years_4 : decode cX11_years 4 = .ok (.ifCond .eq 25, 3) := by decide +kernel
theorem dX11_years_7 : decode cX11_years 7 = .ok (.iload_n 1, 1) := by decide +kernel
theorem dX11_years_8 : decode cX11_years 8 = .ok (.iconst 1, 1) := by decide +kernel
theorem dX11_years_9 : decode cX11_years 9 = .ok (.if_icmp .lt 20, 3) := by decide +kernel
theorem dX11_years_12 : decode cX11_years 12 = .ok (.iload_n 1, 1) := by decide +kernel
theorem dX11_years_13 : decode cX11_years 13 = .ok (.bipush 10, 2) := by decide +kernel
theorem dX11_years_15 : decode cX11_years 15 = .ok (.if_icmp .gt 14, 3) := by decide +kernel
theorem dX11_years_18 : decode cX11_years 18 = .ok (.iload_n 2, 1) := by decide +kernel
theorem dX11_years_19 : decode cX11_years 19 = .ok (.iconst 1, 1) := by decide +kernel
theorem dX11_years_20 : decode cX11_years 20 = .ok (.if_icmp .lt 9, 3) := by decide +kernel
theorem dX11_years_23 : decode cX11_years 23 = .ok (.iload_n 2, 1) := by decide +kernel
theorem dX11_years_24 : decode cX11_years 24 = .ok (.bipush 60, 2) := by decide +kernel
theorem dX11_years_26 : decode cX11_years 26 = .ok (.if_icmp .le 5, 3) := by decide +kernel
theorem dX11_years_29 : decode cX11_years 29 = .ok (.iconst (-1), 1) := by decide +kernel
theorem dX11_years_30 : decode cX11_years 30 = .ok (.ireturn, 1) := by decide +kernel
theorem dX11_years_31 : decode cX11_years 31 = .ok (.iload_n 3, 1) := by decide +kernel
theorem dX11_years_32 : decode cX11_years 32 = .ok (.ifCond .lt 20, 3) := by decide +kernel
theorem dX11_years_35 : decode cX11_years 35 = .ok (.iload_n 3, 1) := by decide +kernel
theorem dX11_years_36 : decode cX11_years 36 = .ok (.bipush 100, 2) := by decide +kernel
theorem dX11_years_38 : decode cX11_years 38 = .ok (.if_icmp .gt 14, 3) := by decide +kernel
theorem dX11_years_41 : decode cX11_years 41 = .ok (.iload 4, 2) := by decide +kernel
theorem dX11_years_43 : decode cX11_years 43 = .ok (.ifCond .lt 9, 3) := by decide +kernel
theorem dX11_years_46 : decode cX11_years 46 = .ok (.iload 4, 2) := by decide +kernel
theorem dX11_years_48 : decode cX11_years 48 = .ok (.iconst 1, 1) := by decide +kernel
theorem dX11_years_49 : decode cX11_years 49 = .ok (.if_icmp .le 5, 3) := by decide +kernel
theorem dX11_years_52 : decode cX11_years 52 = .ok (.iconst (-1), 1) := by decide +kernel
theorem dX11_years_53 : decode cX11_years 53 = .ok (.ireturn, 1) := by decide +kernel
theorem dX11_years_54 : decode cX11_years 54 = .ok (.aload_n 0, 1) := by decide +kernel
theorem dX11_years_55 : decode cX11_years 55 = .ok (.getfield 73, 3) := by decide +kernel
theorem dX11_years_58 : decode cX11_years 58 = .ok (.aload_n 0, 1) := by decide +kernel
theorem dX11_years_59 : decode cX11_years 59 = .ok (.getfield 46, 3) := by decide +kernel
theorem dX11_years_62 : decode cX11_years 62 = .ok (.aload_n 0, 1) := by decide +kernel
theorem dX11_years_63 : decode cX11_years 63 = .ok (.invokevirtual 197, 3) := by decide +kernel
theorem dX11_years_66 : decode cX11_years 66 = .ok (.iload_n 1, 1) := by decide +kernel
theorem dX11_years_67 : decode cX11_years 67 = .ok (.iload_n 2, 1) := by decide +kernel
theorem dX11_years_68 : decode cX11_years 68 = .ok (.iload_n 3, 1) := by decide +kernel
theorem dX11_years_69 : decode cX11_years 69 = .ok (.invokevirtual 320, 3) := by decide +kernel
theorem dX11_years_72 : decode cX11_years 72 = .ok (.iload 4, 2) := by decide +kernel
theorem dX11_years_74 : decode cX11_years 74 = .ok (.ifCond .ne 13, 3) := by decide +kernel
theorem dX11_years_77 : decode cX11_years 77 = .ok (.aload_n 0, 1) := by decide +kernel
theorem dX11_years_78 : decode cX11_years 78 = .ok (.getfield 73, 3) := by decide +kernel
theorem dX11_years_81 : decode cX11_years 81 = .ok (.getfield 324, 3) := by decide +kernel
theorem dX11_years_84 : decode cX11_years 84 = .ok (.goto 10, 3) := by decide +kernel
theorem dX11_years_87 : decode cX11_years 87 = .ok (.aload_n 0, 1) := by decide +kernel
theorem dX11_years_88 : decode cX11_years 88 = .ok (.getfield 73, 3) := by decide +kernel
theorem dX11_years_91 : decode cX11_years 91 = .ok (.getfield 327, 3) := by decide +kernel
theorem dX11_years_94 : decode cX11_years 94 = .ok (.ireturn, 1) := by decide +kernel
theorem dX11_count_0 : decode cX11_count 0 = .ok (.aload_n 0, 1) := by decide +kernel
theorem dX11_count_1 : decode cX11_count 1 = .ok (.getfield 46, 3) := by decide +kernel
theorem dX11_count_4 : decode cX11_count 4 = .ok (.getfield 79, 3) := by decide +kernel
theorem dX11_count_7 : decode cX11_count 7 = .ok (.astore_n 2, 1) := by decide +kernel
theorem dX11_count_8 : decode cX11_count 8 = .ok (.iload_n 1, 1) := by decide +kernel
theorem dX11_count_9 : decode cX11_count 9 = .ok (.tableswitch 150 0 12 #[67, 75, 83, 88, 93, 98, 106, 111, 116, 121, 129, 134, 142], 67) := by decide +kernel
theorem dX11_count_76 : decode cX11_count 76 = .ok (.aload_n 2, 1) := by decide +kernel
theorem dX11_count_77 : decode cX11_count 77 = .ok (.getfield 146, 3) := by decide +kernel
theorem dX11_count_80 : decode cX11_count 80 = .ok (.getfield 305, 3) := by decide +kernel
theorem dX11_count_83 : decode cX11_count 83 = .ok (.ireturn, 1) := by decide +kernel
theorem dX11_count_84 : decode cX11_count 84 = .ok (.aload_n 2, 1) := by decide +kernel
theorem dX11_count_85 : decode cX11_count 85 = .ok (.getfield 146, 3) := by decide +kernel
theorem dX11_count_88 : decode cX11_count 88 = .ok (.getfield 121, 3) := by decide +kernel
theorem dX11_count_91 : decode cX11_count 91 = .ok (.ireturn, 1) := by decide +kernel
theorem dX11_count_92 : decode cX11_count 92 = .ok (.aload_n 2, 1) := by decide +kernel
theorem dX11_count_93 : decode cX11_count 93 = .ok (.invokevirtual 330, 3) := by decide +kernel
theorem dX11_count_96 : decode cX11_count 96 = .ok (.ireturn, 1) := by decide +kernel
theorem dX11_count_97 : decode cX11_count 97 = .ok (.aload_n 2, 1) := by decide +kernel
theorem dX11_count_98 : decode cX11_count 98 = .ok (.getfield 333, 3) := by decide +kernel
theorem dX11_count_101 : decode cX11_count 101 = .ok (.ireturn, 1) := by decide +kernel
theorem dX11_count_102 : decode cX11_count 102 = .ok (.aload_n 0, 1) := by decide +kernel
theorem dX11_count_103 : decode cX11_count 103 = .ok (.getfield 124, 3) := by decide +kernel
theorem dX11_count_106 : decode cX11_count 106 = .ok (.ireturn, 1) := by decide +kernel
theorem dX11_count_107 : decode cX11_count 107 = .ok (.aload_n 0, 1) := by decide +kernel
theorem dX11_count_108 : decode cX11_count 108 = .ok (.getfield 46, 3) := by decide +kernel
theorem dX11_count_111 : decode cX11_count 111 = .ok (.getfield 135, 3) := by decide +kernel
theorem dX11_count_114 : decode cX11_count 114 = .ok (.ireturn, 1) := by decide +kernel
theorem dX11_count_115 : decode cX11_count 115 = .ok (.aload_n 2, 1) := by decide +kernel
theorem dX11_count_116 : decode cX11_count 116 = .ok (.getfield 191, 3) := by decide +kernel
theorem dX11_count_119 : decode cX11_count 119 = .ok (.ireturn, 1) := by decide +kernel
theorem dX11_count_120 : decode cX11_count 120 = .ok (.aload_n 2, 1) := by decide +kernel
theorem dX11_count_121 : decode cX11_count 121 = .ok (.invokevirtual 336, 3) := by decide +kernel
theorem dX11_count_124 : decode cX11_count 124 = .ok (.ireturn, 1) := by decide +kernel
theorem dX11_count_125 : decode cX11_count 125 = .ok (.aload_n 2, 1) := by decide +kernel
theorem dX11_count_126 : decode cX11_count 126 = .ok (.invokevirtual 339, 3) := by decide +kernel
theorem dX11_count_129 : decode cX11_count 129 = .ok (.ireturn, 1) := by decide +kernel
theorem dX11_count_130 : decode cX11_count 130 = .ok (.aload_n 0, 1) := by decide +kernel
theorem dX11_count_131 : decode cX11_count 131 = .ok (.getfield 46, 3) := by decide +kernel
theorem dX11_count_134 : decode cX11_count 134 = .ok (.getfield 115, 3) := by decide +kernel
theorem dX11_count_137 : decode cX11_count 137 = .ok (.ireturn, 1) := by decide +kernel
theorem dX11_count_138 : decode cX11_count 138 = .ok (.aload_n 0, 1) := by decide +kernel
theorem dX11_count_139 : decode cX11_count 139 = .ok (.getfield 118, 3) := by decide +kernel
theorem dX11_count_142 : decode cX11_count 142 = .ok (.ireturn, 1) := by decide +kernel
theorem dX11_count_143 : decode cX11_count 143 = .ok (.aload_n 0, 1) := by decide +kernel
theorem dX11_count_144 : decode cX11_count 144 = .ok (.getfield 46, 3) := by decide +kernel
theorem dX11_count_147 : decode cX11_count 147 = .ok (.getfield 317, 3) := by decide +kernel
theorem dX11_count_150 : decode cX11_count 150 = .ok (.ireturn, 1) := by decide +kernel
theorem dX11_count_151 : decode cX11_count 151 = .ok (.aload_n 0, 1) := by decide +kernel
theorem dX11_count_152 : decode cX11_count 152 = .ok (.getfield 13, 3) := by decide +kernel
theorem dX11_count_155 : decode cX11_count 155 = .ok (.getfield 97, 3) := by decide +kernel
theorem dX11_count_158 : decode cX11_count 158 = .ok (.ireturn, 1) := by decide +kernel
theorem dX11_count_159 : decode cX11_count 159 = .ok (.iconst (-1), 1) := by decide +kernel
theorem dX11_count_160 : decode cX11_count 160 = .ok (.ireturn, 1) := by decide +kernel
theorem dX11_image_0 : decode cX11_image 0 = .ok (.iload_n 1, 1) := by decide +kernel
theorem dX11_image_1 : decode cX11_image 1 = .ok (.ifCond .lt 8, 3) := by decide +kernel
theorem dX11_image_4 : decode cX11_image 4 = .ok (.iload_n 1, 1) := by decide +kernel
theorem dX11_image_5 : decode cX11_image 5 = .ok (.iconst 4, 1) := by decide +kernel
theorem dX11_image_6 : decode cX11_image 6 = .ok (.if_icmp .lt 5, 3) := by decide +kernel
theorem dX11_image_9 : decode cX11_image 9 = .ok (.iconst (-1), 1) := by decide +kernel
theorem dX11_image_10 : decode cX11_image 10 = .ok (.ireturn, 1) := by decide +kernel
theorem dX11_image_11 : decode cX11_image 11 = .ok (.aload_n 0, 1) := by decide +kernel
theorem dX11_image_12 : decode cX11_image 12 = .ok (.getfield 50, 3) := by decide +kernel
theorem dX11_image_15 : decode cX11_image 15 = .ok (.iload_n 1, 1) := by decide +kernel
theorem dX11_image_16 : decode cX11_image 16 = .ok (.aaload, 1) := by decide +kernel
theorem dX11_image_17 : decode cX11_image 17 = .ok (.aload_n 0, 1) := by decide +kernel
theorem dX11_image_18 : decode cX11_image 18 = .ok (.getfield 46, 3) := by decide +kernel
theorem dX11_image_21 : decode cX11_image 21 = .ok (.invokevirtual 342, 3) := by decide +kernel
theorem dX11_image_24 : decode cX11_image 24 = .ok (.aload_n 0, 1) := by decide +kernel
theorem dX11_image_25 : decode cX11_image 25 = .ok (.getfield 50, 3) := by decide +kernel
theorem dX11_image_28 : decode cX11_image 28 = .ok (.iload_n 1, 1) := by decide +kernel
theorem dX11_image_29 : decode cX11_image 29 = .ok (.aaload, 1) := by decide +kernel
theorem dX11_image_30 : decode cX11_image 30 = .ok (.iconst 1, 1) := by decide +kernel
theorem dX11_image_31 : decode cX11_image 31 = .ok (.putfield 345, 3) := by decide +kernel
theorem dX11_image_34 : decode cX11_image 34 = .ok (.aload_n 0, 1) := by decide +kernel
theorem dX11_image_35 : decode cX11_image 35 = .ok (.getfield 46, 3) := by decide +kernel
theorem dX11_image_38 : decode cX11_image 38 = .ok (.getfield 79, 3) := by decide +kernel
theorem dX11_image_41 : decode cX11_image 41 = .ok (.getfield 191, 3) := by decide +kernel
theorem dX11_image_44 : decode cX11_image 44 = .ok (.ireturn, 1) := by decide +kernel
theorem dX11_back_0 : decode cX11_back 0 = .ok (.iload_n 1, 1) := by decide +kernel
theorem dX11_back_1 : decode cX11_back 1 = .ok (.ifCond .lt 20, 3) := by decide +kernel
theorem dX11_back_4 : decode cX11_back 4 = .ok (.iload_n 1, 1) := by decide +kernel
theorem dX11_back_5 : decode cX11_back 5 = .ok (.iconst 4, 1) := by decide +kernel
theorem dX11_back_6 : decode cX11_back 6 = .ok (.if_icmp .ge 15, 3) := by decide +kernel
theorem dX11_back_9 : decode cX11_back 9 = .ok (.aload_n 0, 1) := by decide +kernel
theorem dX11_back_10 : decode cX11_back 10 = .ok (.getfield 50, 3) := by decide +kernel
theorem dX11_back_13 : decode cX11_back 13 = .ok (.iload_n 1, 1) := by decide +kernel
theorem dX11_back_14 : decode cX11_back 14 = .ok (.aaload, 1) := by decide +kernel
theorem dX11_back_15 : decode cX11_back 15 = .ok (.getfield 345, 3) := by decide +kernel
theorem dX11_back_18 : decode cX11_back 18 = .ok (.ifCond .ne 5, 3) := by decide +kernel
theorem dX11_back_21 : decode cX11_back 21 = .ok (.iconst (-1), 1) := by decide +kernel
theorem dX11_back_22 : decode cX11_back 22 = .ok (.ireturn, 1) := by decide +kernel
theorem dX11_back_23 : decode cX11_back 23 = .ok (.aload_n 0, 1) := by decide +kernel
theorem dX11_back_24 : decode cX11_back 24 = .ok (.getfield 46, 3) := by decide +kernel
theorem dX11_back_27 : decode cX11_back 27 = .ok (.aload_n 0, 1) := by decide +kernel
theorem dX11_back_28 : decode cX11_back 28 = .ok (.getfield 50, 3) := by decide +kernel
theorem dX11_back_31 : decode cX11_back 31 = .ok (.iload_n 1, 1) := by decide +kernel
theorem dX11_back_32 : decode cX11_back 32 = .ok (.aaload, 1) := by decide +kernel
theorem dX11_back_33 : decode cX11_back 33 = .ok (.invokevirtual 342, 3) := by decide +kernel
theorem dX11_back_36 : decode cX11_back 36 = .ok (.aload_n 0, 1) := by decide +kernel
theorem dX11_back_37 : decode cX11_back 37 = .ok (.iconst 0, 1) := by decide +kernel
theorem dX11_back_38 : decode cX11_back 38 = .ok (.putfield 118, 3) := by decide +kernel
theorem dX11_back_41 : decode cX11_back 41 = .ok (.aload_n 0, 1) := by decide +kernel
theorem dX11_back_42 : decode cX11_back 42 = .ok (.getfield 46, 3) := by decide +kernel
theorem dX11_back_45 : decode cX11_back 45 = .ok (.getfield 79, 3) := by decide +kernel
theorem dX11_back_48 : decode cX11_back 48 = .ok (.getfield 191, 3) := by decide +kernel
theorem dX11_back_51 : decode cX11_back 51 = .ok (.ireturn, 1) := by decide +kernel
theorem dX11_hasLadder_0 : decode cX11_hasLadder 0 = .ok (.aload_n 0, 1) := by decide +kernel
theorem dX11_hasLadder_1 : decode cX11_hasLadder 1 = .ok (.getfield 46, 3) := by decide +kernel
theorem dX11_hasLadder_4 : decode cX11_hasLadder 4 = .ok (.getfield 79, 3) := by decide +kernel
theorem dX11_hasLadder_7 : decode cX11_hasLadder 7 = .ok (.getfield 146, 3) := by decide +kernel
theorem dX11_hasLadder_10 : decode cX11_hasLadder 10 = .ok (.getfield 305, 3) := by decide +kernel
theorem dX11_hasLadder_13 : decode cX11_hasLadder 13 = .ok (.ifCond .le 7, 3) := by decide +kernel
theorem dX11_hasLadder_16 : decode cX11_hasLadder 16 = .ok (.iconst 1, 1) := by decide +kernel
theorem dX11_hasLadder_17 : decode cX11_hasLadder 17 = .ok (.goto 4, 3) := by decide +kernel
theorem dX11_hasLadder_20 : decode cX11_hasLadder 20 = .ok (.iconst 0, 1) := by decide +kernel
theorem dX11_hasLadder_21 : decode cX11_hasLadder 21 = .ok (.ireturn, 1) := by decide +kernel
theorem dX11_isPerson_0 : decode cX11_isPerson 0 = .ok (.iload_n 1, 1) := by decide +kernel
theorem dX11_isPerson_1 : decode cX11_isPerson 1 = .ok (.ifCond .lt 24, 3) := by decide +kernel
theorem dX11_isPerson_4 : decode cX11_isPerson 4 = .ok (.iload_n 1, 1) := by decide +kernel
theorem dX11_isPerson_5 : decode cX11_isPerson 5 = .ok (.aload_n 0, 1) := by decide +kernel
theorem dX11_isPerson_6 : decode cX11_isPerson 6 = .ok (.getfield 46, 3) := by decide +kernel
theorem dX11_isPerson_9 : decode cX11_isPerson 9 = .ok (.getfield 79, 3) := by decide +kernel
theorem dX11_isPerson_12 : decode cX11_isPerson 12 = .ok (.getfield 146, 3) := by decide +kernel
theorem dX11_isPerson_15 : decode cX11_isPerson 15 = .ok (.getfield 121, 3) := by decide +kernel
theorem dX11_isPerson_18 : decode cX11_isPerson 18 = .ok (.if_icmp .ge 7, 3) := by decide +kernel
theorem dX11_isPerson_21 : decode cX11_isPerson 21 = .ok (.iconst 1, 1) := by decide +kernel
theorem dX11_isPerson_22 : decode cX11_isPerson 22 = .ok (.goto 4, 3) := by decide +kernel
theorem dX11_isPerson_25 : decode cX11_isPerson 25 = .ok (.iconst 0, 1) := by decide +kernel
theorem dX11_isPerson_26 : decode cX11_isPerson 26 = .ok (.ireturn, 1) := by decide +kernel
theorem dX11_isRung_0 : decode cX11_isRung 0 = .ok (.iload_n 1, 1) := by decide +kernel
theorem dX11_isRung_1 : decode cX11_isRung 1 = .ok (.ifCond .lt 24, 3) := by decide +kernel
theorem dX11_isRung_4 : decode cX11_isRung 4 = .ok (.iload_n 1, 1) := by decide +kernel
theorem dX11_isRung_5 : decode cX11_isRung 5 = .ok (.aload_n 0, 1) := by decide +kernel
theorem dX11_isRung_6 : decode cX11_isRung 6 = .ok (.getfield 46, 3) := by decide +kernel
theorem dX11_isRung_9 : decode cX11_isRung 9 = .ok (.getfield 79, 3) := by decide +kernel
theorem dX11_isRung_12 : decode cX11_isRung 12 = .ok (.getfield 146, 3) := by decide +kernel
theorem dX11_isRung_15 : decode cX11_isRung 15 = .ok (.getfield 305, 3) := by decide +kernel
theorem dX11_isRung_18 : decode cX11_isRung 18 = .ok (.if_icmp .ge 7, 3) := by decide +kernel
theorem dX11_isRung_21 : decode cX11_isRung 21 = .ok (.iconst 1, 1) := by decide +kernel
theorem dX11_isRung_22 : decode cX11_isRung 22 = .ok (.goto 4, 3) := by decide +kernel
theorem dX11_isRung_25 : decode cX11_isRung 25 = .ok (.iconst 0, 1) := by decide +kernel
theorem dX11_isRung_26 : decode cX11_isRung 26 = .ok (.ireturn, 1) := by decide +kernel
theorem dX11_isSet_0 : decode cX11_isSet 0 = .ok (.iload_n 1, 1) := by decide +kernel
theorem dX11_isSet_1 : decode cX11_isSet 1 = .ok (.ifCond .lt 26, 3) := by decide +kernel
theorem dX11_isSet_4 : decode cX11_isSet 4 = .ok (.iload_n 1, 1) := by decide +kernel
theorem dX11_isSet_5 : decode cX11_isSet 5 = .ok (.iconst 1, 1) := by decide +kernel
theorem dX11_isSet_6 : decode cX11_isSet 6 = .ok (.aload_n 0, 1) := by decide +kernel
theorem dX11_isSet_7 : decode cX11_isSet 7 = .ok (.getfield 46, 3) := by decide +kernel
theorem dX11_isSet_10 : decode cX11_isSet 10 = .ok (.getfield 79, 3) := by decide +kernel
theorem dX11_isSet_13 : decode cX11_isSet 13 = .ok (.getfield 146, 3) := by decide +kernel
theorem dX11_isSet_16 : decode cX11_isSet 16 = .ok (.getfield 121, 3) := by decide +kernel
theorem dX11_isSet_19 : decode cX11_isSet 19 = .ok (.ishl, 1) := by decide +kernel
theorem dX11_isSet_20 : decode cX11_isSet 20 = .ok (.if_icmp .ge 7, 3) := by decide +kernel
theorem dX11_isSet_23 : decode cX11_isSet 23 = .ok (.iconst 1, 1) := by decide +kernel
theorem dX11_isSet_24 : decode cX11_isSet 24 = .ok (.goto 4, 3) := by decide +kernel
theorem dX11_isSet_27 : decode cX11_isSet 27 = .ok (.iconst 0, 1) := by decide +kernel
theorem dX11_isSet_28 : decode cX11_isSet 28 = .ok (.ireturn, 1) := by decide +kernel
theorem dX11_inForce_0 : decode cX11_inForce 0 = .ok (.aload_n 0, 1) := by decide +kernel
theorem dX11_inForce_1 : decode cX11_inForce 1 = .ok (.getfield 46, 3) := by decide +kernel
theorem dX11_inForce_4 : decode cX11_inForce 4 = .ok (.getfield 135, 3) := by decide +kernel
theorem dX11_inForce_7 : decode cX11_inForce 7 = .ok (.istore_n 1, 1) := by decide +kernel
theorem dX11_inForce_8 : decode cX11_inForce 8 = .ok (.iload_n 1, 1) := by decide +kernel
theorem dX11_inForce_9 : decode cX11_inForce 9 = .ok (.ifCond .lt 20, 3) := by decide +kernel
theorem dX11_inForce_12 : decode cX11_inForce 12 = .ok (.iload_n 1, 1) := by decide +kernel
theorem dX11_inForce_13 : decode cX11_inForce 13 = .ok (.aload_n 0, 1) := by decide +kernel
theorem dX11_inForce_14 : decode cX11_inForce 14 = .ok (.getfield 124, 3) := by decide +kernel
theorem dX11_inForce_17 : decode cX11_inForce 17 = .ok (.if_icmp .ge 12, 3) := by decide +kernel
theorem dX11_inForce_20 : decode cX11_inForce 20 = .ok (.aload_n 0, 1) := by decide +kernel
theorem dX11_inForce_21 : decode cX11_inForce 21 = .ok (.getfield 37, 3) := by decide +kernel
theorem dX11_inForce_24 : decode cX11_inForce 24 = .ok (.iload_n 1, 1) := by decide +kernel
theorem dX11_inForce_25 : decode cX11_inForce 25 = .ok (.aaload, 1) := by decide +kernel
theorem dX11_inForce_26 : decode cX11_inForce 26 = .ok (.goto 4, 3) := by decide +kernel
theorem dX11_inForce_29 : decode cX11_inForce 29 = .ok (.aconst_null, 1) := by decide +kernel
theorem dX11_inForce_30 : decode cX11_inForce 30 = .ok (.areturn, 1) := by decide +kernel
theorem dX11_remember_0 : decode cX11_remember 0 = .ok (.aload_n 0, 1) := by decide +kernel
theorem dX11_remember_1 : decode cX11_remember 1 = .ok (.getfield 56, 3) := by decide +kernel
theorem dX11_remember_4 : decode cX11_remember 4 = .ok (.aload_n 0, 1) := by decide +kernel
theorem dX11_remember_5 : decode cX11_remember 5 = .ok (.getfield 227, 3) := by decide +kernel
theorem dX11_remember_8 : decode cX11_remember 8 = .ok (.aaload, 1) := by decide +kernel
theorem dX11_remember_9 : decode cX11_remember 9 = .ok (.aload_n 0, 1) := by decide +kernel
theorem dX11_remember_10 : decode cX11_remember 10 = .ok (.getfield 46, 3) := by decide +kernel
theorem dX11_remember_13 : decode cX11_remember 13 = .ok (.getfield 79, 3) := by decide +kernel
theorem dX11_remember_16 : decode cX11_remember 16 = .ok (.invokevirtual 230, 3) := by decide +kernel
theorem dX11_remember_19 : decode cX11_remember 19 = .ok (.aload_n 0, 1) := by decide +kernel
theorem dX11_remember_20 : decode cX11_remember 20 = .ok (.aload_n 0, 1) := by decide +kernel
theorem dX11_remember_21 : decode cX11_remember 21 = .ok (.getfield 227, 3) := by decide +kernel
theorem dX11_remember_24 : decode cX11_remember 24 = .ok (.bipush 19, 2) := by decide +kernel
theorem dX11_remember_26 : decode cX11_remember 26 = .ok (.if_icmp .ge 12, 3) := by decide +kernel
theorem dX11_remember_29 : decode cX11_remember 29 = .ok (.aload_n 0, 1) := by decide +kernel
theorem dX11_remember_30 : decode cX11_remember 30 = .ok (.getfield 227, 3) := by decide +kernel
theorem dX11_remember_33 : decode cX11_remember 33 = .ok (.iconst 1, 1) := by decide +kernel
theorem dX11_remember_34 : decode cX11_remember 34 = .ok (.iadd, 1) := by decide +kernel
theorem dX11_remember_35 : decode cX11_remember 35 = .ok (.goto 4, 3) := by decide +kernel
theorem dX11_remember_38 : decode cX11_remember 38 = .ok (.iconst 0, 1) := by decide +kernel
theorem dX11_remember_39 : decode cX11_remember 39 = .ok (.putfield 227, 3) := by decide +kernel
theorem dX11_remember_42 : decode cX11_remember 42 = .ok (.aload_n 0, 1) := by decide +kernel
theorem dX11_remember_43 : decode cX11_remember 43 = .ok (.bipush 20, 2) := by decide +kernel
theorem dX11_remember_45 : decode cX11_remember 45 = .ok (.aload_n 0, 1) := by decide +kernel
theorem dX11_remember_46 : decode cX11_remember 46 = .ok (.getfield 118, 3) := by decide +kernel
theorem dX11_remember_49 : decode cX11_remember 49 = .ok (.iconst 1, 1) := by decide +kernel
theorem dX11_remember_50 : decode cX11_remember 50 = .ok (.iadd, 1) := by decide +kernel
theorem dX11_remember_51 : decode cX11_remember 51 = .ok (.invokestatic 348, 3) := by decide +kernel
theorem dX11_remember_54 : decode cX11_remember 54 = .ok (.putfield 118, 3) := by decide +kernel
theorem dX11_remember_57 : decode cX11_remember 57 = .ok (.return_, 1) := by decide +kernel

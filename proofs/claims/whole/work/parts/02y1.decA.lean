theorem dX0_init_0 : decode cX0_init 0 = .ok (.aload_n 0, 1) := by decide +kernel
theorem dX0_init_1 : decode cX0_init 1 = .ok (.invokespecial 3, 3) := by decide +kernel
theorem dX0_init_4 : decode cX0_init 4 = .ok (.aload_n 0, 1) := by decide +kernel
theorem dX0_init_5 : decode cX0_init 5 = .ok (.iconst 3, 1) := by decide +kernel
theorem dX0_init_6 : decode cX0_init 6 = .ok (.newarray .int, 2) := by decide +kernel
theorem dX0_init_8 : decode cX0_init 8 = .ok (.dup, 1) := by decide +kernel
theorem dX0_init_9 : decode cX0_init 9 = .ok (.iconst 0, 1) := by decide +kernel
theorem dX0_init_10 : decode cX0_init 10 = .ok (.iconst 0, 1) := by decide +kernel
theorem dX0_init_11 : decode cX0_init 11 = .ok (.iastore, 1) := by decide +kernel
theorem dX0_init_12 : decode cX0_init 12 = .ok (.dup, 1) := by decide +kernel
theorem dX0_init_13 : decode cX0_init 13 = .ok (.iconst 1, 1) := by decide +kernel
theorem dX0_init_14 : decode cX0_init 14 = .ok (.iconst 0, 1) := by decide +kernel
theorem dX0_init_15 : decode cX0_init 15 = .ok (.iastore, 1) := by decide +kernel
theorem dX0_init_16 : decode cX0_init 16 = .ok (.dup, 1) := by decide +kernel
theorem dX0_init_17 : decode cX0_init 17 = .ok (.iconst 2, 1) := by decide +kernel
theorem dX0_init_18 : decode cX0_init 18 = .ok (.iconst 0, 1) := by decide +kernel
theorem dX0_init_19 : decode cX0_init 19 = .ok (.iastore, 1) := by decide +kernel
theorem dX0_init_20 : decode cX0_init 20 = .ok (.putfield 9, 3) := by decide +kernel
theorem dX0_init_23 : decode cX0_init 23 = .ok (.aload_n 0, 1) := by decide +kernel
theorem dX0_init_24 : decode cX0_init 24 = .ok (.iconst 3, 1) := by decide +kernel
theorem dX0_init_25 : decode cX0_init 25 = .ok (.newarray .int, 2) := by decide +kernel
theorem dX0_init_27 : decode cX0_init 27 = .ok (.dup, 1) := by decide +kernel
theorem dX0_init_28 : decode cX0_init 28 = .ok (.iconst 0, 1) := by decide +kernel
theorem dX0_init_29 : decode cX0_init 29 = .ok (.bipush 9, 2) := by decide +kernel
theorem dX0_init_31 : decode cX0_init 31 = .ok (.iastore, 1) := by decide +kernel
theorem dX0_init_32 : decode cX0_init 32 = .ok (.dup, 1) := by decide +kernel
theorem dX0_init_33 : decode cX0_init 33 = .ok (.iconst 1, 1) := by decide +kernel
theorem dX0_init_34 : decode cX0_init 34 = .ok (.bipush 9, 2) := by decide +kernel
theorem dX0_init_36 : decode cX0_init 36 = .ok (.iastore, 1) := by decide +kernel
theorem dX0_init_37 : decode cX0_init 37 = .ok (.dup, 1) := by decide +kernel
theorem dX0_init_38 : decode cX0_init 38 = .ok (.iconst 2, 1) := by decide +kernel
theorem dX0_init_39 : decode cX0_init 39 = .ok (.bipush 9, 2) := by decide +kernel
theorem dX0_init_41 : decode cX0_init 41 = .ok (.iastore, 1) := by decide +kernel
theorem dX0_init_42 : decode cX0_init 42 = .ok (.putfield 15, 3) := by decide +kernel
theorem dX0_init_45 : decode cX0_init 45 = .ok (.return_, 1) := by decide +kernel
theorem dX0_become_0 : decode cX0_become 0 = .ok (.iload_n 1, 1) := by decide +kernel
theorem dX0_become_1 : decode cX0_become 1 = .ok (.ifCond .lt 17, 3) := by decide +kernel
theorem dX0_become_4 : decode cX0_become 4 = .ok (.iload_n 1, 1) := by decide +kernel
theorem dX0_become_5 : decode cX0_become 5 = .ok (.bipush 10, 2) := by decide +kernel
theorem dX0_become_7 : decode cX0_become 7 = .ok (.irem, 1) := by decide +kernel
theorem dX0_become_8 : decode cX0_become 8 = .ok (.iconst 1, 1) := by decide +kernel
theorem dX0_become_9 : decode cX0_become 9 = .ok (.if_icmp .ne 9, 3) := by decide +kernel
theorem dX0_become_12 : decode cX0_become 12 = .ok (.iload_n 1, 1) := by decide +kernel
theorem dX0_become_13 : decode cX0_become 13 = .ok (.ldc 18, 2) := by decide +kernel
theorem dX0_become_15 : decode cX0_become 15 = .ok (.if_icmp .lt 5, 3) := by decide +kernel
theorem dX0_become_18 : decode cX0_become 18 = .ok (.iconst 0, 1) := by decide +kernel
theorem dX0_become_19 : decode cX0_become 19 = .ok (.ireturn, 1) := by decide +kernel
theorem dX0_become_20 : decode cX0_become 20 = .ok (.iload_n 1, 1) := by decide +kernel
theorem dX0_become_21 : decode cX0_become 21 = .ok (.ldc 19, 2) := by decide +kernel
theorem dX0_become_23 : decode cX0_become 23 = .ok (.idiv, 1) := by decide +kernel
theorem dX0_become_24 : decode cX0_become 24 = .ok (.istore_n 2, 1) := by decide +kernel
theorem dX0_become_25 : decode cX0_become 25 = .ok (.iload_n 1, 1) := by decide +kernel
theorem dX0_become_26 : decode cX0_become 26 = .ok (.ldc 20, 2) := by decide +kernel
theorem dX0_become_28 : decode cX0_become 28 = .ok (.idiv, 1) := by decide +kernel
theorem dX0_become_29 : decode cX0_become 29 = .ok (.bipush 10, 2) := by decide +kernel
theorem dX0_become_31 : decode cX0_become 31 = .ok (.irem, 1) := by decide +kernel
theorem dX0_become_32 : decode cX0_become 32 = .ok (.istore_n 3, 1) := by decide +kernel
theorem dX0_become_33 : decode cX0_become 33 = .ok (.iload_n 1, 1) := by decide +kernel
theorem dX0_become_34 : decode cX0_become 34 = .ok (.sipush 10000, 3) := by decide +kernel
theorem dX0_become_37 : decode cX0_become 37 = .ok (.idiv, 1) := by decide +kernel
theorem dX0_become_38 : decode cX0_become 38 = .ok (.bipush 10, 2) := by decide +kernel
theorem dX0_become_40 : decode cX0_become 40 = .ok (.irem, 1) := by decide +kernel
theorem dX0_become_41 : decode cX0_become 41 = .ok (.istore 4, 2) := by decide +kernel
theorem dX0_become_43 : decode cX0_become 43 = .ok (.iload_n 1, 1) := by decide +kernel
theorem dX0_become_44 : decode cX0_become 44 = .ok (.sipush 1000, 3) := by decide +kernel
theorem dX0_become_47 : decode cX0_become 47 = .ok (.idiv, 1) := by decide +kernel
theorem dX0_become_48 : decode cX0_become 48 = .ok (.bipush 10, 2) := by decide +kernel
theorem dX0_become_50 : decode cX0_become 50 = .ok (.irem, 1) := by decide +kernel
theorem dX0_become_51 : decode cX0_become 51 = .ok (.istore 5, 2) := by decide +kernel
theorem dX0_become_53 : decode cX0_become 53 = .ok (.iload_n 1, 1) := by decide +kernel
theorem dX0_become_54 : decode cX0_become 54 = .ok (.bipush 100, 2) := by decide +kernel
theorem dX0_become_56 : decode cX0_become 56 = .ok (.idiv, 1) := by decide +kernel
theorem dX0_become_57 : decode cX0_become 57 = .ok (.bipush 10, 2) := by decide +kernel
theorem dX0_become_59 : decode cX0_become 59 = .ok (.irem, 1) := by decide +kernel
theorem dX0_become_60 : decode cX0_become 60 = .ok (.istore 6, 2) := by decide +kernel
theorem dX0_become_62 : decode cX0_become 62 = .ok (.iload_n 1, 1) := by decide +kernel
theorem dX0_become_63 : decode cX0_become 63 = .ok (.bipush 10, 2) := by decide +kernel
theorem dX0_become_65 : decode cX0_become 65 = .ok (.idiv, 1) := by decide +kernel
theorem dX0_become_66 : decode cX0_become 66 = .ok (.bipush 10, 2) := by decide +kernel
theorem dX0_become_68 : decode cX0_become 68 = .ok (.irem, 1) := by decide +kernel
theorem dX0_become_69 : decode cX0_become 69 = .ok (.istore 7, 2) := by decide +kernel
theorem dX0_become_71 : decode cX0_become 71 = .ok (.iload_n 2, 1) := by decide +kernel
theorem dX0_become_72 : decode cX0_become 72 = .ok (.iload_n 3, 1) := by decide +kernel
theorem dX0_become_73 : decode cX0_become 73 = .ok (.if_icmp .gt 17, 3) := by decide +kernel
theorem dX0_become_76 : decode cX0_become 76 = .ok (.iload 4, 2) := by decide +kernel
theorem dX0_become_78 : decode cX0_become 78 = .ok (.iload 5, 2) := by decide +kernel
theorem dX0_become_80 : decode cX0_become 80 = .ok (.if_icmp .gt 10, 3) := by decide +kernel
theorem dX0_become_83 : decode cX0_become 83 = .ok (.iload 6, 2) := by decide +kernel
theorem dX0_become_85 : decode cX0_become 85 = .ok (.iload 7, 2) := by decide +kernel
theorem dX0_become_87 : decode cX0_become 87 = .ok (.if_icmp .le 5, 3) := by decide +kernel
theorem dX0_become_90 : decode cX0_become 90 = .ok (.iconst 0, 1) := by decide +kernel
theorem dX0_become_91 : decode cX0_become 91 = .ok (.ireturn, 1) := by decide +kernel
theorem dX0_become_92 : decode cX0_become 92 = .ok (.aload_n 0, 1) := by decide +kernel
theorem dX0_become_93 : decode cX0_become 93 = .ok (.getfield 9, 3) := by decide +kernel
theorem dX0_become_96 : decode cX0_become 96 = .ok (.iconst 0, 1) := by decide +kernel
theorem dX0_become_97 : decode cX0_become 97 = .ok (.iload_n 2, 1) := by decide +kernel
theorem dX0_become_98 : decode cX0_become 98 = .ok (.iastore, 1) := by decide +kernel
theorem dX0_become_99 : decode cX0_become 99 = .ok (.aload_n 0, 1) := by decide +kernel
theorem dX0_become_100 : decode cX0_become 100 = .ok (.getfield 15, 3) := by decide +kernel
theorem dX0_become_103 : decode cX0_become 103 = .ok (.iconst 0, 1) := by decide +kernel
theorem dX0_become_104 : decode cX0_become 104 = .ok (.iload_n 3, 1) := by decide +kernel
theorem dX0_become_105 : decode cX0_become 105 = .ok (.iastore, 1) := by decide +kernel
theorem dX0_become_106 : decode cX0_become 106 = .ok (.aload_n 0, 1) := by decide +kernel
theorem dX0_become_107 : decode cX0_become 107 = .ok (.getfield 9, 3) := by decide +kernel
theorem dX0_become_110 : decode cX0_become 110 = .ok (.iconst 1, 1) := by decide +kernel
theorem dX0_become_111 : decode cX0_become 111 = .ok (.iload 4, 2) := by decide +kernel
theorem dX0_become_113 : decode cX0_become 113 = .ok (.iastore, 1) := by decide +kernel
theorem dX0_become_114 : decode cX0_become 114 = .ok (.aload_n 0, 1) := by decide +kernel
theorem dX0_become_115 : decode cX0_become 115 = .ok (.getfield 15, 3) := by decide +kernel
theorem dX0_become_118 : decode cX0_become 118 = .ok (.iconst 1, 1) := by decide +kernel
theorem dX0_become_119 : decode cX0_become 119 = .ok (.iload 5, 2) := by decide +kernel
theorem dX0_become_121 : decode cX0_become 121 = .ok (.iastore, 1) := by decide +kernel
theorem dX0_become_122 : decode cX0_become 122 = .ok (.aload_n 0, 1) := by decide +kernel
theorem dX0_become_123 : decode cX0_become 123 = .ok (.getfield 9, 3) := by decide +kernel
theorem dX0_become_126 : decode cX0_become 126 = .ok (.iconst 2, 1) := by decide +kernel
theorem dX0_become_127 : decode cX0_become 127 = .ok (.iload 6, 2) := by decide +kernel
theorem dX0_become_129 : decode cX0_become 129 = .ok (.iastore, 1) := by decide +kernel
theorem dX0_become_130 : decode cX0_become 130 = .ok (.aload_n 0, 1) := by decide +kernel
theorem dX0_become_131 : decode cX0_become 131 = .ok (.getfield 15, 3) := by decide +kernel
theorem dX0_become_134 : decode cX0_become 134 = .ok (.iconst 2, 1) := by decide +kernel
theorem dX0_become_135 : decode cX0_become 135 = .ok (.iload 7, 2) := by decide +kernel
theorem dX0_become_137 : decode cX0_become 137 = .ok (.iastore, 1) := by decide +kernel
theorem dX0_become_138 : decode cX0_become 138 = .ok (.iconst 1, 1) := by decide +kernel
theorem dX0_become_139 : decode cX0_become 139 = .ok (.ireturn, 1) := by decide +kernel
theorem dX0_holds_0 : decode cX0_holds 0 = .ok (.iload_n 1, 1) := by decide +kernel
theorem dX0_holds_1 : decode cX0_holds 1 = .ok (.invokestatic 21, 3) := by decide +kernel
theorem dX0_holds_4 : decode cX0_holds 4 = .ok (.istore_n 2, 1) := by decide +kernel
theorem dX0_holds_5 : decode cX0_holds 5 = .ok (.iload_n 1, 1) := by decide +kernel
theorem dX0_holds_6 : decode cX0_holds 6 = .ok (.invokestatic 25, 3) := by decide +kernel
theorem dX0_holds_9 : decode cX0_holds 9 = .ok (.istore_n 3, 1) := by decide +kernel
theorem dX0_holds_10 : decode cX0_holds 10 = .ok (.iload_n 1, 1) := by decide +kernel
theorem dX0_holds_11 : decode cX0_holds 11 = .ok (.invokestatic 28, 3) := by decide +kernel
theorem dX0_holds_14 : decode cX0_holds 14 = .ok (.istore 4, 2) := by decide +kernel
theorem dX0_holds_16 : decode cX0_holds 16 = .ok (.iload_n 2, 1) := by decide +kernel
theorem dX0_holds_17 : decode cX0_holds 17 = .ok (.aload_n 0, 1) := by decide +kernel
theorem dX0_holds_18 : decode cX0_holds 18 = .ok (.getfield 9, 3) := by decide +kernel
theorem dX0_holds_21 : decode cX0_holds 21 = .ok (.iconst 0, 1) := by decide +kernel
theorem dX0_holds_22 : decode cX0_holds 22 = .ok (.iaload, 1) := by decide +kernel
theorem dX0_holds_23 : decode cX0_holds 23 = .ok (.if_icmp .lt 59, 3) := by decide +kernel
theorem dX0_holds_26 : decode cX0_holds 26 = .ok (.iload_n 2, 1) := by decide +kernel
theorem dX0_holds_27 : decode cX0_holds 27 = .ok (.aload_n 0, 1) := by decide +kernel
theorem dX0_holds_28 : decode cX0_holds 28 = .ok (.getfield 15, 3) := by decide +kernel
theorem dX0_holds_31 : decode cX0_holds 31 = .ok (.iconst 0, 1) := by decide +kernel
theorem dX0_holds_32 : decode cX0_holds 32 = .ok (.iaload, 1) := by decide +kernel
theorem dX0_holds_33 : decode cX0_holds 33 = .ok (.if_icmp .gt 49, 3) := by decide +kernel
theorem dX0_holds_36 : decode cX0_holds 36 = .ok (.iload_n 3, 1) := by decide +kernel
theorem dX0_holds_37 : decode cX0_holds 37 = .ok (.aload_n 0, 1) := by decide +kernel
theorem dX0_holds_38 : decode cX0_holds 38 = .ok (.getfield 9, 3) := by decide +kernel
theorem dX0_holds_41 : decode cX0_holds 41 = .ok (.iconst 1, 1) := by decide +kernel
theorem dX0_holds_42 : decode cX0_holds 42 = .ok (.iaload, 1) := by decide +kernel
theorem dX0_holds_43 : decode cX0_holds 43 = .ok (.if_icmp .lt 39, 3) := by decide +kernel
theorem dX0_holds_46 : decode cX0_holds 46 = .ok (.iload_n 3, 1) := by decide +kernel
theorem dX0_holds_47 : decode cX0_holds 47 = .ok (.aload_n 0, 1) := by decide +kernel
theorem dX0_holds_48 : decode cX0_holds 48 = .ok (.getfield 15, 3) := by decide +kernel
theorem dX0_holds_51 : decode cX0_holds 51 = .ok (.iconst 1, 1) := by decide +kernel
theorem dX0_holds_52 : decode cX0_holds 52 = .ok (.iaload, 1) := by decide +kernel
theorem dX0_holds_53 : decode cX0_holds 53 = .ok (.if_icmp .gt 29, 3) := by decide +kernel
theorem dX0_holds_56 : decode cX0_holds 56 = .ok (.iload 4, 2) := by decide +kernel
theorem dX0_holds_58 : decode cX0_holds 58 = .ok (.aload_n 0, 1) := by decide +kernel
theorem dX0_holds_59 : decode cX0_holds 59 = .ok (.getfield 9, 3) := by decide +kernel
theorem dX0_holds_62 : decode cX0_holds 62 = .ok (.iconst 2, 1) := by decide +kernel
theorem dX0_holds_63 : decode cX0_holds 63 = .ok (.iaload, 1) := by decide +kernel
theorem dX0_holds_64 : decode cX0_holds 64 = .ok (.if_icmp .lt 18, 3) := by decide +kernel
theorem dX0_holds_67 : decode cX0_holds 67 = .ok (.iload 4, 2) := by decide +kernel
theorem dX0_holds_69 : decode cX0_holds 69 = .ok (.aload_n 0, 1) := by decide +kernel
theorem dX0_holds_70 : decode cX0_holds 70 = .ok (.getfield 15, 3) := by decide +kernel
theorem dX0_holds_73 : decode cX0_holds 73 = .ok (.iconst 2, 1) := by decide +kernel
theorem dX0_holds_74 : decode cX0_holds 74 = .ok (.iaload, 1) := by decide +kernel
theorem dX0_holds_75 : decode cX0_holds 75 = .ok (.if_icmp .gt 7, 3) := by decide +kernel
theorem dX0_holds_78 : decode cX0_holds 78 = .ok (.iconst 1, 1) := by decide +kernel
theorem dX0_holds_79 : decode cX0_holds 79 = .ok (.goto 4, 3) := by decide +kernel
theorem dX0_holds_82 : decode cX0_holds 82 = .ok (.iconst 0, 1) := by decide +kernel
theorem dX0_holds_83 : decode cX0_holds 83 = .ok (.ireturn, 1) := by decide +kernel
theorem dX0_goesToItself_0 : decode cX0_goesToItself 0 = .ok (.iconst 0, 1) := by decide +kernel
theorem dX0_goesToItself_1 : decode cX0_goesToItself 1 = .ok (.istore_n 2, 1) := by decide +kernel
theorem dX0_goesToItself_2 : decode cX0_goesToItself 2 = .ok (.iload_n 2, 1) := by decide +kernel
theorem dX0_goesToItself_3 : decode cX0_goesToItself 3 = .ok (.iconst 3, 1) := by decide +kernel
theorem dX0_goesToItself_4 : decode cX0_goesToItself 4 = .ok (.if_icmp .ge 46, 3) := by decide +kernel
theorem dX0_goesToItself_7 : decode cX0_goesToItself 7 = .ok (.iload_n 1, 1) := by decide +kernel
theorem dX0_goesToItself_8 : decode cX0_goesToItself 8 = .ok (.iload_n 2, 1) := by decide +kernel
theorem dX0_goesToItself_9 : decode cX0_goesToItself 9 = .ok (.invokestatic 31, 3) := by decide +kernel
theorem dX0_goesToItself_12 : decode cX0_goesToItself 12 = .ok (.istore_n 3, 1) := by decide +kernel
theorem dX0_goesToItself_13 : decode cX0_goesToItself 13 = .ok (.aload_n 0, 1) := by decide +kernel
theorem dX0_goesToItself_14 : decode cX0_goesToItself 14 = .ok (.getfield 15, 3) := by decide +kernel
theorem dX0_goesToItself_17 : decode cX0_goesToItself 17 = .ok (.iload_n 2, 1) := by decide +kernel
theorem dX0_goesToItself_18 : decode cX0_goesToItself 18 = .ok (.iaload, 1) := by decide +kernel
theorem dX0_goesToItself_19 : decode cX0_goesToItself 19 = .ok (.aload_n 0, 1) := by decide +kernel
theorem dX0_goesToItself_20 : decode cX0_goesToItself 20 = .ok (.getfield 9, 3) := by decide +kernel
theorem dX0_goesToItself_23 : decode cX0_goesToItself 23 = .ok (.iload_n 2, 1) := by decide +kernel
theorem dX0_goesToItself_24 : decode cX0_goesToItself 24 = .ok (.iaload, 1) := by decide +kernel
theorem dX0_goesToItself_25 : decode cX0_goesToItself 25 = .ok (.isub, 1) := by decide +kernel
theorem dX0_goesToItself_26 : decode cX0_goesToItself 26 = .ok (.aload_n 0, 1) := by decide +kernel
theorem dX0_goesToItself_27 : decode cX0_goesToItself 27 = .ok (.getfield 15, 3) := by decide +kernel
theorem dX0_goesToItself_30 : decode cX0_goesToItself 30 = .ok (.iload_n 3, 1) := by decide +kernel
theorem dX0_goesToItself_31 : decode cX0_goesToItself 31 = .ok (.iaload, 1) := by decide +kernel
theorem dX0_goesToItself_32 : decode cX0_goesToItself 32 = .ok (.aload_n 0, 1) := by decide +kernel
theorem dX0_goesToItself_33 : decode cX0_goesToItself 33 = .ok (.getfield 9, 3) := by decide +kernel
theorem dX0_goesToItself_36 : decode cX0_goesToItself 36 = .ok (.iload_n 3, 1) := by decide +kernel
theorem dX0_goesToItself_37 : decode cX0_goesToItself 37 = .ok (.iaload, 1) := by decide +kernel
theorem dX0_goesToItself_38 : decode cX0_goesToItself 38 = .ok (.isub, 1) := by decide +kernel
theorem dX0_goesToItself_39 : decode cX0_goesToItself 39 = .ok (.if_icmp .eq 5, 3) := by decide +kernel
theorem dX0_goesToItself_42 : decode cX0_goesToItself 42 = .ok (.iconst 0, 1) := by decide +kernel
theorem dX0_goesToItself_43 : decode cX0_goesToItself 43 = .ok (.ireturn, 1) := by decide +kernel
theorem dX0_goesToItself_44 : decode cX0_goesToItself 44 = .ok (.iinc 2 1, 3) := by decide +kernel
theorem dX0_goesToItself_47 : decode cX0_goesToItself 47 = .ok (.goto (-45), 3) := by decide +kernel
theorem dX0_goesToItself_50 : decode cX0_goesToItself 50 = .ok (.iconst 1, 1) := by decide +kernel
theorem dX0_goesToItself_51 : decode cX0_goesToItself 51 = .ok (.ireturn, 1) := by decide +kernel
theorem dX0_turned_0 : decode cX0_turned 0 = .ok (.iconst 0, 1) := by decide +kernel
theorem dX0_turned_1 : decode cX0_turned 1 = .ok (.istore_n 3, 1) := by decide +kernel
theorem dX0_turned_2 : decode cX0_turned 2 = .ok (.iconst 0, 1) := by decide +kernel
theorem dX0_turned_3 : decode cX0_turned 3 = .ok (.istore 4, 2) := by decide +kernel
theorem dX0_turned_5 : decode cX0_turned 5 = .ok (.iload 4, 2) := by decide +kernel
theorem dX0_turned_7 : decode cX0_turned 7 = .ok (.iconst 3, 1) := by decide +kernel
theorem dX0_turned_8 : decode cX0_turned 8 = .ok (.if_icmp .ge 78, 3) := by decide +kernel
theorem dX0_turned_11 : decode cX0_turned 11 = .ok (.iload 4, 2) := by decide +kernel
theorem dX0_turned_13 : decode cX0_turned 13 = .ok (.iload_n 1, 1) := by decide +kernel
theorem dX0_turned_14 : decode cX0_turned 14 = .ok (.invokestatic 37, 3) := by decide +kernel
theorem dX0_turned_17 : decode cX0_turned 17 = .ok (.istore 5, 2) := by decide +kernel
theorem dX0_turned_19 : decode cX0_turned 19 = .ok (.iload_n 2, 1) := by decide +kernel
theorem dX0_turned_20 : decode cX0_turned 20 = .ok (.iload 4, 2) := by decide +kernel
theorem dX0_turned_22 : decode cX0_turned 22 = .ok (.invokestatic 40, 3) := by decide +kernel
theorem dX0_turned_25 : decode cX0_turned 25 = .ok (.ifCond .ge 16, 3) := by decide +kernel
theorem dX0_turned_28 : decode cX0_turned 28 = .ok (.aload_n 0, 1) := by decide +kernel
theorem dX0_turned_29 : decode cX0_turned 29 = .ok (.getfield 15, 3) := by decide +kernel
theorem dX0_turned_32 : decode cX0_turned 32 = .ok (.iload 4, 2) := by decide +kernel
theorem dX0_turned_34 : decode cX0_turned 34 = .ok (.iaload, 1) := by decide +kernel
theorem dX0_turned_35 : decode cX0_turned 35 = .ok (.iload 5, 2) := by decide +kernel
theorem dX0_turned_37 : decode cX0_turned 37 = .ok (.isub, 1) := by decide +kernel
theorem dX0_turned_38 : decode cX0_turned 38 = .ok (.goto 13, 3) := by decide +kernel
theorem dX0_turned_41 : decode cX0_turned 41 = .ok (.iload 5, 2) := by decide +kernel
theorem dX0_turned_43 : decode cX0_turned 43 = .ok (.aload_n 0, 1) := by decide +kernel
theorem dX0_turned_44 : decode cX0_turned 44 = .ok (.getfield 9, 3) := by decide +kernel
theorem dX0_turned_47 : decode cX0_turned 47 = .ok (.iload 4, 2) := by decide +kernel
theorem dX0_turned_49 : decode cX0_turned 49 = .ok (.iaload, 1) := by decide +kernel
theorem dX0_turned_50 : decode cX0_turned 50 = .ok (.isub, 1) := by decide +kernel
theorem dX0_turned_51 : decode cX0_turned 51 = .ok (.istore 6, 2) := by decide +kernel
theorem dX0_turned_53 : decode cX0_turned 53 = .ok (.iload_n 2, 1) := by decide +kernel
theorem dX0_turned_54 : decode cX0_turned 54 = .ok (.iload 4, 2) := by decide +kernel
theorem dX0_turned_56 : decode cX0_turned 56 = .ok (.invokestatic 31, 3) := by decide +kernel
theorem dX0_turned_59 : decode cX0_turned 59 = .ok (.istore 7, 2) := by decide +kernel
theorem dX0_turned_61 : decode cX0_turned 61 = .ok (.iload_n 3, 1) := by decide +kernel
theorem dX0_turned_62 : decode cX0_turned 62 = .ok (.iload 7, 2) := by decide +kernel
theorem dX0_turned_64 : decode cX0_turned 64 = .ok (.invokestatic 43, 3) := by decide +kernel
theorem dX0_turned_67 : decode cX0_turned 67 = .ok (.aload_n 0, 1) := by decide +kernel
theorem dX0_turned_68 : decode cX0_turned 68 = .ok (.getfield 9, 3) := by decide +kernel
theorem dX0_turned_71 : decode cX0_turned 71 = .ok (.iload 7, 2) := by decide +kernel
theorem dX0_turned_73 : decode cX0_turned 73 = .ok (.iaload, 1) := by decide +kernel
theorem dX0_turned_74 : decode cX0_turned 74 = .ok (.iload 6, 2) := by decide +kernel
theorem dX0_turned_76 : decode cX0_turned 76 = .ok (.iadd, 1) := by decide +kernel
theorem dX0_turned_77 : decode cX0_turned 77 = .ok (.imul, 1) := by decide +kernel
theorem dX0_turned_78 : decode cX0_turned 78 = .ok (.iadd, 1) := by decide +kernel
theorem dX0_turned_79 : decode cX0_turned 79 = .ok (.istore_n 3, 1) := by decide +kernel
theorem dX0_turned_80 : decode cX0_turned 80 = .ok (.iinc 4 1, 3) := by decide +kernel
theorem dX0_turned_83 : decode cX0_turned 83 = .ok (.goto (-78), 3) := by decide +kernel
theorem dX0_turned_86 : decode cX0_turned 86 = .ok (.iload_n 3, 1) := by decide +kernel
theorem dX0_turned_87 : decode cX0_turned 87 = .ok (.ireturn, 1) := by decide +kernel
theorem dX1_init_0 : decode cX1_init 0 = .ok (.aload_n 0, 1) := by decide +kernel
theorem dX1_init_1 : decode cX1_init 1 = .ok (.invokespecial 3, 3) := by decide +kernel
theorem dX1_init_4 : decode cX1_init 4 = .ok (.aload_n 0, 1) := by decide +kernel
theorem dX1_init_5 : decode cX1_init 5 = .ok (.sipush 1000, 3) := by decide +kernel
theorem dX1_init_8 : decode cX1_init 8 = .ok (.newarray .int, 2) := by decide +kernel
theorem dX1_init_10 : decode cX1_init 10 = .ok (.putfield 9, 3) := by decide +kernel
theorem dX1_init_13 : decode cX1_init 13 = .ok (.aload_n 0, 1) := by decide +kernel
theorem dX1_init_14 : decode cX1_init 14 = .ok (.sipush 1000, 3) := by decide +kernel
theorem dX1_init_17 : decode cX1_init 17 = .ok (.newarray .int, 2) := by decide +kernel
theorem dX1_init_19 : decode cX1_init 19 = .ok (.putfield 15, 3) := by decide +kernel
theorem dX1_init_22 : decode cX1_init 22 = .ok (.return_, 1) := by decide +kernel
theorem dX1_read_0 : decode cX1_read 0 = .ok (.aload_n 0, 1) := by decide +kernel
theorem dX1_read_1 : decode cX1_read 1 = .ok (.iconst 0, 1) := by decide +kernel
theorem dX1_read_2 : decode cX1_read 2 = .ok (.putfield 18, 3) := by decide +kernel
theorem dX1_read_5 : decode cX1_read 5 = .ok (.iconst 0, 1) := by decide +kernel
theorem dX1_read_6 : decode cX1_read 6 = .ok (.istore_n 2, 1) := by decide +kernel
theorem dX1_read_7 : decode cX1_read 7 = .ok (.iload_n 2, 1) := by decide +kernel
theorem dX1_read_8 : decode cX1_read 8 = .ok (.sipush 1000, 3) := by decide +kernel
theorem dX1_read_11 : decode cX1_read 11 = .ok (.if_icmp .ge 16, 3) := by decide +kernel
theorem dX1_read_14 : decode cX1_read 14 = .ok (.aload_n 0, 1) := by decide +kernel
theorem dX1_read_15 : decode cX1_read 15 = .ok (.getfield 9, 3) := by decide +kernel
theorem dX1_read_18 : decode cX1_read 18 = .ok (.iload_n 2, 1) := by decide +kernel
theorem dX1_read_19 : decode cX1_read 19 = .ok (.iconst (-1), 1) := by decide +kernel
theorem dX1_read_20 : decode cX1_read 20 = .ok (.iastore, 1) := by decide +kernel
theorem dX1_read_21 : decode cX1_read 21 = .ok (.iinc 2 1, 3) := by decide +kernel
theorem dX1_read_24 : decode cX1_read 24 = .ok (.goto (-17), 3) := by decide +kernel
theorem dX1_read_27 : decode cX1_read 27 = .ok (.iconst 0, 1) := by decide +kernel
theorem dX1_read_28 : decode cX1_read 28 = .ok (.istore_n 2, 1) := by decide +kernel
theorem dX1_read_29 : decode cX1_read 29 = .ok (.iload_n 2, 1) := by decide +kernel
theorem dX1_read_30 : decode cX1_read 30 = .ok (.bipush 10, 2) := by decide +kernel
theorem dX1_read_32 : decode cX1_read 32 = .ok (.if_icmp .ge 39, 3) := by decide +kernel
theorem dX1_read_35 : decode cX1_read 35 = .ok (.iconst 0, 1) := by decide +kernel
theorem dX1_read_36 : decode cX1_read 36 = .ok (.istore_n 3, 1) := by decide +kernel
theorem dX1_read_37 : decode cX1_read 37 = .ok (.iload_n 3, 1) := by decide +kernel
theorem dX1_read_38 : decode cX1_read 38 = .ok (.bipush 10, 2) := by decide +kernel
theorem dX1_read_40 : decode cX1_read 40 = .ok (.if_icmp .ge 25, 3) := by decide +kernel
theorem dX1_read_43 : decode cX1_read 43 = .ok (.aload_n 0, 1) := by decide +kernel
theorem dX1_read_44 : decode cX1_read 44 = .ok (.aload_n 1, 1) := by decide +kernel
theorem dX1_read_45 : decode cX1_read 45 = .ok (.iload_n 2, 1) := by decide +kernel
theorem dX1_read_46 : decode cX1_read 46 = .ok (.iload_n 3, 1) := by decide +kernel
theorem dX1_read_47 : decode cX1_read 47 = .ok (.invokevirtual 22, 3) := by decide +kernel
theorem dX1_read_50 : decode cX1_read 50 = .ok (.iload_n 2, 1) := by decide +kernel
theorem dX1_read_51 : decode cX1_read 51 = .ok (.iload_n 3, 1) := by decide +kernel
theorem dX1_read_52 : decode cX1_read 52 = .ok (.iconst 0, 1) := by decide +kernel
theorem dX1_read_53 : decode cX1_read 53 = .ok (.invokestatic 28, 3) := by decide +kernel
theorem dX1_read_56 : decode cX1_read 56 = .ok (.invokevirtual 32, 3) := by decide +kernel
theorem dX1_read_59 : decode cX1_read 59 = .ok (.iinc 3 1, 3) := by decide +kernel
theorem dX1_read_62 : decode cX1_read 62 = .ok (.goto (-25), 3) := by decide +kernel
theorem dX1_read_65 : decode cX1_read 65 = .ok (.iinc 2 1, 3) := by decide +kernel
theorem dX1_read_68 : decode cX1_read 68 = .ok (.goto (-39), 3) := by decide +kernel
theorem dX1_read_71 : decode cX1_read 71 = .ok (.return_, 1) := by decide +kernel
theorem dX1_readRow_0 : decode cX1_readRow 0 = .ok (.aload_n 1, 1) := by decide +kernel
theorem dX1_readRow_1 : decode cX1_readRow 1 = .ok (.ifnonnull 4, 3) := by decide +kernel
theorem dX1_readRow_4 : decode cX1_readRow 4 = .ok (.return_, 1) := by decide +kernel
theorem dX1_readRow_5 : decode cX1_readRow 5 = .ok (.iconst 0, 1) := by decide +kernel
theorem dX1_readRow_6 : decode cX1_readRow 6 = .ok (.istore_n 3, 1) := by decide +kernel
theorem dX1_readRow_7 : decode cX1_readRow 7 = .ok (.iload_n 3, 1) := by decide +kernel
theorem dX1_readRow_8 : decode cX1_readRow 8 = .ok (.aload_n 1, 1) := by decide +kernel
theorem dX1_readRow_9 : decode cX1_readRow 9 = .ok (.getfield 36, 3) := by decide +kernel
theorem dX1_readRow_12 : decode cX1_readRow 12 = .ok (.arraylength, 1) := by decide +kernel
theorem dX1_readRow_13 : decode cX1_readRow 13 = .ok (.if_icmp .ge 60, 3) := by decide +kernel
theorem dX1_readRow_16 : decode cX1_readRow 16 = .ok (.iload_n 3, 1) := by decide +kernel
theorem dX1_readRow_17 : decode cX1_readRow 17 = .ok (.bipush 10, 2) := by decide +kernel
theorem dX1_readRow_19 : decode cX1_readRow 19 = .ok (.if_icmp .ge 54, 3) := by decide +kernel
theorem dX1_readRow_22 : decode cX1_readRow 22 = .ok (.aload_n 0, 1) := by decide +kernel
theorem dX1_readRow_23 : decode cX1_readRow 23 = .ok (.getfield 9, 3) := by decide +kernel
theorem dX1_readRow_26 : decode cX1_readRow 26 = .ok (.iload_n 2, 1) := by decide +kernel
theorem dX1_readRow_27 : decode cX1_readRow 27 = .ok (.iload_n 3, 1) := by decide +kernel
theorem dX1_readRow_28 : decode cX1_readRow 28 = .ok (.iadd, 1) := by decide +kernel
theorem dX1_readRow_29 : decode cX1_readRow 29 = .ok (.aload_n 1, 1) := by decide +kernel
theorem dX1_readRow_30 : decode cX1_readRow 30 = .ok (.getfield 36, 3) := by decide +kernel
theorem dX1_readRow_33 : decode cX1_readRow 33 = .ok (.iload_n 3, 1) := by decide +kernel
theorem dX1_readRow_34 : decode cX1_readRow 34 = .ok (.iaload, 1) := by decide +kernel
theorem dX1_readRow_35 : decode cX1_readRow 35 = .ok (.iastore, 1) := by decide +kernel
theorem dX1_readRow_36 : decode cX1_readRow 36 = .ok (.aload_n 1, 1) := by decide +kernel
theorem dX1_readRow_37 : decode cX1_readRow 37 = .ok (.getfield 36, 3) := by decide +kernel
theorem dX1_readRow_40 : decode cX1_readRow 40 = .ok (.iload_n 3, 1) := by decide +kernel
theorem dX1_readRow_41 : decode cX1_readRow 41 = .ok (.iaload, 1) := by decide +kernel
theorem dX1_readRow_42 : decode cX1_readRow 42 = .ok (.ifCond .le 25, 3) := by decide +kernel
theorem dX1_readRow_45 : decode cX1_readRow 45 = .ok (.aload_n 0, 1) := by decide +kernel
theorem dX1_readRow_46 : decode cX1_readRow 46 = .ok (.getfield 15, 3) := by decide +kernel
theorem dX1_readRow_49 : decode cX1_readRow 49 = .ok (.aload_n 0, 1) := by decide +kernel
theorem dX1_readRow_50 : decode cX1_readRow 50 = .ok (.getfield 18, 3) := by decide +kernel
theorem dX1_readRow_53 : decode cX1_readRow 53 = .ok (.iload_n 2, 1) := by decide +kernel
theorem dX1_readRow_54 : decode cX1_readRow 54 = .ok (.iload_n 3, 1) := by decide +kernel
theorem dX1_readRow_55 : decode cX1_readRow 55 = .ok (.iadd, 1) := by decide +kernel
theorem dX1_readRow_56 : decode cX1_readRow 56 = .ok (.iastore, 1) := by decide +kernel
theorem dX1_readRow_57 : decode cX1_readRow 57 = .ok (.aload_n 0, 1) := by decide +kernel
theorem dX1_readRow_58 : decode cX1_readRow 58 = .ok (.dup, 1) := by decide +kernel
theorem dX1_readRow_59 : decode cX1_readRow 59 = .ok (.getfield 18, 3) := by decide +kernel
theorem dX1_readRow_62 : decode cX1_readRow 62 = .ok (.iconst 1, 1) := by decide +kernel
theorem dX1_readRow_63 : decode cX1_readRow 63 = .ok (.iadd, 1) := by decide +kernel
theorem dX1_readRow_64 : decode cX1_readRow 64 = .ok (.putfield 18, 3) := by decide +kernel
theorem dX1_readRow_67 : decode cX1_readRow 67 = .ok (.iinc 3 1, 3) := by decide +kernel
theorem dX1_readRow_70 : decode cX1_readRow 70 = .ok (.goto (-63), 3) := by decide +kernel
theorem dX1_readRow_73 : decode cX1_readRow 73 = .ok (.return_, 1) := by decide +kernel
theorem dX1_listOnly_0 : decode cX1_listOnly 0 = .ok (.iconst 0, 1) := by decide +kernel
theorem dX1_listOnly_1 : decode cX1_listOnly 1 = .ok (.istore_n 2, 1) := by decide +kernel
theorem dX1_listOnly_2 : decode cX1_listOnly 2 = .ok (.iconst 0, 1) := by decide +kernel
theorem dX1_listOnly_3 : decode cX1_listOnly 3 = .ok (.istore_n 3, 1) := by decide +kernel
theorem dX1_listOnly_4 : decode cX1_listOnly 4 = .ok (.iload_n 3, 1) := by decide +kernel
theorem dX1_listOnly_5 : decode cX1_listOnly 5 = .ok (.aload_n 0, 1) := by decide +kernel
theorem dX1_listOnly_6 : decode cX1_listOnly 6 = .ok (.getfield 18, 3) := by decide +kernel
theorem dX1_listOnly_9 : decode cX1_listOnly 9 = .ok (.if_icmp .ge 37, 3) := by decide +kernel
theorem dX1_listOnly_12 : decode cX1_listOnly 12 = .ok (.aload_n 1, 1) := by decide +kernel
theorem dX1_listOnly_13 : decode cX1_listOnly 13 = .ok (.aload_n 0, 1) := by decide +kernel
theorem dX1_listOnly_14 : decode cX1_listOnly 14 = .ok (.getfield 15, 3) := by decide +kernel
theorem dX1_listOnly_17 : decode cX1_listOnly 17 = .ok (.iload_n 3, 1) := by decide +kernel
theorem dX1_listOnly_18 : decode cX1_listOnly 18 = .ok (.iaload, 1) := by decide +kernel
theorem dX1_listOnly_19 : decode cX1_listOnly 19 = .ok (.invokevirtual 41, 3) := by decide +kernel
theorem dX1_listOnly_22 : decode cX1_listOnly 22 = .ok (.ifCond .eq 18, 3) := by decide +kernel
theorem dX1_listOnly_25 : decode cX1_listOnly 25 = .ok (.aload_n 0, 1) := by decide +kernel
theorem dX1_listOnly_26 : decode cX1_listOnly 26 = .ok (.getfield 15, 3) := by decide +kernel
theorem dX1_listOnly_29 : decode cX1_listOnly 29 = .ok (.iload_n 2, 1) := by decide +kernel
theorem dX1_listOnly_30 : decode cX1_listOnly 30 = .ok (.aload_n 0, 1) := by decide +kernel
theorem dX1_listOnly_31 : decode cX1_listOnly 31 = .ok (.getfield 15, 3) := by decide +kernel
theorem dX1_listOnly_34 : decode cX1_listOnly 34 = .ok (.iload_n 3, 1) := by decide +kernel
theorem dX1_listOnly_35 : decode cX1_listOnly 35 = .ok (.iaload, 1) := by decide +kernel
theorem dX1_listOnly_36 : decode cX1_listOnly 36 = .ok (.iastore, 1) := by decide +kernel
theorem dX1_listOnly_37 : decode cX1_listOnly 37 = .ok (.iinc 2 1, 3) := by decide +kernel
theorem dX1_listOnly_40 : decode cX1_listOnly 40 = .ok (.iinc 3 1, 3) := by decide +kernel
theorem dX1_listOnly_43 : decode cX1_listOnly 43 = .ok (.goto (-39), 3) := by decide +kernel
theorem dX1_listOnly_46 : decode cX1_listOnly 46 = .ok (.aload_n 0, 1) := by decide +kernel
theorem dX1_listOnly_47 : decode cX1_listOnly 47 = .ok (.iload_n 2, 1) := by decide +kernel
theorem dX1_listOnly_48 : decode cX1_listOnly 48 = .ok (.putfield 18, 3) := by decide +kernel
theorem dX1_listOnly_51 : decode cX1_listOnly 51 = .ok (.return_, 1) := by decide +kernel
theorem dX1_code_0 : decode cX1_code 0 = .ok (.iload_n 1, 1) := by decide +kernel
theorem dX1_code_1 : decode cX1_code 1 = .ok (.invokestatic 47, 3) := by decide +kernel
theorem dX1_code_4 : decode cX1_code 4 = .ok (.ifCond .eq 12, 3) := by decide +kernel
theorem dX1_code_7 : decode cX1_code 7 = .ok (.aload_n 0, 1) := by decide +kernel
theorem dX1_code_8 : decode cX1_code 8 = .ok (.getfield 9, 3) := by decide +kernel
theorem dX1_code_11 : decode cX1_code 11 = .ok (.iload_n 1, 1) := by decide +kernel
theorem dX1_code_12 : decode cX1_code 12 = .ok (.iaload, 1) := by decide +kernel
theorem dX1_code_13 : decode cX1_code 13 = .ok (.goto 4, 3) := by decide +kernel
theorem dX1_code_16 : decode cX1_code 16 = .ok (.iconst (-1), 1) := by decide +kernel
theorem dX1_code_17 : decode cX1_code 17 = .ok (.ireturn, 1) := by decide +kernel
theorem dX1_write_0 : decode cX1_write 0 = .ok (.iload_n 1, 1) := by decide +kernel
theorem dX1_write_1 : decode cX1_write 1 = .ok (.invokestatic 47, 3) := by decide +kernel
theorem dX1_write_4 : decode cX1_write 4 = .ok (.ifCond .eq 10, 3) := by decide +kernel
theorem dX1_write_7 : decode cX1_write 7 = .ok (.aload_n 0, 1) := by decide +kernel
theorem dX1_write_8 : decode cX1_write 8 = .ok (.getfield 9, 3) := by decide +kernel
theorem dX1_write_11 : decode cX1_write 11 = .ok (.iload_n 1, 1) := by decide +kernel
theorem dX1_write_12 : decode cX1_write 12 = .ok (.iload_n 2, 1) := by decide +kernel
theorem dX1_write_13 : decode cX1_write 13 = .ok (.iastore, 1) := by decide +kernel
theorem dX1_write_14 : decode cX1_write 14 = .ok (.return_, 1) := by decide +kernel
theorem dX1_isBlock_0 : decode cX1_isBlock 0 = .ok (.aload_n 0, 1) := by decide +kernel
theorem dX1_isBlock_1 : decode cX1_isBlock 1 = .ok (.iload_n 1, 1) := by decide +kernel
theorem dX1_isBlock_2 : decode cX1_isBlock 2 = .ok (.invokevirtual 50, 3) := by decide +kernel
theorem dX1_isBlock_5 : decode cX1_isBlock 5 = .ok (.ifCond .le 7, 3) := by decide +kernel
theorem dX1_isBlock_8 : decode cX1_isBlock 8 = .ok (.iconst 1, 1) := by decide +kernel
theorem dX1_isBlock_9 : decode cX1_isBlock 9 = .ok (.goto 4, 3) := by decide +kernel
theorem dX1_isBlock_12 : decode cX1_isBlock 12 = .ok (.iconst 0, 1) := by decide +kernel
theorem dX1_isBlock_13 : decode cX1_isBlock 13 = .ok (.ireturn, 1) := by decide +kernel
theorem dX1_beside_0 : decode cX1_beside 0 = .ok (.iload_n 1, 1) := by decide +kernel
theorem dX1_beside_1 : decode cX1_beside 1 = .ok (.iconst 2, 1) := by decide +kernel
theorem dX1_beside_2 : decode cX1_beside 2 = .ok (.idiv, 1) := by decide +kernel
theorem dX1_beside_3 : decode cX1_beside 3 = .ok (.istore_n 2, 1) := by decide +kernel
theorem dX1_beside_4 : decode cX1_beside 4 = .ok (.iload_n 2, 1) := by decide +kernel
theorem dX1_beside_5 : decode cX1_beside 5 = .ok (.iload_n 0, 1) := by decide +kernel
theorem dX1_beside_6 : decode cX1_beside 6 = .ok (.invokestatic 54, 3) := by decide +kernel
theorem dX1_beside_9 : decode cX1_beside 9 = .ok (.istore_n 3, 1) := by decide +kernel
theorem dX1_beside_10 : decode cX1_beside 10 = .ok (.iload_n 1, 1) := by decide +kernel
theorem dX1_beside_11 : decode cX1_beside 11 = .ok (.iconst 2, 1) := by decide +kernel
theorem dX1_beside_12 : decode cX1_beside 12 = .ok (.irem, 1) := by decide +kernel
theorem dX1_beside_13 : decode cX1_beside 13 = .ok (.ifCond .ne 20, 3) := by decide +kernel
theorem dX1_beside_16 : decode cX1_beside 16 = .ok (.iload_n 3, 1) := by decide +kernel
theorem dX1_beside_17 : decode cX1_beside 17 = .ok (.bipush 9, 2) := by decide +kernel
theorem dX1_beside_19 : decode cX1_beside 19 = .ok (.if_icmp .ge 12, 3) := by decide +kernel
theorem dX1_beside_22 : decode cX1_beside 22 = .ok (.iload_n 0, 1) := by decide +kernel
theorem dX1_beside_23 : decode cX1_beside 23 = .ok (.iload_n 2, 1) := by decide +kernel
theorem dX1_beside_24 : decode cX1_beside 24 = .ok (.invokestatic 58, 3) := by decide +kernel
theorem dX1_beside_27 : decode cX1_beside 27 = .ok (.iadd, 1) := by decide +kernel
theorem dX1_beside_28 : decode cX1_beside 28 = .ok (.goto 4, 3) := by decide +kernel
theorem dX1_beside_31 : decode cX1_beside 31 = .ok (.iconst (-1), 1) := by decide +kernel
theorem dX1_beside_32 : decode cX1_beside 32 = .ok (.ireturn, 1) := by decide +kernel
theorem dX1_beside_33 : decode cX1_beside 33 = .ok (.iload_n 3, 1) := by decide +kernel
theorem dX1_beside_34 : decode cX1_beside 34 = .ok (.ifCond .le 12, 3) := by decide +kernel
theorem dX1_beside_37 : decode cX1_beside 37 = .ok (.iload_n 0, 1) := by decide +kernel
theorem dX1_beside_38 : decode cX1_beside 38 = .ok (.iload_n 2, 1) := by decide +kernel
theorem dX1_beside_39 : decode cX1_beside 39 = .ok (.invokestatic 58, 3) := by decide +kernel
theorem dX1_beside_42 : decode cX1_beside 42 = .ok (.isub, 1) := by decide +kernel
theorem dX1_beside_43 : decode cX1_beside 43 = .ok (.goto 4, 3) := by decide +kernel
theorem dX1_beside_46 : decode cX1_beside 46 = .ok (.iconst (-1), 1) := by decide +kernel
theorem dX1_beside_47 : decode cX1_beside 47 = .ok (.ireturn, 1) := by decide +kernel
theorem dX1_bareSides_0 : decode cX1_bareSides 0 = .ok (.iconst 0, 1) := by decide +kernel
theorem dX1_bareSides_1 : decode cX1_bareSides 1 = .ok (.istore_n 2, 1) := by decide +kernel
theorem dX1_bareSides_2 : decode cX1_bareSides 2 = .ok (.iconst 0, 1) := by decide +kernel
theorem dX1_bareSides_3 : decode cX1_bareSides 3 = .ok (.istore_n 3, 1) := by decide +kernel
theorem dX1_bareSides_4 : decode cX1_bareSides 4 = .ok (.iload_n 3, 1) := by decide +kernel
theorem dX1_bareSides_5 : decode cX1_bareSides 5 = .ok (.bipush 6, 2) := by decide +kernel
theorem dX1_bareSides_7 : decode cX1_bareSides 7 = .ok (.if_icmp .ge 24, 3) := by decide +kernel
theorem dX1_bareSides_10 : decode cX1_bareSides 10 = .ok (.aload_n 0, 1) := by decide +kernel
theorem dX1_bareSides_11 : decode cX1_bareSides 11 = .ok (.iload_n 1, 1) := by decide +kernel
theorem dX1_bareSides_12 : decode cX1_bareSides 12 = .ok (.iload_n 3, 1) := by decide +kernel
theorem dX1_bareSides_13 : decode cX1_bareSides 13 = .ok (.invokestatic 61, 3) := by decide +kernel
theorem dX1_bareSides_16 : decode cX1_bareSides 16 = .ok (.invokevirtual 64, 3) := by decide +kernel
theorem dX1_bareSides_19 : decode cX1_bareSides 19 = .ok (.ifCond .ne 6, 3) := by decide +kernel
theorem dX1_bareSides_22 : decode cX1_bareSides 22 = .ok (.iinc 2 1, 3) := by decide +kernel
theorem dX1_bareSides_25 : decode cX1_bareSides 25 = .ok (.iinc 3 1, 3) := by decide +kernel
theorem dX1_bareSides_28 : decode cX1_bareSides 28 = .ok (.goto (-24), 3) := by decide +kernel
theorem dX1_bareSides_31 : decode cX1_bareSides 31 = .ok (.iload_n 2, 1) := by decide +kernel
theorem dX1_bareSides_32 : decode cX1_bareSides 32 = .ok (.ireturn, 1) := by decide +kernel
theorem dX1_least_0 : decode cX1_least 0 = .ok (.bipush 9, 2) := by decide +kernel
theorem dX1_least_2 : decode cX1_least 2 = .ok (.istore_n 2, 1) := by decide +kernel
theorem dX1_least_3 : decode cX1_least 3 = .ok (.iconst 0, 1) := by decide +kernel
theorem dX1_least_4 : decode cX1_least 4 = .ok (.istore_n 3, 1) := by decide +kernel
theorem dX1_least_5 : decode cX1_least 5 = .ok (.iload_n 3, 1) := by decide +kernel
theorem dX1_least_6 : decode cX1_least 6 = .ok (.aload_n 0, 1) := by decide +kernel
theorem dX1_least_7 : decode cX1_least 7 = .ok (.getfield 18, 3) := by decide +kernel
theorem dX1_least_10 : decode cX1_least 10 = .ok (.if_icmp .ge 24, 3) := by decide +kernel
theorem dX1_least_13 : decode cX1_least 13 = .ok (.iload_n 2, 1) := by decide +kernel
theorem dX1_least_14 : decode cX1_least 14 = .ok (.iload_n 1, 1) := by decide +kernel
theorem dX1_least_15 : decode cX1_least 15 = .ok (.aload_n 0, 1) := by decide +kernel
theorem dX1_least_16 : decode cX1_least 16 = .ok (.getfield 15, 3) := by decide +kernel
theorem dX1_least_19 : decode cX1_least 19 = .ok (.iload_n 3, 1) := by decide +kernel
theorem dX1_least_20 : decode cX1_least 20 = .ok (.iaload, 1) := by decide +kernel
theorem dX1_least_21 : decode cX1_least 21 = .ok (.invokestatic 54, 3) := by decide +kernel
theorem dX1_least_24 : decode cX1_least 24 = .ok (.invokestatic 67, 3) := by decide +kernel
theorem dX1_least_27 : decode cX1_least 27 = .ok (.istore_n 2, 1) := by decide +kernel
theorem dX1_least_28 : decode cX1_least 28 = .ok (.iinc 3 1, 3) := by decide +kernel
theorem dX1_least_31 : decode cX1_least 31 = .ok (.goto (-26), 3) := by decide +kernel
theorem dX1_least_34 : decode cX1_least 34 = .ok (.iload_n 2, 1) := by decide +kernel
theorem dX1_least_35 : decode cX1_least 35 = .ok (.ireturn, 1) := by decide +kernel
theorem dX1_most_0 : decode cX1_most 0 = .ok (.iconst 0, 1) := by decide +kernel
theorem dX1_most_1 : decode cX1_most 1 = .ok (.istore_n 2, 1) := by decide +kernel
theorem dX1_most_2 : decode cX1_most 2 = .ok (.iconst 0, 1) := by decide +kernel
theorem dX1_most_3 : decode cX1_most 3 = .ok (.istore_n 3, 1) := by decide +kernel
theorem dX1_most_4 : decode cX1_most 4 = .ok (.iload_n 3, 1) := by decide +kernel
theorem dX1_most_5 : decode cX1_most 5 = .ok (.aload_n 0, 1) := by decide +kernel
theorem dX1_most_6 : decode cX1_most 6 = .ok (.getfield 18, 3) := by decide +kernel
theorem dX1_most_9 : decode cX1_most 9 = .ok (.if_icmp .ge 24, 3) := by decide +kernel
theorem dX1_most_12 : decode cX1_most 12 = .ok (.iload_n 2, 1) := by decide +kernel
theorem dX1_most_13 : decode cX1_most 13 = .ok (.iload_n 1, 1) := by decide +kernel
theorem dX1_most_14 : decode cX1_most 14 = .ok (.aload_n 0, 1) := by decide +kernel
theorem dX1_most_15 : decode cX1_most 15 = .ok (.getfield 15, 3) := by decide +kernel
theorem dX1_most_18 : decode cX1_most 18 = .ok (.iload_n 3, 1) := by decide +kernel
theorem dX1_most_19 : decode cX1_most 19 = .ok (.iaload, 1) := by decide +kernel
theorem dX1_most_20 : decode cX1_most 20 = .ok (.invokestatic 54, 3) := by decide +kernel
theorem dX1_most_23 : decode cX1_most 23 = .ok (.invokestatic 72, 3) := by decide +kernel
theorem dX1_most_26 : decode cX1_most 26 = .ok (.istore_n 2, 1) := by decide +kernel
theorem dX1_most_27 : decode cX1_most 27 = .ok (.iinc 3 1, 3) := by decide +kernel
theorem dX1_most_30 : decode cX1_most 30 = .ok (.goto (-26), 3) := by decide +kernel
theorem dX1_most_33 : decode cX1_most 33 = .ok (.iload_n 2, 1) := by decide +kernel
theorem dX1_most_34 : decode cX1_most 34 = .ok (.ireturn, 1) := by decide +kernel
theorem dX1_bears_0 : decode cX1_bears 0 = .ok (.iconst 0, 1) := by decide +kernel
theorem dX1_bears_1 : decode cX1_bears 1 = .ok (.istore_n 3, 1) := by decide +kernel
theorem dX1_bears_2 : decode cX1_bears 2 = .ok (.iload_n 3, 1) := by decide +kernel
theorem dX1_bears_3 : decode cX1_bears 3 = .ok (.aload_n 1, 1) := by decide +kernel
theorem dX1_bears_4 : decode cX1_bears 4 = .ok (.getfield 18, 3) := by decide +kernel
theorem dX1_bears_7 : decode cX1_bears 7 = .ok (.if_icmp .ge 36, 3) := by decide +kernel
theorem dX1_bears_10 : decode cX1_bears 10 = .ok (.aload_n 1, 1) := by decide +kernel
theorem dX1_bears_11 : decode cX1_bears 11 = .ok (.getfield 15, 3) := by decide +kernel
theorem dX1_bears_14 : decode cX1_bears 14 = .ok (.iload_n 3, 1) := by decide +kernel
theorem dX1_bears_15 : decode cX1_bears 15 = .ok (.iaload, 1) := by decide +kernel
theorem dX1_bears_16 : decode cX1_bears 16 = .ok (.istore 4, 2) := by decide +kernel
theorem dX1_bears_18 : decode cX1_bears 18 = .ok (.aload_n 0, 1) := by decide +kernel
theorem dX1_bears_19 : decode cX1_bears 19 = .ok (.iload 4, 2) := by decide +kernel
theorem dX1_bears_21 : decode cX1_bears 21 = .ok (.iload_n 2, 1) := by decide +kernel
theorem dX1_bears_22 : decode cX1_bears 22 = .ok (.iadd, 1) := by decide +kernel
theorem dX1_bears_23 : decode cX1_bears 23 = .ok (.invokevirtual 50, 3) := by decide +kernel
theorem dX1_bears_26 : decode cX1_bears 26 = .ok (.aload_n 1, 1) := by decide +kernel
theorem dX1_bears_27 : decode cX1_bears 27 = .ok (.iload 4, 2) := by decide +kernel
theorem dX1_bears_29 : decode cX1_bears 29 = .ok (.invokevirtual 50, 3) := by decide +kernel
theorem dX1_bears_32 : decode cX1_bears 32 = .ok (.if_icmp .eq 5, 3) := by decide +kernel
theorem dX1_bears_35 : decode cX1_bears 35 = .ok (.iconst 0, 1) := by decide +kernel
theorem dX1_bears_36 : decode cX1_bears 36 = .ok (.ireturn, 1) := by decide +kernel
theorem dX1_bears_37 : decode cX1_bears 37 = .ok (.iinc 3 1, 3) := by decide +kernel
theorem dX1_bears_40 : decode cX1_bears 40 = .ok (.goto (-38), 3) := by decide +kernel
theorem dX1_bears_43 : decode cX1_bears 43 = .ok (.iconst 1, 1) := by decide +kernel
theorem dX1_bears_44 : decode cX1_bears 44 = .ok (.ireturn, 1) := by decide +kernel
theorem dX2_init_0 : decode cX2_init 0 = .ok (.aload_n 0, 1) := by decide +kernel
theorem dX2_init_1 : decode cX2_init 1 = .ok (.invokespecial 3, 3) := by decide +kernel
theorem dX2_init_4 : decode cX2_init 4 = .ok (.aload_n 0, 1) := by decide +kernel
theorem dX2_init_5 : decode cX2_init 5 = .ok (.bipush 31, 2) := by decide +kernel
theorem dX2_init_7 : decode cX2_init 7 = .ok (.newarray .int, 2) := by decide +kernel
theorem dX2_init_9 : decode cX2_init 9 = .ok (.putfield 9, 3) := by decide +kernel
theorem dX2_init_12 : decode cX2_init 12 = .ok (.aload_n 0, 1) := by decide +kernel
theorem dX2_init_13 : decode cX2_init 13 = .ok (.bipush 31, 2) := by decide +kernel
theorem dX2_init_15 : decode cX2_init 15 = .ok (.newarray .int, 2) := by decide +kernel
theorem dX2_init_17 : decode cX2_init 17 = .ok (.putfield 15, 3) := by decide +kernel
theorem dX2_init_20 : decode cX2_init 20 = .ok (.aload_n 0, 1) := by decide +kernel
theorem dX2_init_21 : decode cX2_init 21 = .ok (.bipush 31, 2) := by decide +kernel
theorem dX2_init_23 : decode cX2_init 23 = .ok (.newarray .int, 2) := by decide +kernel
theorem dX2_init_25 : decode cX2_init 25 = .ok (.putfield 18, 3) := by decide +kernel
theorem dX2_init_28 : decode cX2_init 28 = .ok (.aload_n 0, 1) := by decide +kernel
theorem dX2_init_29 : decode cX2_init 29 = .ok (.bipush 31, 2) := by decide +kernel
theorem dX2_init_31 : decode cX2_init 31 = .ok (.newarray .int, 2) := by decide +kernel
theorem dX2_init_33 : decode cX2_init 33 = .ok (.putfield 21, 3) := by decide +kernel
theorem dX2_init_36 : decode cX2_init 36 = .ok (.aload_n 0, 1) := by decide +kernel
theorem dX2_init_37 : decode cX2_init 37 = .ok (.bipush 31, 2) := by decide +kernel
theorem dX2_init_39 : decode cX2_init 39 = .ok (.newarray .boolean, 2) := by decide +kernel
theorem dX2_init_41 : decode cX2_init 41 = .ok (.putfield 24, 3) := by decide +kernel
theorem dX2_init_44 : decode cX2_init 44 = .ok (.return_, 1) := by decide +kernel
theorem dX2_add_0 : decode cX2_add 0 = .ok (.aload_n 0, 1) := by decide +kernel
theorem dX2_add_1 : decode cX2_add 1 = .ok (.getfield 28, 3) := by decide +kernel
theorem dX2_add_4 : decode cX2_add 4 = .ok (.bipush 30, 2) := by decide +kernel
theorem dX2_add_6 : decode cX2_add 6 = .ok (.if_icmp .ge 48, 3) := by decide +kernel
theorem dX2_add_9 : decode cX2_add 9 = .ok (.iload_n 1, 1) := by decide +kernel
theorem dX2_add_10 : decode cX2_add 10 = .ok (.iconst 1, 1) := by decide +kernel
theorem dX2_add_11 : decode cX2_add 11 = .ok (.if_icmp .lt 43, 3) := by decide +kernel
theorem dX2_add_14 : decode cX2_add 14 = .ok (.iload_n 1, 1) := by decide +kernel
theorem dX2_add_15 : decode cX2_add 15 = .ok (.sipush 10000, 3) := by decide +kernel
theorem dX2_add_18 : decode cX2_add 18 = .ok (.if_icmp .gt 36, 3) := by decide +kernel
theorem dX2_add_21 : decode cX2_add 21 = .ok (.iload_n 2, 1) := by decide +kernel
theorem dX2_add_22 : decode cX2_add 22 = .ok (.ifCond .lt 32, 3) := by decide +kernel
theorem dX2_add_25 : decode cX2_add 25 = .ok (.iload_n 2, 1) := by decide +kernel
theorem dX2_add_26 : decode cX2_add 26 = .ok (.ldc 32, 2) := by decide +kernel
theorem dX2_add_28 : decode cX2_add 28 = .ok (.if_icmp .gt 26, 3) := by decide +kernel
theorem dX2_add_31 : decode cX2_add 31 = .ok (.iload_n 3, 1) := by decide +kernel
theorem dX2_add_32 : decode cX2_add 32 = .ok (.ifCond .lt 22, 3) := by decide +kernel
theorem dX2_add_35 : decode cX2_add 35 = .ok (.iload_n 3, 1) := by decide +kernel
theorem dX2_add_36 : decode cX2_add 36 = .ok (.bipush 15, 2) := by decide +kernel
theorem dX2_add_38 : decode cX2_add 38 = .ok (.if_icmp .gt 16, 3) := by decide +kernel
theorem dX2_add_41 : decode cX2_add 41 = .ok (.iload 4, 2) := by decide +kernel
theorem dX2_add_43 : decode cX2_add 43 = .ok (.iconst 1, 1) := by decide +kernel
theorem dX2_add_44 : decode cX2_add 44 = .ok (.if_icmp .lt 10, 3) := by decide +kernel
theorem dX2_add_47 : decode cX2_add 47 = .ok (.iload 4, 2) := by decide +kernel
theorem dX2_add_49 : decode cX2_add 49 = .ok (.bipush 16, 2) := by decide +kernel
theorem dX2_add_51 : decode cX2_add 51 = .ok (.if_icmp .le 5, 3) := by decide +kernel
theorem dX2_add_54 : decode cX2_add 54 = .ok (.iconst (-1), 1) := by decide +kernel
theorem dX2_add_55 : decode cX2_add 55 = .ok (.ireturn, 1) := by decide +kernel
theorem dX2_add_56 : decode cX2_add 56 = .ok (.aload_n 0, 1) := by decide +kernel
theorem dX2_add_57 : decode cX2_add 57 = .ok (.dup, 1) := by decide +kernel
theorem dX2_add_58 : decode cX2_add 58 = .ok (.getfield 28, 3) := by decide +kernel
theorem dX2_add_61 : decode cX2_add 61 = .ok (.iconst 1, 1) := by decide +kernel
theorem dX2_add_62 : decode cX2_add 62 = .ok (.iadd, 1) := by decide +kernel
theorem dX2_add_63 : decode cX2_add 63 = .ok (.putfield 28, 3) := by decide +kernel
theorem dX2_add_66 : decode cX2_add 66 = .ok (.aload_n 0, 1) := by decide +kernel
theorem dX2_add_67 : decode cX2_add 67 = .ok (.getfield 9, 3) := by decide +kernel
theorem dX2_add_70 : decode cX2_add 70 = .ok (.aload_n 0, 1) := by decide +kernel
theorem dX2_add_71 : decode cX2_add 71 = .ok (.getfield 28, 3) := by decide +kernel
theorem dX2_add_74 : decode cX2_add 74 = .ok (.iload_n 1, 1) := by decide +kernel
theorem dX2_add_75 : decode cX2_add 75 = .ok (.iastore, 1) := by decide +kernel
theorem dX2_add_76 : decode cX2_add 76 = .ok (.aload_n 0, 1) := by decide +kernel
theorem dX2_add_77 : decode cX2_add 77 = .ok (.getfield 15, 3) := by decide +kernel
theorem dX2_add_80 : decode cX2_add 80 = .ok (.aload_n 0, 1) := by decide +kernel
theorem dX2_add_81 : decode cX2_add 81 = .ok (.getfield 28, 3) := by decide +kernel
theorem dX2_add_84 : decode cX2_add 84 = .ok (.iload_n 2, 1) := by decide +kernel
theorem dX2_add_85 : decode cX2_add 85 = .ok (.iastore, 1) := by decide +kernel
theorem dX2_add_86 : decode cX2_add 86 = .ok (.aload_n 0, 1) := by decide +kernel
theorem dX2_add_87 : decode cX2_add 87 = .ok (.getfield 18, 3) := by decide +kernel
theorem dX2_add_90 : decode cX2_add 90 = .ok (.aload_n 0, 1) := by decide +kernel
theorem dX2_add_91 : decode cX2_add 91 = .ok (.getfield 28, 3) := by decide +kernel
theorem dX2_add_94 : decode cX2_add 94 = .ok (.iload_n 3, 1) := by decide +kernel
theorem dX2_add_95 : decode cX2_add 95 = .ok (.iastore, 1) := by decide +kernel
theorem dX2_add_96 : decode cX2_add 96 = .ok (.aload_n 0, 1) := by decide +kernel
theorem dX2_add_97 : decode cX2_add 97 = .ok (.getfield 21, 3) := by decide +kernel
theorem dX2_add_100 : decode cX2_add 100 = .ok (.aload_n 0, 1) := by decide +kernel
theorem dX2_add_101 : decode cX2_add 101 = .ok (.getfield 28, 3) := by decide +kernel
theorem dX2_add_104 : decode cX2_add 104 = .ok (.iload 4, 2) := by decide +kernel
theorem dX2_add_106 : decode cX2_add 106 = .ok (.iastore, 1) := by decide +kernel
theorem dX2_add_107 : decode cX2_add 107 = .ok (.aload_n 0, 1) := by decide +kernel
theorem dX2_add_108 : decode cX2_add 108 = .ok (.getfield 24, 3) := by decide +kernel
theorem dX2_add_111 : decode cX2_add 111 = .ok (.aload_n 0, 1) := by decide +kernel
theorem dX2_add_112 : decode cX2_add 112 = .ok (.getfield 28, 3) := by decide +kernel
theorem dX2_add_115 : decode cX2_add 115 = .ok (.iload 5, 2) := by decide +kernel
theorem dX2_add_117 : decode cX2_add 117 = .ok (.bastore, 1) := by decide +kernel
theorem dX2_add_118 : decode cX2_add 118 = .ok (.aload_n 0, 1) := by decide +kernel
theorem dX2_add_119 : decode cX2_add 119 = .ok (.getfield 28, 3) := by decide +kernel
theorem dX2_add_122 : decode cX2_add 122 = .ok (.ireturn, 1) := by decide +kernel
theorem dX2_isKind_0 : decode cX2_isKind 0 = .ok (.iload_n 1, 1) := by decide +kernel
theorem dX2_isKind_1 : decode cX2_isKind 1 = .ok (.iconst 1, 1) := by decide +kernel
theorem dX2_isKind_2 : decode cX2_isKind 2 = .ok (.if_icmp .lt 15, 3) := by decide +kernel
theorem dX2_isKind_5 : decode cX2_isKind 5 = .ok (.iload_n 1, 1) := by decide +kernel
theorem dX2_isKind_6 : decode cX2_isKind 6 = .ok (.aload_n 0, 1) := by decide +kernel
theorem dX2_isKind_7 : decode cX2_isKind 7 = .ok (.getfield 28, 3) := by decide +kernel
theorem dX2_isKind_10 : decode cX2_isKind 10 = .ok (.if_icmp .gt 7, 3) := by decide +kernel
theorem dX2_isKind_13 : decode cX2_isKind 13 = .ok (.iconst 1, 1) := by decide +kernel
theorem dX2_isKind_14 : decode cX2_isKind 14 = .ok (.goto 4, 3) := by decide +kernel
theorem dX2_isKind_17 : decode cX2_isKind 17 = .ok (.iconst 0, 1) := by decide +kernel
theorem dX2_isKind_18 : decode cX2_isKind 18 = .ok (.ireturn, 1) := by decide +kernel
theorem dX2_isKindOrOpen_0 : decode cX2_isKindOrOpen 0 = .ok (.iload_n 1, 1) := by decide +kernel
theorem dX2_isKindOrOpen_1 : decode cX2_isKindOrOpen 1 = .ok (.ifCond .eq 11, 3) := by decide +kernel
theorem dX2_isKindOrOpen_4 : decode cX2_isKindOrOpen 4 = .ok (.aload_n 0, 1) := by decide +kernel
theorem dX2_isKindOrOpen_5 : decode cX2_isKindOrOpen 5 = .ok (.iload_n 1, 1) := by decide +kernel
theorem dX2_isKindOrOpen_6 : decode cX2_isKindOrOpen 6 = .ok (.invokevirtual 33, 3) := by decide +kernel
theorem dX2_isKindOrOpen_9 : decode cX2_isKindOrOpen 9 = .ok (.ifCond .eq 7, 3) := by decide +kernel
theorem dX2_isKindOrOpen_12 : decode cX2_isKindOrOpen 12 = .ok (.iconst 1, 1) := by decide +kernel
theorem dX2_isKindOrOpen_13 : decode cX2_isKindOrOpen 13 = .ok (.goto 4, 3) := by decide +kernel
theorem dX2_isKindOrOpen_16 : decode cX2_isKindOrOpen 16 = .ok (.iconst 0, 1) := by decide +kernel
theorem dX2_isKindOrOpen_17 : decode cX2_isKindOrOpen 17 = .ok (.ireturn, 1) := by decide +kernel
theorem dX2_strengthOf_0 : decode cX2_strengthOf 0 = .ok (.aload_n 0, 1) := by decide +kernel
theorem dX2_strengthOf_1 : decode cX2_strengthOf 1 = .ok (.iload_n 1, 1) := by decide +kernel
theorem dX2_strengthOf_2 : decode cX2_strengthOf 2 = .ok (.invokevirtual 33, 3) := by decide +kernel
theorem dX2_strengthOf_5 : decode cX2_strengthOf 5 = .ok (.ifCond .eq 12, 3) := by decide +kernel
theorem dX2_strengthOf_8 : decode cX2_strengthOf 8 = .ok (.aload_n 0, 1) := by decide +kernel
theorem dX2_strengthOf_9 : decode cX2_strengthOf 9 = .ok (.getfield 15, 3) := by decide +kernel
theorem dX2_strengthOf_12 : decode cX2_strengthOf 12 = .ok (.iload_n 1, 1) := by decide +kernel
theorem dX2_strengthOf_13 : decode cX2_strengthOf 13 = .ok (.iaload, 1) := by decide +kernel
theorem dX2_strengthOf_14 : decode cX2_strengthOf 14 = .ok (.goto 4, 3) := by decide +kernel
theorem dX2_strengthOf_17 : decode cX2_strengthOf 17 = .ok (.iconst 0, 1) := by decide +kernel
theorem dX2_strengthOf_18 : decode cX2_strengthOf 18 = .ok (.ireturn, 1) := by decide +kernel
theorem dX2_lightOf_0 : decode cX2_lightOf 0 = .ok (.aload_n 0, 1) := by decide +kernel
theorem dX2_lightOf_1 : decode cX2_lightOf 1 = .ok (.iload_n 1, 1) := by decide +kernel
theorem dX2_lightOf_2 : decode cX2_lightOf 2 = .ok (.invokevirtual 33, 3) := by decide +kernel
theorem dX2_lightOf_5 : decode cX2_lightOf 5 = .ok (.ifCond .eq 12, 3) := by decide +kernel
theorem dX2_lightOf_8 : decode cX2_lightOf 8 = .ok (.aload_n 0, 1) := by decide +kernel
theorem dX2_lightOf_9 : decode cX2_lightOf 9 = .ok (.getfield 18, 3) := by decide +kernel
theorem dX2_lightOf_12 : decode cX2_lightOf 12 = .ok (.iload_n 1, 1) := by decide +kernel
theorem dX2_lightOf_13 : decode cX2_lightOf 13 = .ok (.iaload, 1) := by decide +kernel
theorem dX2_lightOf_14 : decode cX2_lightOf 14 = .ok (.goto 4, 3) := by decide +kernel
theorem dX2_lightOf_17 : decode cX2_lightOf 17 = .ok (.iconst 0, 1) := by decide +kernel
theorem dX2_lightOf_18 : decode cX2_lightOf 18 = .ok (.ireturn, 1) := by decide +kernel
theorem dX2_lossOf_0 : decode cX2_lossOf 0 = .ok (.aload_n 0, 1) := by decide +kernel
theorem dX2_lossOf_1 : decode cX2_lossOf 1 = .ok (.iload_n 1, 1) := by decide +kernel
theorem dX2_lossOf_2 : decode cX2_lossOf 2 = .ok (.invokevirtual 33, 3) := by decide +kernel
theorem dX2_lossOf_5 : decode cX2_lossOf 5 = .ok (.ifCond .eq 12, 3) := by decide +kernel
theorem dX2_lossOf_8 : decode cX2_lossOf 8 = .ok (.aload_n 0, 1) := by decide +kernel
theorem dX2_lossOf_9 : decode cX2_lossOf 9 = .ok (.getfield 21, 3) := by decide +kernel
theorem dX2_lossOf_12 : decode cX2_lossOf 12 = .ok (.iload_n 1, 1) := by decide +kernel
theorem dX2_lossOf_13 : decode cX2_lossOf 13 = .ok (.iaload, 1) := by decide +kernel
theorem dX2_lossOf_14 : decode cX2_lossOf 14 = .ok (.goto 4, 3) := by decide +kernel
theorem dX2_lossOf_17 : decode cX2_lossOf 17 = .ok (.iconst 1, 1) := by decide +kernel
theorem dX2_lossOf_18 : decode cX2_lossOf 18 = .ok (.ireturn, 1) := by decide +kernel
theorem dX2_hangs_0 : decode cX2_hangs 0 = .ok (.aload_n 0, 1) := by decide +kernel
theorem dX2_hangs_1 : decode cX2_hangs 1 = .ok (.iload_n 1, 1) := by decide +kernel
theorem dX2_hangs_2 : decode cX2_hangs 2 = .ok (.invokevirtual 33, 3) := by decide +kernel
theorem dX2_hangs_5 : decode cX2_hangs 5 = .ok (.ifCond .eq 16, 3) := by decide +kernel
theorem dX2_hangs_8 : decode cX2_hangs 8 = .ok (.aload_n 0, 1) := by decide +kernel
theorem dX2_hangs_9 : decode cX2_hangs 9 = .ok (.getfield 24, 3) := by decide +kernel
theorem dX2_hangs_12 : decode cX2_hangs 12 = .ok (.iload_n 1, 1) := by decide +kernel
theorem dX2_hangs_13 : decode cX2_hangs 13 = .ok (.baload, 1) := by decide +kernel
theorem dX2_hangs_14 : decode cX2_hangs 14 = .ok (.ifCond .eq 7, 3) := by decide +kernel
theorem dX2_hangs_17 : decode cX2_hangs 17 = .ok (.iconst 1, 1) := by decide +kernel
theorem dX2_hangs_18 : decode cX2_hangs 18 = .ok (.goto 4, 3) := by decide +kernel
theorem dX2_hangs_21 : decode cX2_hangs 21 = .ok (.iconst 0, 1) := by decide +kernel
theorem dX2_hangs_22 : decode cX2_hangs 22 = .ok (.ireturn, 1) := by decide +kernel
theorem dX2_loadOn_0 : decode cX2_loadOn 0 = .ok (.iconst 0, 1) := by decide +kernel
theorem dX2_loadOn_1 : decode cX2_loadOn 1 = .ok (.istore_n 3, 1) := by decide +kernel
theorem dX2_loadOn_2 : decode cX2_loadOn 2 = .ok (.iload_n 1, 1) := by decide +kernel
theorem dX2_loadOn_3 : decode cX2_loadOn 3 = .ok (.bipush 100, 2) := by decide +kernel
theorem dX2_loadOn_5 : decode cX2_loadOn 5 = .ok (.iadd, 1) := by decide +kernel
theorem dX2_loadOn_6 : decode cX2_loadOn 6 = .ok (.istore 4, 2) := by decide +kernel
theorem dX2_loadOn_8 : decode cX2_loadOn 8 = .ok (.iload 4, 2) := by decide +kernel
theorem dX2_loadOn_10 : decode cX2_loadOn 10 = .ok (.sipush 1000, 3) := by decide +kernel
theorem dX2_loadOn_13 : decode cX2_loadOn 13 = .ok (.if_icmp .ge 52, 3) := by decide +kernel
theorem dX2_loadOn_16 : decode cX2_loadOn 16 = .ok (.aload_n 2, 1) := by decide +kernel
theorem dX2_loadOn_17 : decode cX2_loadOn 17 = .ok (.iload 4, 2) := by decide +kernel
theorem dX2_loadOn_19 : decode cX2_loadOn 19 = .ok (.invokevirtual 37, 3) := by decide +kernel
theorem dX2_loadOn_22 : decode cX2_loadOn 22 = .ok (.ifCond .eq 43, 3) := by decide +kernel
theorem dX2_loadOn_25 : decode cX2_loadOn 25 = .ok (.aload_n 2, 1) := by decide +kernel
theorem dX2_loadOn_26 : decode cX2_loadOn 26 = .ok (.iload 4, 2) := by decide +kernel
theorem dX2_loadOn_28 : decode cX2_loadOn 28 = .ok (.invokevirtual 42, 3) := by decide +kernel
theorem dX2_loadOn_31 : decode cX2_loadOn 31 = .ok (.invokestatic 46, 3) := by decide +kernel
theorem dX2_loadOn_34 : decode cX2_loadOn 34 = .ok (.istore 5, 2) := by decide +kernel
theorem dX2_loadOn_36 : decode cX2_loadOn 36 = .ok (.iload_n 3, 1) := by decide +kernel
theorem dX2_loadOn_37 : decode cX2_loadOn 37 = .ok (.aload_n 0, 1) := by decide +kernel
theorem dX2_loadOn_38 : decode cX2_loadOn 38 = .ok (.iload 5, 2) := by decide +kernel
theorem dX2_loadOn_40 : decode cX2_loadOn 40 = .ok (.invokevirtual 33, 3) := by decide +kernel
theorem dX2_loadOn_43 : decode cX2_loadOn 43 = .ok (.ifCond .eq 13, 3) := by decide +kernel
theorem dX2_loadOn_46 : decode cX2_loadOn 46 = .ok (.aload_n 0, 1) := by decide +kernel
theorem dX2_loadOn_47 : decode cX2_loadOn 47 = .ok (.getfield 9, 3) := by decide +kernel
theorem dX2_loadOn_50 : decode cX2_loadOn 50 = .ok (.iload 5, 2) := by decide +kernel
theorem dX2_loadOn_52 : decode cX2_loadOn 52 = .ok (.iaload, 1) := by decide +kernel
theorem dX2_loadOn_53 : decode cX2_loadOn 53 = .ok (.goto 4, 3) := by decide +kernel
theorem dX2_loadOn_56 : decode cX2_loadOn 56 = .ok (.iconst 0, 1) := by decide +kernel
theorem dX2_loadOn_57 : decode cX2_loadOn 57 = .ok (.iadd, 1) := by decide +kernel
theorem dX2_loadOn_58 : decode cX2_loadOn 58 = .ok (.istore_n 3, 1) := by decide +kernel
theorem dX2_loadOn_59 : decode cX2_loadOn 59 = .ok (.iinc 4 100, 3) := by decide +kernel
theorem dX2_loadOn_62 : decode cX2_loadOn 62 = .ok (.goto (-54), 3) := by decide +kernel
theorem dX2_loadOn_65 : decode cX2_loadOn 65 = .ok (.iload_n 3, 1) := by decide +kernel
theorem dX2_loadOn_66 : decode cX2_loadOn 66 = .ok (.ireturn, 1) := by decide +kernel
theorem dX3_init_0 : decode cX3_init 0 = .ok (.aload_n 0, 1) := by decide +kernel
theorem dX3_init_1 : decode cX3_init 1 = .ok (.invokespecial 3, 3) := by decide +kernel
theorem dX3_init_4 : decode cX3_init 4 = .ok (.aload_n 0, 1) := by decide +kernel
theorem dX3_init_5 : decode cX3_init 5 = .ok (.sipush 1000, 3) := by decide +kernel
theorem dX3_init_8 : decode cX3_init 8 = .ok (.newarray .int, 2) := by decide +kernel
theorem dX3_init_10 : decode cX3_init 10 = .ok (.putfield 9, 3) := by decide +kernel
theorem dX3_init_13 : decode cX3_init 13 = .ok (.return_, 1) := by decide +kernel
theorem dX3_shine_0 : decode cX3_shine 0 = .ok (.iconst 0, 1) := by decide +kernel
theorem dX3_shine_1 : decode cX3_shine 1 = .ok (.istore_n 3, 1) := by decide +kernel
theorem dX3_shine_2 : decode cX3_shine 2 = .ok (.iconst 0, 1) := by decide +kernel
theorem dX3_shine_3 : decode cX3_shine 3 = .ok (.istore 4, 2) := by decide +kernel
theorem dX3_shine_5 : decode cX3_shine 5 = .ok (.iload 4, 2) := by decide +kernel
theorem dX3_shine_7 : decode cX3_shine 7 = .ok (.sipush 1000, 3) := by decide +kernel
theorem dX3_shine_10 : decode cX3_shine 10 = .ok (.if_icmp .ge 54, 3) := by decide +kernel
theorem dX3_shine_13 : decode cX3_shine 13 = .ok (.aload_n 0, 1) := by decide +kernel
theorem dX3_shine_14 : decode cX3_shine 14 = .ok (.getfield 9, 3) := by decide +kernel
theorem dX3_shine_17 : decode cX3_shine 17 = .ok (.iload 4, 2) := by decide +kernel
theorem dX3_shine_19 : decode cX3_shine 19 = .ok (.aload_n 1, 1) := by decide +kernel
theorem dX3_shine_20 : decode cX3_shine 20 = .ok (.iload 4, 2) := by decide +kernel
theorem dX3_shine_22 : decode cX3_shine 22 = .ok (.invokevirtual 15, 3) := by decide +kernel
theorem dX3_shine_25 : decode cX3_shine 25 = .ok (.ifCond .eq 19, 3) := by decide +kernel
theorem dX3_shine_28 : decode cX3_shine 28 = .ok (.aload_n 2, 1) := by decide +kernel
theorem dX3_shine_29 : decode cX3_shine 29 = .ok (.aload_n 1, 1) := by decide +kernel
theorem dX3_shine_30 : decode cX3_shine 30 = .ok (.iload 4, 2) := by decide +kernel
theorem dX3_shine_32 : decode cX3_shine 32 = .ok (.invokevirtual 21, 3) := by decide +kernel
theorem dX3_shine_35 : decode cX3_shine 35 = .ok (.invokestatic 25, 3) := by decide +kernel
theorem dX3_shine_38 : decode cX3_shine 38 = .ok (.invokevirtual 28, 3) := by decide +kernel
theorem dX3_shine_41 : decode cX3_shine 41 = .ok (.goto 4, 3) := by decide +kernel
theorem dX3_shine_44 : decode cX3_shine 44 = .ok (.iconst 0, 1) := by decide +kernel
theorem dX3_shine_45 : decode cX3_shine 45 = .ok (.iastore, 1) := by decide +kernel
theorem dX3_shine_46 : decode cX3_shine 46 = .ok (.iload_n 3, 1) := by decide +kernel
theorem dX3_shine_47 : decode cX3_shine 47 = .ok (.aload_n 0, 1) := by decide +kernel
theorem dX3_shine_48 : decode cX3_shine 48 = .ok (.getfield 9, 3) := by decide +kernel
theorem dX3_shine_51 : decode cX3_shine 51 = .ok (.iload 4, 2) := by decide +kernel
theorem dX3_shine_53 : decode cX3_shine 53 = .ok (.iaload, 1) := by decide +kernel
theorem dX3_shine_54 : decode cX3_shine 54 = .ok (.invokestatic 33, 3) := by decide +kernel
theorem dX3_shine_57 : decode cX3_shine 57 = .ok (.istore_n 3, 1) := by decide +kernel
theorem dX3_shine_58 : decode cX3_shine 58 = .ok (.iinc 4 1, 3) := by decide +kernel
theorem dX3_shine_61 : decode cX3_shine 61 = .ok (.goto (-56), 3) := by decide +kernel
theorem dX3_shine_64 : decode cX3_shine 64 = .ok (.iload_n 3, 1) := by decide +kernel
theorem dX3_shine_65 : decode cX3_shine 65 = .ok (.istore 4, 2) := by decide +kernel
theorem dX3_shine_67 : decode cX3_shine 67 = .ok (.iload 4, 2) := by decide +kernel
theorem dX3_shine_69 : decode cX3_shine 69 = .ok (.iconst 1, 1) := by decide +kernel
theorem dX3_shine_70 : decode cX3_shine 70 = .ok (.if_icmp .le 46, 3) := by decide +kernel
theorem dX3_shine_73 : decode cX3_shine 73 = .ok (.iconst 0, 1) := by decide +kernel
theorem dX3_shine_74 : decode cX3_shine 74 = .ok (.istore 5, 2) := by decide +kernel
theorem dX3_shine_76 : decode cX3_shine 76 = .ok (.iload 5, 2) := by decide +kernel
theorem dX3_shine_78 : decode cX3_shine 78 = .ok (.sipush 1000, 3) := by decide +kernel
theorem dX3_shine_81 : decode cX3_shine 81 = .ok (.if_icmp .ge 29, 3) := by decide +kernel
theorem dX3_shine_84 : decode cX3_shine 84 = .ok (.aload_n 0, 1) := by decide +kernel
theorem dX3_shine_85 : decode cX3_shine 85 = .ok (.getfield 9, 3) := by decide +kernel
theorem dX3_shine_88 : decode cX3_shine 88 = .ok (.iload 5, 2) := by decide +kernel
theorem dX3_shine_90 : decode cX3_shine 90 = .ok (.iaload, 1) := by decide +kernel
theorem dX3_shine_91 : decode cX3_shine 91 = .ok (.iload 4, 2) := by decide +kernel
theorem dX3_shine_93 : decode cX3_shine 93 = .ok (.if_icmp .ne 11, 3) := by decide +kernel
theorem dX3_shine_96 : decode cX3_shine 96 = .ok (.aload_n 0, 1) := by decide +kernel
theorem dX3_shine_97 : decode cX3_shine 97 = .ok (.iload 5, 2) := by decide +kernel
theorem dX3_shine_99 : decode cX3_shine 99 = .ok (.aload_n 1, 1) := by decide +kernel
theorem dX3_shine_100 : decode cX3_shine 100 = .ok (.aload_n 2, 1) := by decide +kernel
theorem dX3_shine_101 : decode cX3_shine 101 = .ok (.invokevirtual 39, 3) := by decide +kernel
theorem dX3_shine_104 : decode cX3_shine 104 = .ok (.iinc 5 1, 3) := by decide +kernel
theorem dX3_shine_107 : decode cX3_shine 107 = .ok (.goto (-31), 3) := by decide +kernel
theorem dX3_shine_110 : decode cX3_shine 110 = .ok (.iinc 4 (-1), 3) := by decide +kernel
theorem dX3_shine_113 : decode cX3_shine 113 = .ok (.goto (-46), 3) := by decide +kernel
theorem dX3_shine_116 : decode cX3_shine 116 = .ok (.return_, 1) := by decide +kernel
theorem dX3_spread_0 : decode cX3_spread 0 = .ok (.iconst 0, 1) := by decide +kernel
theorem dX3_spread_1 : decode cX3_spread 1 = .ok (.istore 4, 2) := by decide +kernel
theorem dX3_spread_3 : decode cX3_spread 3 = .ok (.iload 4, 2) := by decide +kernel
theorem dX3_spread_5 : decode cX3_spread 5 = .ok (.bipush 6, 2) := by decide +kernel
theorem dX3_spread_7 : decode cX3_spread 7 = .ok (.if_icmp .ge 64, 3) := by decide +kernel
theorem dX3_spread_10 : decode cX3_spread 10 = .ok (.iload_n 1, 1) := by decide +kernel
theorem dX3_spread_11 : decode cX3_spread 11 = .ok (.iload 4, 2) := by decide +kernel
theorem dX3_spread_13 : decode cX3_spread 13 = .ok (.invokestatic 43, 3) := by decide +kernel
theorem dX3_spread_16 : decode cX3_spread 16 = .ok (.istore 5, 2) := by decide +kernel
theorem dX3_spread_18 : decode cX3_spread 18 = .ok (.aload_n 2, 1) := by decide +kernel
theorem dX3_spread_19 : decode cX3_spread 19 = .ok (.iload 5, 2) := by decide +kernel
theorem dX3_spread_21 : decode cX3_spread 21 = .ok (.invokevirtual 21, 3) := by decide +kernel
theorem dX3_spread_24 : decode cX3_spread 24 = .ok (.istore 6, 2) := by decide +kernel
theorem dX3_spread_26 : decode cX3_spread 26 = .ok (.iload 6, 2) := by decide +kernel
theorem dX3_spread_28 : decode cX3_spread 28 = .ok (.iconst (-1), 1) := by decide +kernel
theorem dX3_spread_29 : decode cX3_spread 29 = .ok (.if_icmp .eq 36, 3) := by decide +kernel
theorem dX3_spread_32 : decode cX3_spread 32 = .ok (.aload_n 0, 1) := by decide +kernel
theorem dX3_spread_33 : decode cX3_spread 33 = .ok (.getfield 9, 3) := by decide +kernel
theorem dX3_spread_36 : decode cX3_spread 36 = .ok (.iload 5, 2) := by decide +kernel
theorem dX3_spread_38 : decode cX3_spread 38 = .ok (.aload_n 0, 1) := by decide +kernel
theorem dX3_spread_39 : decode cX3_spread 39 = .ok (.getfield 9, 3) := by decide +kernel
theorem dX3_spread_42 : decode cX3_spread 42 = .ok (.iload 5, 2) := by decide +kernel
theorem dX3_spread_44 : decode cX3_spread 44 = .ok (.iaload, 1) := by decide +kernel
theorem dX3_spread_45 : decode cX3_spread 45 = .ok (.aload_n 0, 1) := by decide +kernel
theorem dX3_spread_46 : decode cX3_spread 46 = .ok (.getfield 9, 3) := by decide +kernel
theorem dX3_spread_49 : decode cX3_spread 49 = .ok (.iload_n 1, 1) := by decide +kernel
theorem dX3_spread_50 : decode cX3_spread 50 = .ok (.iaload, 1) := by decide +kernel
theorem dX3_spread_51 : decode cX3_spread 51 = .ok (.aload_n 3, 1) := by decide +kernel
theorem dX3_spread_52 : decode cX3_spread 52 = .ok (.iload 6, 2) := by decide +kernel
theorem dX3_spread_54 : decode cX3_spread 54 = .ok (.invokestatic 25, 3) := by decide +kernel
theorem dX3_spread_57 : decode cX3_spread 57 = .ok (.invokevirtual 46, 3) := by decide +kernel
theorem dX3_spread_60 : decode cX3_spread 60 = .ok (.isub, 1) := by decide +kernel
theorem dX3_spread_61 : decode cX3_spread 61 = .ok (.invokestatic 33, 3) := by decide +kernel
theorem dX3_spread_64 : decode cX3_spread 64 = .ok (.iastore, 1) := by decide +kernel
theorem dX3_spread_65 : decode cX3_spread 65 = .ok (.iinc 4 1, 3) := by decide +kernel
theorem dX3_spread_68 : decode cX3_spread 68 = .ok (.goto (-65), 3) := by decide +kernel
theorem dX3_spread_71 : decode cX3_spread 71 = .ok (.return_, 1) := by decide +kernel
theorem dX4_init_0 : decode cX4_init 0 = .ok (.aload_n 0, 1) := by decide +kernel
theorem dX4_init_1 : decode cX4_init 1 = .ok (.invokespecial 3, 3) := by decide +kernel
theorem dX4_init_4 : decode cX4_init 4 = .ok (.aload_n 0, 1) := by decide +kernel
theorem dX4_init_5 : decode cX4_init 5 = .ok (.bipush 10, 2) := by decide +kernel
theorem dX4_init_7 : decode cX4_init 7 = .ok (.anewarray 9, 3) := by decide +kernel
theorem dX4_init_10 : decode cX4_init 10 = .ok (.putfield 11, 3) := by decide +kernel
theorem dX4_init_13 : decode cX4_init 13 = .ok (.return_, 1) := by decide +kernel
theorem dX4_hold_0 : decode cX4_hold 0 = .ok (.aload_n 0, 1) := by decide +kernel
theorem dX4_hold_1 : decode cX4_hold 1 = .ok (.getfield 17, 3) := by decide +kernel
theorem dX4_hold_4 : decode cX4_hold 4 = .ok (.ifCond .ne 46, 3) := by decide +kernel
theorem dX4_hold_7 : decode cX4_hold 7 = .ok (.aload_n 1, 1) := by decide +kernel
theorem dX4_hold_8 : decode cX4_hold 8 = .ok (.dup, 1) := by decide +kernel
theorem dX4_hold_9 : decode cX4_hold 9 = .ok (.getfield 21, 3) := by decide +kernel
theorem dX4_hold_12 : decode cX4_hold 12 = .ok (.iconst 1, 1) := by decide +kernel
theorem dX4_hold_13 : decode cX4_hold 13 = .ok (.iadd, 1) := by decide +kernel
theorem dX4_hold_14 : decode cX4_hold 14 = .ok (.putfield 21, 3) := by decide +kernel
theorem dX4_hold_17 : decode cX4_hold 17 = .ok (.iconst 0, 1) := by decide +kernel
theorem dX4_hold_18 : decode cX4_hold 18 = .ok (.istore_n 2, 1) := by decide +kernel
theorem dX4_hold_19 : decode cX4_hold 19 = .ok (.iload_n 2, 1) := by decide +kernel
theorem dX4_hold_20 : decode cX4_hold 20 = .ok (.bipush 10, 2) := by decide +kernel
theorem dX4_hold_22 : decode cX4_hold 22 = .ok (.if_icmp .ge 28, 3) := by decide +kernel
theorem dX4_hold_25 : decode cX4_hold 25 = .ok (.aload_n 0, 1) := by decide +kernel
theorem dX4_hold_26 : decode cX4_hold 26 = .ok (.getfield 11, 3) := by decide +kernel
theorem dX4_hold_29 : decode cX4_hold 29 = .ok (.iload_n 2, 1) := by decide +kernel
theorem dX4_hold_30 : decode cX4_hold 30 = .ok (.aaload, 1) := by decide +kernel
theorem dX4_hold_31 : decode cX4_hold 31 = .ok (.ifnull 13, 3) := by decide +kernel
theorem dX4_hold_34 : decode cX4_hold 34 = .ok (.aload_n 0, 1) := by decide +kernel
theorem dX4_hold_35 : decode cX4_hold 35 = .ok (.getfield 11, 3) := by decide +kernel
theorem dX4_hold_38 : decode cX4_hold 38 = .ok (.iload_n 2, 1) := by decide +kernel
theorem dX4_hold_39 : decode cX4_hold 39 = .ok (.aaload, 1) := by decide +kernel
theorem dX4_hold_40 : decode cX4_hold 40 = .ok (.aload_n 1, 1) := by decide +kernel
theorem dX4_hold_41 : decode cX4_hold 41 = .ok (.invokevirtual 26, 3) := by decide +kernel
theorem dX4_hold_44 : decode cX4_hold 44 = .ok (.iinc 2 1, 3) := by decide +kernel
theorem dX4_hold_47 : decode cX4_hold 47 = .ok (.goto (-28), 3) := by decide +kernel
theorem dX4_hold_50 : decode cX4_hold 50 = .ok (.aload_n 0, 1) := by decide +kernel
theorem dX4_hold_51 : decode cX4_hold 51 = .ok (.dup, 1) := by decide +kernel
theorem dX4_hold_52 : decode cX4_hold 52 = .ok (.getfield 17, 3) := by decide +kernel
theorem dX4_hold_55 : decode cX4_hold 55 = .ok (.iconst 1, 1) := by decide +kernel
theorem dX4_hold_56 : decode cX4_hold 56 = .ok (.iadd, 1) := by decide +kernel
theorem dX4_hold_57 : decode cX4_hold 57 = .ok (.putfield 17, 3) := by decide +kernel
theorem dX4_hold_60 : decode cX4_hold 60 = .ok (.return_, 1) := by decide +kernel
theorem dX4_release_0 : decode cX4_release 0 = .ok (.aload_n 0, 1) := by decide +kernel
theorem dX4_release_1 : decode cX4_release 1 = .ok (.dup, 1) := by decide +kernel
theorem dX4_release_2 : decode cX4_release 2 = .ok (.getfield 17, 3) := by decide +kernel
theorem dX4_release_5 : decode cX4_release 5 = .ok (.iconst 1, 1) := by decide +kernel
theorem dX4_release_6 : decode cX4_release 6 = .ok (.isub, 1) := by decide +kernel
theorem dX4_release_7 : decode cX4_release 7 = .ok (.putfield 17, 3) := by decide +kernel
theorem dX4_release_10 : decode cX4_release 10 = .ok (.aload_n 0, 1) := by decide +kernel
theorem dX4_release_11 : decode cX4_release 11 = .ok (.getfield 17, 3) := by decide +kernel
theorem dX4_release_14 : decode cX4_release 14 = .ok (.ifCond .ne 46, 3) := by decide +kernel
theorem dX4_release_17 : decode cX4_release 17 = .ok (.aload_n 1, 1) := by decide +kernel
theorem dX4_release_18 : decode cX4_release 18 = .ok (.dup, 1) := by decide +kernel
theorem dX4_release_19 : decode cX4_release 19 = .ok (.getfield 21, 3) := by decide +kernel
theorem dX4_release_22 : decode cX4_release 22 = .ok (.iconst 1, 1) := by decide +kernel
theorem dX4_release_23 : decode cX4_release 23 = .ok (.isub, 1) := by decide +kernel
theorem dX4_release_24 : decode cX4_release 24 = .ok (.putfield 21, 3) := by decide +kernel
theorem dX4_release_27 : decode cX4_release 27 = .ok (.iconst 0, 1) := by decide +kernel
theorem dX4_release_28 : decode cX4_release 28 = .ok (.istore_n 2, 1) := by decide +kernel
theorem dX4_release_29 : decode cX4_release 29 = .ok (.iload_n 2, 1) := by decide +kernel
theorem dX4_release_30 : decode cX4_release 30 = .ok (.bipush 10, 2) := by decide +kernel
theorem dX4_release_32 : decode cX4_release 32 = .ok (.if_icmp .ge 28, 3) := by decide +kernel
theorem dX4_release_35 : decode cX4_release 35 = .ok (.aload_n 0, 1) := by decide +kernel
theorem dX4_release_36 : decode cX4_release 36 = .ok (.getfield 11, 3) := by decide +kernel
theorem dX4_release_39 : decode cX4_release 39 = .ok (.iload_n 2, 1) := by decide +kernel
theorem dX4_release_40 : decode cX4_release 40 = .ok (.aaload, 1) := by decide +kernel
theorem dX4_release_41 : decode cX4_release 41 = .ok (.ifnull 13, 3) := by decide +kernel
theorem dX4_release_44 : decode cX4_release 44 = .ok (.aload_n 0, 1) := by decide +kernel
theorem dX4_release_45 : decode cX4_release 45 = .ok (.getfield 11, 3) := by decide +kernel
theorem dX4_release_48 : decode cX4_release 48 = .ok (.iload_n 2, 1) := by decide +kernel
theorem dX4_release_49 : decode cX4_release 49 = .ok (.aaload, 1) := by decide +kernel
theorem dX4_release_50 : decode cX4_release 50 = .ok (.aload_n 1, 1) := by decide +kernel
theorem dX4_release_51 : decode cX4_release 51 = .ok (.invokevirtual 30, 3) := by decide +kernel
theorem dX4_release_54 : decode cX4_release 54 = .ok (.iinc 2 1, 3) := by decide +kernel
theorem dX4_release_57 : decode cX4_release 57 = .ok (.goto (-28), 3) := by decide +kernel
theorem dX4_release_60 : decode cX4_release 60 = .ok (.return_, 1) := by decide +kernel
theorem dX4_setRow_0 : decode cX4_setRow 0 = .ok (.aload_n 0, 1) := by decide +kernel
theorem dX4_setRow_1 : decode cX4_setRow 1 = .ok (.getfield 11, 3) := by decide +kernel
theorem dX4_setRow_4 : decode cX4_setRow 4 = .ok (.iload_n 1, 1) := by decide +kernel
theorem dX4_setRow_5 : decode cX4_setRow 5 = .ok (.aaload, 1) := by decide +kernel
theorem dX4_setRow_6 : decode cX4_setRow 6 = .ok (.astore 4, 2) := by decide +kernel
theorem dX4_setRow_8 : decode cX4_setRow 8 = .ok (.aload_n 2, 1) := by decide +kernel
theorem dX4_setRow_9 : decode cX4_setRow 9 = .ok (.aload_n 3, 1) := by decide +kernel
theorem dX4_setRow_10 : decode cX4_setRow 10 = .ok (.invokevirtual 26, 3) := by decide +kernel
theorem dX4_setRow_13 : decode cX4_setRow 13 = .ok (.aload_n 0, 1) := by decide +kernel
theorem dX4_setRow_14 : decode cX4_setRow 14 = .ok (.getfield 11, 3) := by decide +kernel
theorem dX4_setRow_17 : decode cX4_setRow 17 = .ok (.iload_n 1, 1) := by decide +kernel
theorem dX4_setRow_18 : decode cX4_setRow 18 = .ok (.aload_n 2, 1) := by decide +kernel
theorem dX4_setRow_19 : decode cX4_setRow 19 = .ok (.aastore, 1) := by decide +kernel
theorem dX4_setRow_20 : decode cX4_setRow 20 = .ok (.aload 4, 2) := by decide +kernel
theorem dX4_setRow_22 : decode cX4_setRow 22 = .ok (.ifnull 9, 3) := by decide +kernel
theorem dX4_setRow_25 : decode cX4_setRow 25 = .ok (.aload 4, 2) := by decide +kernel
theorem dX4_setRow_27 : decode cX4_setRow 27 = .ok (.aload_n 3, 1) := by decide +kernel
theorem dX4_setRow_28 : decode cX4_setRow 28 = .ok (.invokevirtual 30, 3) := by decide +kernel
theorem dX4_setRow_31 : decode cX4_setRow 31 = .ok (.return_, 1) := by decide +kernel
theorem dX5_init_0 : decode cX5_init 0 = .ok (.aload_n 0, 1) := by decide +kernel
theorem dX5_init_1 : decode cX5_init 1 = .ok (.invokespecial 1, 3) := by decide +kernel
theorem dX5_init_4 : decode cX5_init 4 = .ok (.return_, 1) := by decide +kernel
theorem dX6_init_0 : decode cX6_init 0 = .ok (.aload_n 0, 1) := by decide +kernel
theorem dX6_init_1 : decode cX6_init 1 = .ok (.invokespecial 3, 3) := by decide +kernel
theorem dX6_init_4 : decode cX6_init 4 = .ok (.aload_n 0, 1) := by decide +kernel
theorem dX6_init_5 : decode cX6_init 5 = .ok (.sipush 1000, 3) := by decide +kernel
theorem dX6_init_8 : decode cX6_init 8 = .ok (.newarray .int, 2) := by decide +kernel
theorem dX6_init_10 : decode cX6_init 10 = .ok (.putfield 9, 3) := by decide +kernel
theorem dX6_init_13 : decode cX6_init 13 = .ok (.aload_n 0, 1) := by decide +kernel
theorem dX6_init_14 : decode cX6_init 14 = .ok (.sipush 1000, 3) := by decide +kernel
theorem dX6_init_17 : decode cX6_init 17 = .ok (.newarray .int, 2) := by decide +kernel
theorem dX6_init_19 : decode cX6_init 19 = .ok (.putfield 15, 3) := by decide +kernel
theorem dX6_init_22 : decode cX6_init 22 = .ok (.aload_n 0, 1) := by decide +kernel
theorem dX6_init_23 : decode cX6_init 23 = .ok (.sipush 1001, 3) := by decide +kernel
theorem dX6_init_26 : decode cX6_init 26 = .ok (.newarray .int, 2) := by decide +kernel
theorem dX6_init_28 : decode cX6_init 28 = .ok (.putfield 18, 3) := by decide +kernel
theorem dX6_init_31 : decode cX6_init 31 = .ok (.aload_n 0, 1) := by decide +kernel
theorem dX6_init_32 : decode cX6_init 32 = .ok (.sipush 1000, 3) := by decide +kernel
theorem dX6_init_35 : decode cX6_init 35 = .ok (.newarray .int, 2) := by decide +kernel
theorem dX6_init_37 : decode cX6_init 37 = .ok (.putfield 21, 3) := by decide +kernel
theorem dX6_init_40 : decode cX6_init 40 = .ok (.return_, 1) := by decide +kernel
theorem dX6_find_0 : decode cX6_find 0 = .ok (.iconst 0, 1) := by decide +kernel
theorem dX6_find_1 : decode cX6_find 1 = .ok (.istore_n 2, 1) := by decide +kernel
theorem dX6_find_2 : decode cX6_find 2 = .ok (.iload_n 2, 1) := by decide +kernel
theorem dX6_find_3 : decode cX6_find 3 = .ok (.sipush 1000, 3) := by decide +kernel
theorem dX6_find_6 : decode cX6_find 6 = .ok (.if_icmp .ge 16, 3) := by decide +kernel
theorem dX6_find_9 : decode cX6_find 9 = .ok (.aload_n 0, 1) := by decide +kernel
theorem dX6_find_10 : decode cX6_find 10 = .ok (.getfield 9, 3) := by decide +kernel
theorem dX6_find_13 : decode cX6_find 13 = .ok (.iload_n 2, 1) := by decide +kernel
theorem dX6_find_14 : decode cX6_find 14 = .ok (.iconst (-1), 1) := by decide +kernel
theorem dX6_find_15 : decode cX6_find 15 = .ok (.iastore, 1) := by decide +kernel
theorem dX6_find_16 : decode cX6_find 16 = .ok (.iinc 2 1, 3) := by decide +kernel
theorem dX6_find_19 : decode cX6_find 19 = .ok (.goto (-17), 3) := by decide +kernel
theorem dX6_find_22 : decode cX6_find 22 = .ok (.aload_n 0, 1) := by decide +kernel
theorem dX6_find_23 : decode cX6_find 23 = .ok (.iconst 0, 1) := by decide +kernel
theorem dX6_find_24 : decode cX6_find 24 = .ok (.putfield 24, 3) := by decide +kernel
theorem dX6_find_27 : decode cX6_find 27 = .ok (.iconst 0, 1) := by decide +kernel
theorem dX6_find_28 : decode cX6_find 28 = .ok (.istore_n 2, 1) := by decide +kernel
theorem dX6_find_29 : decode cX6_find 29 = .ok (.iconst 0, 1) := by decide +kernel
theorem dX6_find_30 : decode cX6_find 30 = .ok (.istore_n 3, 1) := by decide +kernel
theorem dX6_find_31 : decode cX6_find 31 = .ok (.iload_n 3, 1) := by decide +kernel
theorem dX6_find_32 : decode cX6_find 32 = .ok (.sipush 1000, 3) := by decide +kernel
theorem dX6_find_35 : decode cX6_find 35 = .ok (.if_icmp .ge 55, 3) := by decide +kernel
theorem dX6_find_38 : decode cX6_find 38 = .ok (.aload_n 1, 1) := by decide +kernel
theorem dX6_find_39 : decode cX6_find 39 = .ok (.iload_n 3, 1) := by decide +kernel
theorem dX6_find_40 : decode cX6_find 40 = .ok (.invokevirtual 28, 3) := by decide +kernel
theorem dX6_find_43 : decode cX6_find 43 = .ok (.ifCond .eq 41, 3) := by decide +kernel
theorem dX6_find_46 : decode cX6_find 46 = .ok (.aload_n 0, 1) := by decide +kernel
theorem dX6_find_47 : decode cX6_find 47 = .ok (.getfield 9, 3) := by decide +kernel
theorem dX6_find_50 : decode cX6_find 50 = .ok (.iload_n 3, 1) := by decide +kernel
theorem dX6_find_51 : decode cX6_find 51 = .ok (.iaload, 1) := by decide +kernel
theorem dX6_find_52 : decode cX6_find 52 = .ok (.iconst (-1), 1) := by decide +kernel
theorem dX6_find_53 : decode cX6_find 53 = .ok (.if_icmp .ne 31, 3) := by decide +kernel
theorem dX6_find_56 : decode cX6_find 56 = .ok (.aload_n 0, 1) := by decide +kernel
theorem dX6_find_57 : decode cX6_find 57 = .ok (.getfield 18, 3) := by decide +kernel
theorem dX6_find_60 : decode cX6_find 60 = .ok (.aload_n 0, 1) := by decide +kernel
theorem dX6_find_61 : decode cX6_find 61 = .ok (.getfield 24, 3) := by decide +kernel
theorem dX6_find_64 : decode cX6_find 64 = .ok (.iload_n 2, 1) := by decide +kernel
theorem dX6_find_65 : decode cX6_find 65 = .ok (.iastore, 1) := by decide +kernel
theorem dX6_find_66 : decode cX6_find 66 = .ok (.aload_n 0, 1) := by decide +kernel
theorem dX6_find_67 : decode cX6_find 67 = .ok (.aload_n 1, 1) := by decide +kernel
theorem dX6_find_68 : decode cX6_find 68 = .ok (.iload_n 3, 1) := by decide +kernel
theorem dX6_find_69 : decode cX6_find 69 = .ok (.iload_n 2, 1) := by decide +kernel
theorem dX6_find_70 : decode cX6_find 70 = .ok (.invokevirtual 34, 3) := by decide +kernel
theorem dX6_find_73 : decode cX6_find 73 = .ok (.istore_n 2, 1) := by decide +kernel
theorem dX6_find_74 : decode cX6_find 74 = .ok (.aload_n 0, 1) := by decide +kernel
theorem dX6_find_75 : decode cX6_find 75 = .ok (.dup, 1) := by decide +kernel
theorem dX6_find_76 : decode cX6_find 76 = .ok (.getfield 24, 3) := by decide +kernel
theorem dX6_find_79 : decode cX6_find 79 = .ok (.iconst 1, 1) := by decide +kernel
theorem dX6_find_80 : decode cX6_find 80 = .ok (.iadd, 1) := by decide +kernel
theorem dX6_find_81 : decode cX6_find 81 = .ok (.putfield 24, 3) := by decide +kernel
theorem dX6_find_84 : decode cX6_find 84 = .ok (.iinc 3 1, 3) := by decide +kernel
theorem dX6_find_87 : decode cX6_find 87 = .ok (.goto (-56), 3) := by decide +kernel
theorem dX6_find_90 : decode cX6_find 90 = .ok (.aload_n 0, 1) := by decide +kernel
theorem dX6_find_91 : decode cX6_find 91 = .ok (.getfield 18, 3) := by decide +kernel
theorem dX6_find_94 : decode cX6_find 94 = .ok (.aload_n 0, 1) := by decide +kernel
theorem dX6_find_95 : decode cX6_find 95 = .ok (.getfield 24, 3) := by decide +kernel
theorem dX6_find_98 : decode cX6_find 98 = .ok (.iload_n 2, 1) := by decide +kernel
theorem dX6_find_99 : decode cX6_find 99 = .ok (.iastore, 1) := by decide +kernel
theorem dX6_find_100 : decode cX6_find 100 = .ok (.return_, 1) := by decide +kernel
theorem dX6_gather_0 : decode cX6_gather 0 = .ok (.aload_n 0, 1) := by decide +kernel
theorem dX6_gather_1 : decode cX6_gather 1 = .ok (.getfield 9, 3) := by decide +kernel
theorem dX6_gather_4 : decode cX6_gather 4 = .ok (.iload_n 2, 1) := by decide +kernel
theorem dX6_gather_5 : decode cX6_gather 5 = .ok (.aload_n 0, 1) := by decide +kernel
theorem dX6_gather_6 : decode cX6_gather 6 = .ok (.getfield 24, 3) := by decide +kernel
theorem dX6_gather_9 : decode cX6_gather 9 = .ok (.iastore, 1) := by decide +kernel
theorem dX6_gather_10 : decode cX6_gather 10 = .ok (.aload_n 0, 1) := by decide +kernel
theorem dX6_gather_11 : decode cX6_gather 11 = .ok (.getfield 15, 3) := by decide +kernel
theorem dX6_gather_14 : decode cX6_gather 14 = .ok (.iload_n 3, 1) := by decide +kernel
theorem dX6_gather_15 : decode cX6_gather 15 = .ok (.iload_n 2, 1) := by decide +kernel
theorem dX6_gather_16 : decode cX6_gather 16 = .ok (.iastore, 1) := by decide +kernel
theorem dX6_gather_17 : decode cX6_gather 17 = .ok (.iload_n 3, 1) := by decide +kernel
theorem dX6_gather_18 : decode cX6_gather 18 = .ok (.iconst 1, 1) := by decide +kernel
theorem dX6_gather_19 : decode cX6_gather 19 = .ok (.iadd, 1) := by decide +kernel
theorem dX6_gather_20 : decode cX6_gather 20 = .ok (.istore 4, 2) := by decide +kernel
theorem dX6_gather_22 : decode cX6_gather 22 = .ok (.iload_n 3, 1) := by decide +kernel
theorem dX6_gather_23 : decode cX6_gather 23 = .ok (.istore 5, 2) := by decide +kernel
theorem dX6_gather_25 : decode cX6_gather 25 = .ok (.iload 5, 2) := by decide +kernel
theorem dX6_gather_27 : decode cX6_gather 27 = .ok (.iload 4, 2) := by decide +kernel
theorem dX6_gather_29 : decode cX6_gather 29 = .ok (.if_icmp .ge 98, 3) := by decide +kernel
theorem dX6_gather_32 : decode cX6_gather 32 = .ok (.iload 5, 2) := by decide +kernel
theorem dX6_gather_34 : decode cX6_gather 34 = .ok (.sipush 1000, 3) := by decide +kernel
theorem dX6_gather_37 : decode cX6_gather 37 = .ok (.if_icmp .ge 90, 3) := by decide +kernel
theorem dX6_gather_40 : decode cX6_gather 40 = .ok (.iconst 0, 1) := by decide +kernel
theorem dX6_gather_41 : decode cX6_gather 41 = .ok (.istore 6, 2) := by decide +kernel
theorem dX6_gather_43 : decode cX6_gather 43 = .ok (.iload 6, 2) := by decide +kernel
theorem dX6_gather_45 : decode cX6_gather 45 = .ok (.bipush 6, 2) := by decide +kernel
theorem dX6_gather_47 : decode cX6_gather 47 = .ok (.if_icmp .ge 74, 3) := by decide +kernel
theorem dX6_gather_50 : decode cX6_gather 50 = .ok (.aload_n 0, 1) := by decide +kernel
theorem dX6_gather_51 : decode cX6_gather 51 = .ok (.getfield 15, 3) := by decide +kernel
theorem dX6_gather_54 : decode cX6_gather 54 = .ok (.iload 5, 2) := by decide +kernel
theorem dX6_gather_56 : decode cX6_gather 56 = .ok (.iaload, 1) := by decide +kernel
theorem dX6_gather_57 : decode cX6_gather 57 = .ok (.iload 6, 2) := by decide +kernel
theorem dX6_gather_59 : decode cX6_gather 59 = .ok (.invokestatic 38, 3) := by decide +kernel
theorem dX6_gather_62 : decode cX6_gather 62 = .ok (.istore 7, 2) := by decide +kernel
theorem dX6_gather_64 : decode cX6_gather 64 = .ok (.aload_n 1, 1) := by decide +kernel
theorem dX6_gather_65 : decode cX6_gather 65 = .ok (.iload 7, 2) := by decide +kernel
theorem dX6_gather_67 : decode cX6_gather 67 = .ok (.invokevirtual 28, 3) := by decide +kernel
theorem dX6_gather_70 : decode cX6_gather 70 = .ok (.ifCond .eq 45, 3) := by decide +kernel
theorem dX6_gather_73 : decode cX6_gather 73 = .ok (.aload_n 0, 1) := by decide +kernel
theorem dX6_gather_74 : decode cX6_gather 74 = .ok (.getfield 9, 3) := by decide +kernel
theorem dX6_gather_77 : decode cX6_gather 77 = .ok (.iload 7, 2) := by decide +kernel
theorem dX6_gather_79 : decode cX6_gather 79 = .ok (.iaload, 1) := by decide +kernel
theorem dX6_gather_80 : decode cX6_gather 80 = .ok (.iconst (-1), 1) := by decide +kernel
theorem dX6_gather_81 : decode cX6_gather 81 = .ok (.if_icmp .ne 34, 3) := by decide +kernel
theorem dX6_gather_84 : decode cX6_gather 84 = .ok (.iload 4, 2) := by decide +kernel
theorem dX6_gather_86 : decode cX6_gather 86 = .ok (.sipush 1000, 3) := by decide +kernel
theorem dX6_gather_89 : decode cX6_gather 89 = .ok (.if_icmp .ge 26, 3) := by decide +kernel
theorem dX6_gather_92 : decode cX6_gather 92 = .ok (.aload_n 0, 1) := by decide +kernel
theorem dX6_gather_93 : decode cX6_gather 93 = .ok (.getfield 9, 3) := by decide +kernel
theorem dX6_gather_96 : decode cX6_gather 96 = .ok (.iload 7, 2) := by decide +kernel
theorem dX6_gather_98 : decode cX6_gather 98 = .ok (.aload_n 0, 1) := by decide +kernel
theorem dX6_gather_99 : decode cX6_gather 99 = .ok (.getfield 24, 3) := by decide +kernel
theorem dX6_gather_102 : decode cX6_gather 102 = .ok (.iastore, 1) := by decide +kernel
theorem dX6_gather_103 : decode cX6_gather 103 = .ok (.aload_n 0, 1) := by decide +kernel
theorem dX6_gather_104 : decode cX6_gather 104 = .ok (.getfield 15, 3) := by decide +kernel
theorem dX6_gather_107 : decode cX6_gather 107 = .ok (.iload 4, 2) := by decide +kernel
theorem dX6_gather_109 : decode cX6_gather 109 = .ok (.iload 7, 2) := by decide +kernel
theorem dX6_gather_111 : decode cX6_gather 111 = .ok (.iastore, 1) := by decide +kernel
theorem dX6_gather_112 : decode cX6_gather 112 = .ok (.iinc 4 1, 3) := by decide +kernel
theorem dX6_gather_115 : decode cX6_gather 115 = .ok (.iinc 6 1, 3) := by decide +kernel
theorem dX6_gather_118 : decode cX6_gather 118 = .ok (.goto (-75), 3) := by decide +kernel
theorem dX6_gather_121 : decode cX6_gather 121 = .ok (.iinc 5 1, 3) := by decide +kernel
theorem dX6_gather_124 : decode cX6_gather 124 = .ok (.goto (-99), 3) := by decide +kernel
theorem dX6_gather_127 : decode cX6_gather 127 = .ok (.iload 4, 2) := by decide +kernel
theorem dX6_gather_129 : decode cX6_gather 129 = .ok (.ireturn, 1) := by decide +kernel
theorem dX6_sizeOf_0 : decode cX6_sizeOf 0 = .ok (.aload_n 0, 1) := by decide +kernel
theorem dX6_sizeOf_1 : decode cX6_sizeOf 1 = .ok (.getfield 18, 3) := by decide +kernel
theorem dX6_sizeOf_4 : decode cX6_sizeOf 4 = .ok (.iload_n 1, 1) := by decide +kernel
theorem dX6_sizeOf_5 : decode cX6_sizeOf 5 = .ok (.iconst 1, 1) := by decide +kernel
theorem dX6_sizeOf_6 : decode cX6_sizeOf 6 = .ok (.iadd, 1) := by decide +kernel
theorem dX6_sizeOf_7 : decode cX6_sizeOf 7 = .ok (.iaload, 1) := by decide +kernel
theorem dX6_sizeOf_8 : decode cX6_sizeOf 8 = .ok (.aload_n 0, 1) := by decide +kernel
theorem dX6_sizeOf_9 : decode cX6_sizeOf 9 = .ok (.getfield 18, 3) := by decide +kernel
theorem dX6_sizeOf_12 : decode cX6_sizeOf 12 = .ok (.iload_n 1, 1) := by decide +kernel
theorem dX6_sizeOf_13 : decode cX6_sizeOf 13 = .ok (.iaload, 1) := by decide +kernel
theorem dX6_sizeOf_14 : decode cX6_sizeOf 14 = .ok (.isub, 1) := by decide +kernel
theorem dX6_sizeOf_15 : decode cX6_sizeOf 15 = .ok (.ireturn, 1) := by decide +kernel
theorem dX6_firstOf_0 : decode cX6_firstOf 0 = .ok (.aload_n 0, 1) := by decide +kernel
theorem dX6_firstOf_1 : decode cX6_firstOf 1 = .ok (.getfield 15, 3) := by decide +kernel
theorem dX6_firstOf_4 : decode cX6_firstOf 4 = .ok (.aload_n 0, 1) := by decide +kernel
theorem dX6_firstOf_5 : decode cX6_firstOf 5 = .ok (.getfield 18, 3) := by decide +kernel
theorem dX6_firstOf_8 : decode cX6_firstOf 8 = .ok (.iload_n 1, 1) := by decide +kernel
theorem dX6_firstOf_9 : decode cX6_firstOf 9 = .ok (.iaload, 1) := by decide +kernel
theorem dX6_firstOf_10 : decode cX6_firstOf 10 = .ok (.iaload, 1) := by decide +kernel
theorem dX6_firstOf_11 : decode cX6_firstOf 11 = .ok (.ireturn, 1) := by decide +kernel
theorem dX6_isLoose_0 : decode cX6_isLoose 0 = .ok (.aload_n 0, 1) := by decide +kernel
theorem dX6_isLoose_1 : decode cX6_isLoose 1 = .ok (.getfield 18, 3) := by decide +kernel
theorem dX6_isLoose_4 : decode cX6_isLoose 4 = .ok (.iload_n 1, 1) := by decide +kernel
theorem dX6_isLoose_5 : decode cX6_isLoose 5 = .ok (.iaload, 1) := by decide +kernel
theorem dX6_isLoose_6 : decode cX6_isLoose 6 = .ok (.istore 4, 2) := by decide +kernel
theorem dX6_isLoose_8 : decode cX6_isLoose 8 = .ok (.iload 4, 2) := by decide +kernel
theorem dX6_isLoose_10 : decode cX6_isLoose 10 = .ok (.aload_n 0, 1) := by decide +kernel
theorem dX6_isLoose_11 : decode cX6_isLoose 11 = .ok (.getfield 18, 3) := by decide +kernel
theorem dX6_isLoose_14 : decode cX6_isLoose 14 = .ok (.iload_n 1, 1) := by decide +kernel
theorem dX6_isLoose_15 : decode cX6_isLoose 15 = .ok (.iconst 1, 1) := by decide +kernel
theorem dX6_isLoose_16 : decode cX6_isLoose 16 = .ok (.iadd, 1) := by decide +kernel
theorem dX6_isLoose_17 : decode cX6_isLoose 17 = .ok (.iaload, 1) := by decide +kernel
theorem dX6_isLoose_18 : decode cX6_isLoose 18 = .ok (.if_icmp .ge 45, 3) := by decide +kernel
theorem dX6_isLoose_21 : decode cX6_isLoose 21 = .ok (.aload_n 0, 1) := by decide +kernel
theorem dX6_isLoose_22 : decode cX6_isLoose 22 = .ok (.getfield 15, 3) := by decide +kernel
theorem dX6_isLoose_25 : decode cX6_isLoose 25 = .ok (.iload 4, 2) := by decide +kernel
theorem dX6_isLoose_27 : decode cX6_isLoose 27 = .ok (.iaload, 1) := by decide +kernel
theorem dX6_isLoose_28 : decode cX6_isLoose 28 = .ok (.invokestatic 42, 3) := by decide +kernel
theorem dX6_isLoose_31 : decode cX6_isLoose 31 = .ok (.ifCond .eq 24, 3) := by decide +kernel
theorem dX6_isLoose_34 : decode cX6_isLoose 34 = .ok (.aload_n 3, 1) := by decide +kernel
theorem dX6_isLoose_35 : decode cX6_isLoose 35 = .ok (.aload_n 2, 1) := by decide +kernel
theorem dX6_isLoose_36 : decode cX6_isLoose 36 = .ok (.aload_n 0, 1) := by decide +kernel
theorem dX6_isLoose_37 : decode cX6_isLoose 37 = .ok (.getfield 15, 3) := by decide +kernel
theorem dX6_isLoose_40 : decode cX6_isLoose 40 = .ok (.iload 4, 2) := by decide +kernel
theorem dX6_isLoose_42 : decode cX6_isLoose 42 = .ok (.iaload, 1) := by decide +kernel
theorem dX6_isLoose_43 : decode cX6_isLoose 43 = .ok (.invokevirtual 46, 3) := by decide +kernel
theorem dX6_isLoose_46 : decode cX6_isLoose 46 = .ok (.invokestatic 49, 3) := by decide +kernel
theorem dX6_isLoose_49 : decode cX6_isLoose 49 = .ok (.invokevirtual 52, 3) := by decide +kernel
theorem dX6_isLoose_52 : decode cX6_isLoose 52 = .ok (.ifCond .eq 5, 3) := by decide +kernel
theorem dX6_isLoose_55 : decode cX6_isLoose 55 = .ok (.iconst 0, 1) := by decide +kernel
theorem dX6_isLoose_56 : decode cX6_isLoose 56 = .ok (.ireturn, 1) := by decide +kernel
theorem dX6_isLoose_57 : decode cX6_isLoose 57 = .ok (.iinc 4 1, 3) := by decide +kernel
theorem dX6_isLoose_60 : decode cX6_isLoose 60 = .ok (.goto (-52), 3) := by decide +kernel
theorem dX6_isLoose_63 : decode cX6_isLoose 63 = .ok (.iconst 1, 1) := by decide +kernel
theorem dX6_isLoose_64 : decode cX6_isLoose 64 = .ok (.ireturn, 1) := by decide +kernel
theorem dX6_stepsOf_0 : decode cX6_stepsOf 0 = .ok (.bipush 9, 2) := by decide +kernel
theorem dX6_stepsOf_2 : decode cX6_stepsOf 2 = .ok (.istore_n 3, 1) := by decide +kernel
theorem dX6_stepsOf_3 : decode cX6_stepsOf 3 = .ok (.aload_n 0, 1) := by decide +kernel
theorem dX6_stepsOf_4 : decode cX6_stepsOf 4 = .ok (.getfield 18, 3) := by decide +kernel
theorem dX6_stepsOf_7 : decode cX6_stepsOf 7 = .ok (.iload_n 1, 1) := by decide +kernel
theorem dX6_stepsOf_8 : decode cX6_stepsOf 8 = .ok (.iaload, 1) := by decide +kernel
theorem dX6_stepsOf_9 : decode cX6_stepsOf 9 = .ok (.istore 4, 2) := by decide +kernel
theorem dX6_stepsOf_11 : decode cX6_stepsOf 11 = .ok (.iload 4, 2) := by decide +kernel
theorem dX6_stepsOf_13 : decode cX6_stepsOf 13 = .ok (.aload_n 0, 1) := by decide +kernel
theorem dX6_stepsOf_14 : decode cX6_stepsOf 14 = .ok (.getfield 18, 3) := by decide +kernel
theorem dX6_stepsOf_17 : decode cX6_stepsOf 17 = .ok (.iload_n 1, 1) := by decide +kernel
theorem dX6_stepsOf_18 : decode cX6_stepsOf 18 = .ok (.iconst 1, 1) := by decide +kernel
theorem dX6_stepsOf_19 : decode cX6_stepsOf 19 = .ok (.iadd, 1) := by decide +kernel
theorem dX6_stepsOf_20 : decode cX6_stepsOf 20 = .ok (.iaload, 1) := by decide +kernel
theorem dX6_stepsOf_21 : decode cX6_stepsOf 21 = .ok (.if_icmp .ge 31, 3) := by decide +kernel
theorem dX6_stepsOf_24 : decode cX6_stepsOf 24 = .ok (.iload_n 3, 1) := by decide +kernel
theorem dX6_stepsOf_25 : decode cX6_stepsOf 25 = .ok (.ifCond .le 27, 3) := by decide +kernel
theorem dX6_stepsOf_28 : decode cX6_stepsOf 28 = .ok (.iload_n 3, 1) := by decide +kernel
theorem dX6_stepsOf_29 : decode cX6_stepsOf 29 = .ok (.aload_n 0, 1) := by decide +kernel
theorem dX6_stepsOf_30 : decode cX6_stepsOf 30 = .ok (.aload_n 0, 1) := by decide +kernel
theorem dX6_stepsOf_31 : decode cX6_stepsOf 31 = .ok (.getfield 15, 3) := by decide +kernel
theorem dX6_stepsOf_34 : decode cX6_stepsOf 34 = .ok (.iload 4, 2) := by decide +kernel
theorem dX6_stepsOf_36 : decode cX6_stepsOf 36 = .ok (.iaload, 1) := by decide +kernel
theorem dX6_stepsOf_37 : decode cX6_stepsOf 37 = .ok (.iload_n 1, 1) := by decide +kernel
theorem dX6_stepsOf_38 : decode cX6_stepsOf 38 = .ok (.aload_n 2, 1) := by decide +kernel
theorem dX6_stepsOf_39 : decode cX6_stepsOf 39 = .ok (.invokevirtual 57, 3) := by decide +kernel
theorem dX6_stepsOf_42 : decode cX6_stepsOf 42 = .ok (.invokestatic 61, 3) := by decide +kernel
theorem dX6_stepsOf_45 : decode cX6_stepsOf 45 = .ok (.istore_n 3, 1) := by decide +kernel
theorem dX6_stepsOf_46 : decode cX6_stepsOf 46 = .ok (.iinc 4 1, 3) := by decide +kernel
theorem dX6_stepsOf_49 : decode cX6_stepsOf 49 = .ok (.goto (-38), 3) := by decide +kernel
theorem dX6_stepsOf_52 : decode cX6_stepsOf 52 = .ok (.iload_n 3, 1) := by decide +kernel
theorem dX6_stepsOf_53 : decode cX6_stepsOf 53 = .ok (.ireturn, 1) := by decide +kernel
theorem dX6_freeBelow_0 : decode cX6_freeBelow 0 = .ok (.iconst 0, 1) := by decide +kernel
theorem dX6_freeBelow_1 : decode cX6_freeBelow 1 = .ok (.istore 4, 2) := by decide +kernel
theorem dX6_freeBelow_3 : decode cX6_freeBelow 3 = .ok (.iload_n 1, 1) := by decide +kernel
theorem dX6_freeBelow_4 : decode cX6_freeBelow 4 = .ok (.bipush 100, 2) := by decide +kernel
theorem dX6_freeBelow_6 : decode cX6_freeBelow 6 = .ok (.isub, 1) := by decide +kernel
theorem dX6_freeBelow_7 : decode cX6_freeBelow 7 = .ok (.istore 5, 2) := by decide +kernel
theorem dX6_freeBelow_9 : decode cX6_freeBelow 9 = .ok (.iload 5, 2) := by decide +kernel
theorem dX6_freeBelow_11 : decode cX6_freeBelow 11 = .ok (.ifCond .lt 35, 3) := by decide +kernel
theorem dX6_freeBelow_14 : decode cX6_freeBelow 14 = .ok (.aload_n 3, 1) := by decide +kernel
theorem dX6_freeBelow_15 : decode cX6_freeBelow 15 = .ok (.iload 5, 2) := by decide +kernel
theorem dX6_freeBelow_17 : decode cX6_freeBelow 17 = .ok (.invokevirtual 46, 3) := by decide +kernel
theorem dX6_freeBelow_20 : decode cX6_freeBelow 20 = .ok (.ifCond .eq 17, 3) := by decide +kernel
theorem dX6_freeBelow_23 : decode cX6_freeBelow 23 = .ok (.aload_n 0, 1) := by decide +kernel
theorem dX6_freeBelow_24 : decode cX6_freeBelow 24 = .ok (.getfield 9, 3) := by decide +kernel
theorem dX6_freeBelow_27 : decode cX6_freeBelow 27 = .ok (.iload 5, 2) := by decide +kernel
theorem dX6_freeBelow_29 : decode cX6_freeBelow 29 = .ok (.iaload, 1) := by decide +kernel
theorem dX6_freeBelow_30 : decode cX6_freeBelow 30 = .ok (.iload_n 2, 1) := by decide +kernel
theorem dX6_freeBelow_31 : decode cX6_freeBelow 31 = .ok (.if_icmp .eq 6, 3) := by decide +kernel
theorem dX6_freeBelow_34 : decode cX6_freeBelow 34 = .ok (.goto 12, 3) := by decide +kernel
theorem dX6_freeBelow_37 : decode cX6_freeBelow 37 = .ok (.iinc 4 1, 3) := by decide +kernel
theorem dX6_freeBelow_40 : decode cX6_freeBelow 40 = .ok (.iinc 5 (-100), 3) := by decide +kernel
theorem dX6_freeBelow_43 : decode cX6_freeBelow 43 = .ok (.goto (-34), 3) := by decide +kernel
theorem dX6_freeBelow_46 : decode cX6_freeBelow 46 = .ok (.iload 4, 2) := by decide +kernel
theorem dX6_freeBelow_48 : decode cX6_freeBelow 48 = .ok (.ireturn, 1) := by decide +kernel
theorem dX6_nextToFall_0 : decode cX6_nextToFall 0 = .ok (.iconst 0, 1) := by decide +kernel
theorem dX6_nextToFall_1 : decode cX6_nextToFall 1 = .ok (.istore_n 3, 1) := by decide +kernel
theorem dX6_nextToFall_2 : decode cX6_nextToFall 2 = .ok (.iload_n 3, 1) := by decide +kernel
theorem dX6_nextToFall_3 : decode cX6_nextToFall 3 = .ok (.aload_n 0, 1) := by decide +kernel
theorem dX6_nextToFall_4 : decode cX6_nextToFall 4 = .ok (.getfield 24, 3) := by decide +kernel
theorem dX6_nextToFall_7 : decode cX6_nextToFall 7 = .ok (.if_icmp .ge 30, 3) := by decide +kernel
theorem dX6_nextToFall_10 : decode cX6_nextToFall 10 = .ok (.aload_n 0, 1) := by decide +kernel
theorem dX6_nextToFall_11 : decode cX6_nextToFall 11 = .ok (.iload_n 3, 1) := by decide +kernel
theorem dX6_nextToFall_12 : decode cX6_nextToFall 12 = .ok (.aload_n 1, 1) := by decide +kernel
theorem dX6_nextToFall_13 : decode cX6_nextToFall 13 = .ok (.aload_n 2, 1) := by decide +kernel
theorem dX6_nextToFall_14 : decode cX6_nextToFall 14 = .ok (.invokevirtual 66, 3) := by decide +kernel
theorem dX6_nextToFall_17 : decode cX6_nextToFall 17 = .ok (.ifCond .eq 14, 3) := by decide +kernel
theorem dX6_nextToFall_20 : decode cX6_nextToFall 20 = .ok (.aload_n 0, 1) := by decide +kernel
theorem dX6_nextToFall_21 : decode cX6_nextToFall 21 = .ok (.iload_n 3, 1) := by decide +kernel
theorem dX6_nextToFall_22 : decode cX6_nextToFall 22 = .ok (.aload_n 1, 1) := by decide +kernel
theorem dX6_nextToFall_23 : decode cX6_nextToFall 23 = .ok (.invokevirtual 70, 3) := by decide +kernel
theorem dX6_nextToFall_26 : decode cX6_nextToFall 26 = .ok (.ifCond .le 5, 3) := by decide +kernel
theorem dX6_nextToFall_29 : decode cX6_nextToFall 29 = .ok (.iload_n 3, 1) := by decide +kernel
theorem dX6_nextToFall_30 : decode cX6_nextToFall 30 = .ok (.ireturn, 1) := by decide +kernel
theorem dX6_nextToFall_31 : decode cX6_nextToFall 31 = .ok (.iinc 3 1, 3) := by decide +kernel
theorem dX6_nextToFall_34 : decode cX6_nextToFall 34 = .ok (.goto (-32), 3) := by decide +kernel
theorem dX6_nextToFall_37 : decode cX6_nextToFall 37 = .ok (.iconst (-1), 1) := by decide +kernel
theorem dX6_nextToFall_38 : decode cX6_nextToFall 38 = .ok (.ireturn, 1) := by decide +kernel
theorem dX6_lower_0 : decode cX6_lower 0 = .ok (.aload_n 0, 1) := by decide +kernel
theorem dX6_lower_1 : decode cX6_lower 1 = .ok (.getfield 18, 3) := by decide +kernel
theorem dX6_lower_4 : decode cX6_lower 4 = .ok (.iload_n 1, 1) := by decide +kernel
theorem dX6_lower_5 : decode cX6_lower 5 = .ok (.iaload, 1) := by decide +kernel
theorem dX6_lower_6 : decode cX6_lower 6 = .ok (.istore 5, 2) := by decide +kernel
theorem dX6_lower_8 : decode cX6_lower 8 = .ok (.iload 5, 2) := by decide +kernel
theorem dX6_lower_10 : decode cX6_lower 10 = .ok (.aload_n 0, 1) := by decide +kernel
theorem dX6_lower_11 : decode cX6_lower 11 = .ok (.getfield 18, 3) := by decide +kernel
theorem dX6_lower_14 : decode cX6_lower 14 = .ok (.iload_n 1, 1) := by decide +kernel
theorem dX6_lower_15 : decode cX6_lower 15 = .ok (.iconst 1, 1) := by decide +kernel
theorem dX6_lower_16 : decode cX6_lower 16 = .ok (.iadd, 1) := by decide +kernel
theorem dX6_lower_17 : decode cX6_lower 17 = .ok (.iaload, 1) := by decide +kernel
theorem dX6_lower_18 : decode cX6_lower 18 = .ok (.if_icmp .ge 53, 3) := by decide +kernel
theorem dX6_lower_21 : decode cX6_lower 21 = .ok (.aload_n 0, 1) := by decide +kernel
theorem dX6_lower_22 : decode cX6_lower 22 = .ok (.getfield 21, 3) := by decide +kernel
theorem dX6_lower_25 : decode cX6_lower 25 = .ok (.iload 5, 2) := by decide +kernel
theorem dX6_lower_27 : decode cX6_lower 27 = .ok (.aload_n 3, 1) := by decide +kernel
theorem dX6_lower_28 : decode cX6_lower 28 = .ok (.aload_n 0, 1) := by decide +kernel
theorem dX6_lower_29 : decode cX6_lower 29 = .ok (.getfield 15, 3) := by decide +kernel
theorem dX6_lower_32 : decode cX6_lower 32 = .ok (.iload 5, 2) := by decide +kernel
theorem dX6_lower_34 : decode cX6_lower 34 = .ok (.iaload, 1) := by decide +kernel
theorem dX6_lower_35 : decode cX6_lower 35 = .ok (.invokevirtual 46, 3) := by decide +kernel
theorem dX6_lower_38 : decode cX6_lower 38 = .ok (.iastore, 1) := by decide +kernel
theorem dX6_lower_39 : decode cX6_lower 39 = .ok (.aload_n 3, 1) := by decide +kernel
theorem dX6_lower_40 : decode cX6_lower 40 = .ok (.aload_n 0, 1) := by decide +kernel
theorem dX6_lower_41 : decode cX6_lower 41 = .ok (.getfield 15, 3) := by decide +kernel
theorem dX6_lower_44 : decode cX6_lower 44 = .ok (.iload 5, 2) := by decide +kernel
theorem dX6_lower_46 : decode cX6_lower 46 = .ok (.iaload, 1) := by decide +kernel
theorem dX6_lower_47 : decode cX6_lower 47 = .ok (.iconst 0, 1) := by decide +kernel
theorem dX6_lower_48 : decode cX6_lower 48 = .ok (.invokevirtual 74, 3) := by decide +kernel
theorem dX6_lower_51 : decode cX6_lower 51 = .ok (.aload 4, 2) := by decide +kernel
theorem dX6_lower_53 : decode cX6_lower 53 = .ok (.aload_n 0, 1) := by decide +kernel
theorem dX6_lower_54 : decode cX6_lower 54 = .ok (.getfield 15, 3) := by decide +kernel
theorem dX6_lower_57 : decode cX6_lower 57 = .ok (.iload 5, 2) := by decide +kernel
theorem dX6_lower_59 : decode cX6_lower 59 = .ok (.iaload, 1) := by decide +kernel
theorem dX6_lower_60 : decode cX6_lower 60 = .ok (.iconst 0, 1) := by decide +kernel
theorem dX6_lower_61 : decode cX6_lower 61 = .ok (.invokevirtual 78, 3) := by decide +kernel
theorem dX6_lower_64 : decode cX6_lower 64 = .ok (.pop, 1) := by decide +kernel
theorem dX6_lower_65 : decode cX6_lower 65 = .ok (.iinc 5 1, 3) := by decide +kernel
theorem dX6_lower_68 : decode cX6_lower 68 = .ok (.goto (-60), 3) := by decide +kernel
theorem dX6_lower_71 : decode cX6_lower 71 = .ok (.aload_n 0, 1) := by decide +kernel
theorem dX6_lower_72 : decode cX6_lower 72 = .ok (.getfield 18, 3) := by decide +kernel
theorem dX6_lower_75 : decode cX6_lower 75 = .ok (.iload_n 1, 1) := by decide +kernel
theorem dX6_lower_76 : decode cX6_lower 76 = .ok (.iaload, 1) := by decide +kernel
theorem dX6_lower_77 : decode cX6_lower 77 = .ok (.istore 5, 2) := by decide +kernel
theorem dX6_lower_79 : decode cX6_lower 79 = .ok (.iload 5, 2) := by decide +kernel
theorem dX6_lower_81 : decode cX6_lower 81 = .ok (.aload_n 0, 1) := by decide +kernel
theorem dX6_lower_82 : decode cX6_lower 82 = .ok (.getfield 18, 3) := by decide +kernel
theorem dX6_lower_85 : decode cX6_lower 85 = .ok (.iload_n 1, 1) := by decide +kernel
theorem dX6_lower_86 : decode cX6_lower 86 = .ok (.iconst 1, 1) := by decide +kernel
theorem dX6_lower_87 : decode cX6_lower 87 = .ok (.iadd, 1) := by decide +kernel
theorem dX6_lower_88 : decode cX6_lower 88 = .ok (.iaload, 1) := by decide +kernel
theorem dX6_lower_89 : decode cX6_lower 89 = .ok (.if_icmp .ge 51, 3) := by decide +kernel
theorem dX6_lower_92 : decode cX6_lower 92 = .ok (.aload_n 0, 1) := by decide +kernel
theorem dX6_lower_93 : decode cX6_lower 93 = .ok (.getfield 15, 3) := by decide +kernel
theorem dX6_lower_96 : decode cX6_lower 96 = .ok (.iload 5, 2) := by decide +kernel
theorem dX6_lower_98 : decode cX6_lower 98 = .ok (.iaload, 1) := by decide +kernel
theorem dX6_lower_99 : decode cX6_lower 99 = .ok (.bipush 100, 2) := by decide +kernel
theorem dX6_lower_101 : decode cX6_lower 101 = .ok (.iload_n 2, 1) := by decide +kernel
theorem dX6_lower_102 : decode cX6_lower 102 = .ok (.imul, 1) := by decide +kernel
theorem dX6_lower_103 : decode cX6_lower 103 = .ok (.isub, 1) := by decide +kernel
theorem dX6_lower_104 : decode cX6_lower 104 = .ok (.istore 6, 2) := by decide +kernel
theorem dX6_lower_106 : decode cX6_lower 106 = .ok (.aload_n 3, 1) := by decide +kernel
theorem dX6_lower_107 : decode cX6_lower 107 = .ok (.iload 6, 2) := by decide +kernel
theorem dX6_lower_109 : decode cX6_lower 109 = .ok (.aload_n 0, 1) := by decide +kernel
theorem dX6_lower_110 : decode cX6_lower 110 = .ok (.getfield 21, 3) := by decide +kernel
theorem dX6_lower_113 : decode cX6_lower 113 = .ok (.iload 5, 2) := by decide +kernel
theorem dX6_lower_115 : decode cX6_lower 115 = .ok (.iaload, 1) := by decide +kernel
theorem dX6_lower_116 : decode cX6_lower 116 = .ok (.invokevirtual 74, 3) := by decide +kernel
theorem dX6_lower_119 : decode cX6_lower 119 = .ok (.aload 4, 2) := by decide +kernel
theorem dX6_lower_121 : decode cX6_lower 121 = .ok (.iload 6, 2) := by decide +kernel
theorem dX6_lower_123 : decode cX6_lower 123 = .ok (.aload_n 0, 1) := by decide +kernel
theorem dX6_lower_124 : decode cX6_lower 124 = .ok (.getfield 21, 3) := by decide +kernel
theorem dX6_lower_127 : decode cX6_lower 127 = .ok (.iload 5, 2) := by decide +kernel
theorem dX6_lower_129 : decode cX6_lower 129 = .ok (.iaload, 1) := by decide +kernel
theorem dX6_lower_130 : decode cX6_lower 130 = .ok (.invokevirtual 78, 3) := by decide +kernel
theorem dX6_lower_133 : decode cX6_lower 133 = .ok (.pop, 1) := by decide +kernel
theorem dX6_lower_134 : decode cX6_lower 134 = .ok (.iinc 5 1, 3) := by decide +kernel
theorem dX6_lower_137 : decode cX6_lower 137 = .ok (.goto (-58), 3) := by decide +kernel
theorem dX6_lower_140 : decode cX6_lower 140 = .ok (.return_, 1) := by decide +kernel
theorem dX7_init_0 : decode cX7_init 0 = .ok (.aload_n 0, 1) := by decide +kernel
theorem dX7_init_1 : decode cX7_init 1 = .ok (.invokespecial 1, 3) := by decide +kernel
theorem dX7_init_4 : decode cX7_init 4 = .ok (.aload_n 0, 1) := by decide +kernel
theorem dX7_init_5 : decode cX7_init 5 = .ok (.aload_n 1, 1) := by decide +kernel
theorem dX7_init_6 : decode cX7_init 6 = .ok (.putfield 7, 3) := by decide +kernel
theorem dX7_init_9 : decode cX7_init 9 = .ok (.return_, 1) := by decide +kernel
theorem dX7_hold_0 : decode cX7_hold 0 = .ok (.aload_n 0, 1) := by decide +kernel
theorem dX7_hold_1 : decode cX7_hold 1 = .ok (.getfield 13, 3) := by decide +kernel
theorem dX7_hold_4 : decode cX7_hold 4 = .ok (.ifCond .ne 13, 3) := by decide +kernel
theorem dX7_hold_7 : decode cX7_hold 7 = .ok (.aload_n 1, 1) := by decide +kernel
theorem dX7_hold_8 : decode cX7_hold 8 = .ok (.dup, 1) := by decide +kernel
theorem dX7_hold_9 : decode cX7_hold 9 = .ok (.getfield 17, 3) := by decide +kernel
theorem dX7_hold_12 : decode cX7_hold 12 = .ok (.iconst 1, 1) := by decide +kernel
theorem dX7_hold_13 : decode cX7_hold 13 = .ok (.iadd, 1) := by decide +kernel
theorem dX7_hold_14 : decode cX7_hold 14 = .ok (.putfield 17, 3) := by decide +kernel
theorem dX7_hold_17 : decode cX7_hold 17 = .ok (.aload_n 0, 1) := by decide +kernel
theorem dX7_hold_18 : decode cX7_hold 18 = .ok (.dup, 1) := by decide +kernel
theorem dX7_hold_19 : decode cX7_hold 19 = .ok (.getfield 13, 3) := by decide +kernel
theorem dX7_hold_22 : decode cX7_hold 22 = .ok (.iconst 1, 1) := by decide +kernel
theorem dX7_hold_23 : decode cX7_hold 23 = .ok (.iadd, 1) := by decide +kernel
theorem dX7_hold_24 : decode cX7_hold 24 = .ok (.putfield 13, 3) := by decide +kernel
theorem dX7_hold_27 : decode cX7_hold 27 = .ok (.return_, 1) := by decide +kernel
theorem dX7_release_0 : decode cX7_release 0 = .ok (.aload_n 0, 1) := by decide +kernel
theorem dX7_release_1 : decode cX7_release 1 = .ok (.dup, 1) := by decide +kernel
theorem dX7_release_2 : decode cX7_release 2 = .ok (.getfield 13, 3) := by decide +kernel
theorem dX7_release_5 : decode cX7_release 5 = .ok (.iconst 1, 1) := by decide +kernel
theorem dX7_release_6 : decode cX7_release 6 = .ok (.isub, 1) := by decide +kernel
theorem dX7_release_7 : decode cX7_release 7 = .ok (.putfield 13, 3) := by decide +kernel
theorem dX7_release_10 : decode cX7_release 10 = .ok (.aload_n 0, 1) := by decide +kernel
theorem dX7_release_11 : decode cX7_release 11 = .ok (.getfield 13, 3) := by decide +kernel
theorem dX7_release_14 : decode cX7_release 14 = .ok (.ifCond .ne 13, 3) := by decide +kernel
theorem dX7_release_17 : decode cX7_release 17 = .ok (.aload_n 1, 1) := by decide +kernel
theorem dX7_release_18 : decode cX7_release 18 = .ok (.dup, 1) := by decide +kernel
theorem dX7_release_19 : decode cX7_release 19 = .ok (.getfield 17, 3) := by decide +kernel
theorem dX7_release_22 : decode cX7_release 22 = .ok (.iconst 1, 1) := by decide +kernel
theorem dX7_release_23 : decode cX7_release 23 = .ok (.isub, 1) := by decide +kernel
theorem dX7_release_24 : decode cX7_release 24 = .ok (.putfield 17, 3) := by decide +kernel
theorem dX7_release_27 : decode cX7_release 27 = .ok (.return_, 1) := by decide +kernel
theorem dX8_isTurn_0 : decode cX8_isTurn 0 = .ok (.iload_n 0, 1) := by decide +kernel
theorem dX8_isTurn_1 : decode cX8_isTurn 1 = .ok (.ifCond .lt 13, 3) := by decide +kernel
theorem dX8_isTurn_4 : decode cX8_isTurn 4 = .ok (.iload_n 0, 1) := by decide +kernel
theorem dX8_isTurn_5 : decode cX8_isTurn 5 = .ok (.bipush 24, 2) := by decide +kernel
theorem dX8_isTurn_7 : decode cX8_isTurn 7 = .ok (.if_icmp .ge 7, 3) := by decide +kernel
theorem dX8_isTurn_10 : decode cX8_isTurn 10 = .ok (.iconst 1, 1) := by decide +kernel
theorem dX8_isTurn_11 : decode cX8_isTurn 11 = .ok (.goto 4, 3) := by decide +kernel
theorem dX8_isTurn_14 : decode cX8_isTurn 14 = .ok (.iconst 0, 1) := by decide +kernel
theorem dX8_isTurn_15 : decode cX8_isTurn 15 = .ok (.ireturn, 1) := by decide +kernel
theorem dX8_axisOf_0 : decode cX8_axisOf 0 = .ok (.getstatic 9, 3) := by decide +kernel
theorem dX8_axisOf_3 : decode cX8_axisOf 3 = .ok (.iconst 3, 1) := by decide +kernel
theorem dX8_axisOf_4 : decode cX8_axisOf 4 = .ok (.iload_n 0, 1) := by decide +kernel
theorem dX8_axisOf_5 : decode cX8_axisOf 5 = .ok (.iconst 4, 1) := by decide +kernel
theorem dX8_axisOf_6 : decode cX8_axisOf 6 = .ok (.idiv, 1) := by decide +kernel
theorem dX8_axisOf_7 : decode cX8_axisOf 7 = .ok (.imul, 1) := by decide +kernel
theorem dX8_axisOf_8 : decode cX8_axisOf 8 = .ok (.iload_n 1, 1) := by decide +kernel
theorem dX8_axisOf_9 : decode cX8_axisOf 9 = .ok (.iadd, 1) := by decide +kernel
theorem dX8_axisOf_10 : decode cX8_axisOf 10 = .ok (.iaload, 1) := by decide +kernel
theorem dX8_axisOf_11 : decode cX8_axisOf 11 = .ok (.ireturn, 1) := by decide +kernel
theorem dX8_signOf_0 : decode cX8_signOf 0 = .ok (.iload_n 0, 1) := by decide +kernel
theorem dX8_signOf_1 : decode cX8_signOf 1 = .ok (.iconst 2, 1) := by decide +kernel
theorem dX8_signOf_2 : decode cX8_signOf 2 = .ok (.irem, 1) := by decide +kernel
theorem dX8_signOf_3 : decode cX8_signOf 3 = .ok (.iconst 1, 1) := by decide +kernel
theorem dX8_signOf_4 : decode cX8_signOf 4 = .ok (.if_icmp .ne 7, 3) := by decide +kernel
theorem dX8_signOf_7 : decode cX8_signOf 7 = .ok (.iconst (-1), 1) := by decide +kernel
theorem dX8_signOf_8 : decode cX8_signOf 8 = .ok (.goto 4, 3) := by decide +kernel
theorem dX8_signOf_11 : decode cX8_signOf 11 = .ok (.iconst 1, 1) := by decide +kernel
theorem dX8_signOf_12 : decode cX8_signOf 12 = .ok (.istore_n 2, 1) := by decide +kernel
theorem dX8_signOf_13 : decode cX8_signOf 13 = .ok (.iload_n 0, 1) := by decide +kernel
theorem dX8_signOf_14 : decode cX8_signOf 14 = .ok (.iconst 4, 1) := by decide +kernel
theorem dX8_signOf_15 : decode cX8_signOf 15 = .ok (.irem, 1) := by decide +kernel
theorem dX8_signOf_16 : decode cX8_signOf 16 = .ok (.iconst 2, 1) := by decide +kernel
theorem dX8_signOf_17 : decode cX8_signOf 17 = .ok (.if_icmp .lt 7, 3) := by decide +kernel
theorem dX8_signOf_20 : decode cX8_signOf 20 = .ok (.iconst (-1), 1) := by decide +kernel
theorem dX8_signOf_21 : decode cX8_signOf 21 = .ok (.goto 4, 3) := by decide +kernel
theorem dX8_signOf_24 : decode cX8_signOf 24 = .ok (.iconst 1, 1) := by decide +kernel
theorem dX8_signOf_25 : decode cX8_signOf 25 = .ok (.istore_n 3, 1) := by decide +kernel
theorem dX8_signOf_26 : decode cX8_signOf 26 = .ok (.iload_n 1, 1) := by decide +kernel
theorem dX8_signOf_27 : decode cX8_signOf 27 = .ok (.ifCond .ne 5, 3) := by decide +kernel
theorem dX8_signOf_30 : decode cX8_signOf 30 = .ok (.iload_n 2, 1) := by decide +kernel
theorem dX8_signOf_31 : decode cX8_signOf 31 = .ok (.ireturn, 1) := by decide +kernel
theorem dX8_signOf_32 : decode cX8_signOf 32 = .ok (.iload_n 1, 1) := by decide +kernel
theorem dX8_signOf_33 : decode cX8_signOf 33 = .ok (.iconst 1, 1) := by decide +kernel
theorem dX8_signOf_34 : decode cX8_signOf 34 = .ok (.if_icmp .ne 7, 3) := by decide +kernel
theorem dX8_signOf_37 : decode cX8_signOf 37 = .ok (.iload_n 3, 1) := by decide +kernel
theorem dX8_signOf_38 : decode cX8_signOf 38 = .ok (.goto 14, 3) := by decide +kernel
theorem dX8_signOf_41 : decode cX8_signOf 41 = .ok (.iload_n 2, 1) := by decide +kernel
theorem dX8_signOf_42 : decode cX8_signOf 42 = .ok (.iload_n 3, 1) := by decide +kernel
theorem dX8_signOf_43 : decode cX8_signOf 43 = .ok (.imul, 1) := by decide +kernel
theorem dX8_signOf_44 : decode cX8_signOf 44 = .ok (.getstatic 15, 3) := by decide +kernel
theorem dX8_signOf_47 : decode cX8_signOf 47 = .ok (.iload_n 0, 1) := by decide +kernel
theorem dX8_signOf_48 : decode cX8_signOf 48 = .ok (.iconst 4, 1) := by decide +kernel
theorem dX8_signOf_49 : decode cX8_signOf 49 = .ok (.idiv, 1) := by decide +kernel
theorem dX8_signOf_50 : decode cX8_signOf 50 = .ok (.iaload, 1) := by decide +kernel
theorem dX8_signOf_51 : decode cX8_signOf 51 = .ok (.imul, 1) := by decide +kernel
theorem dX8_signOf_52 : decode cX8_signOf 52 = .ok (.ireturn, 1) := by decide +kernel
theorem dX8_after_0 : decode cX8_after 0 = .ok (.iload_n 0, 1) := by decide +kernel
theorem dX8_after_1 : decode cX8_after 1 = .ok (.iload_n 1, 1) := by decide +kernel
theorem dX8_after_2 : decode cX8_after 2 = .ok (.iconst 0, 1) := by decide +kernel
theorem dX8_after_3 : decode cX8_after 3 = .ok (.invokestatic 18, 3) := by decide +kernel
theorem dX8_after_6 : decode cX8_after 6 = .ok (.invokestatic 18, 3) := by decide +kernel
theorem dX8_after_9 : decode cX8_after 9 = .ok (.istore_n 2, 1) := by decide +kernel
theorem dX8_after_10 : decode cX8_after 10 = .ok (.iload_n 0, 1) := by decide +kernel
theorem dX8_after_11 : decode cX8_after 11 = .ok (.iload_n 1, 1) := by decide +kernel
theorem dX8_after_12 : decode cX8_after 12 = .ok (.iconst 1, 1) := by decide +kernel
theorem dX8_after_13 : decode cX8_after 13 = .ok (.invokestatic 18, 3) := by decide +kernel
theorem dX8_after_16 : decode cX8_after 16 = .ok (.invokestatic 18, 3) := by decide +kernel
theorem dX8_after_19 : decode cX8_after 19 = .ok (.istore_n 3, 1) := by decide +kernel
theorem dX8_after_20 : decode cX8_after 20 = .ok (.iload_n 1, 1) := by decide +kernel
theorem dX8_after_21 : decode cX8_after 21 = .ok (.iconst 0, 1) := by decide +kernel
theorem dX8_after_22 : decode cX8_after 22 = .ok (.invokestatic 22, 3) := by decide +kernel
theorem dX8_after_25 : decode cX8_after 25 = .ok (.iload_n 0, 1) := by decide +kernel
theorem dX8_after_26 : decode cX8_after 26 = .ok (.iload_n 1, 1) := by decide +kernel
theorem dX8_after_27 : decode cX8_after 27 = .ok (.iconst 0, 1) := by decide +kernel
theorem dX8_after_28 : decode cX8_after 28 = .ok (.invokestatic 18, 3) := by decide +kernel
theorem dX8_after_31 : decode cX8_after 31 = .ok (.invokestatic 22, 3) := by decide +kernel
theorem dX8_after_34 : decode cX8_after 34 = .ok (.imul, 1) := by decide +kernel
theorem dX8_after_35 : decode cX8_after 35 = .ok (.istore 4, 2) := by decide +kernel
theorem dX8_after_37 : decode cX8_after 37 = .ok (.iload_n 1, 1) := by decide +kernel
theorem dX8_after_38 : decode cX8_after 38 = .ok (.iconst 1, 1) := by decide +kernel
theorem dX8_after_39 : decode cX8_after 39 = .ok (.invokestatic 22, 3) := by decide +kernel
theorem dX8_after_42 : decode cX8_after 42 = .ok (.iload_n 0, 1) := by decide +kernel
theorem dX8_after_43 : decode cX8_after 43 = .ok (.iload_n 1, 1) := by decide +kernel
theorem dX8_after_44 : decode cX8_after 44 = .ok (.iconst 1, 1) := by decide +kernel
theorem dX8_after_45 : decode cX8_after 45 = .ok (.invokestatic 18, 3) := by decide +kernel
theorem dX8_after_48 : decode cX8_after 48 = .ok (.invokestatic 22, 3) := by decide +kernel
theorem dX8_after_51 : decode cX8_after 51 = .ok (.imul, 1) := by decide +kernel
theorem dX8_after_52 : decode cX8_after 52 = .ok (.istore 5, 2) := by decide +kernel
theorem dX8_after_54 : decode cX8_after 54 = .ok (.iconst 3, 1) := by decide +kernel
theorem dX8_after_55 : decode cX8_after 55 = .ok (.iload_n 2, 1) := by decide +kernel
theorem dX8_after_56 : decode cX8_after 56 = .ok (.isub, 1) := by decide +kernel
theorem dX8_after_57 : decode cX8_after 57 = .ok (.iload_n 3, 1) := by decide +kernel
theorem dX8_after_58 : decode cX8_after 58 = .ok (.isub, 1) := by decide +kernel
theorem dX8_after_59 : decode cX8_after 59 = .ok (.istore 6, 2) := by decide +kernel
theorem dX8_after_61 : decode cX8_after 61 = .ok (.iconst 2, 1) := by decide +kernel
theorem dX8_after_62 : decode cX8_after 62 = .ok (.iload_n 2, 1) := by decide +kernel
theorem dX8_after_63 : decode cX8_after 63 = .ok (.imul, 1) := by decide +kernel
theorem dX8_after_64 : decode cX8_after 64 = .ok (.iload_n 3, 1) := by decide +kernel
theorem dX8_after_65 : decode cX8_after 65 = .ok (.iload 6, 2) := by decide +kernel
theorem dX8_after_67 : decode cX8_after 67 = .ok (.if_icmp .le 7, 3) := by decide +kernel
theorem dX8_after_70 : decode cX8_after 70 = .ok (.iconst 1, 1) := by decide +kernel
theorem dX8_after_71 : decode cX8_after 71 = .ok (.goto 4, 3) := by decide +kernel
theorem dX8_after_74 : decode cX8_after 74 = .ok (.iconst 0, 1) := by decide +kernel
theorem dX8_after_75 : decode cX8_after 75 = .ok (.iadd, 1) := by decide +kernel
theorem dX8_after_76 : decode cX8_after 76 = .ok (.istore 7, 2) := by decide +kernel
theorem dX8_after_78 : decode cX8_after 78 = .ok (.iconst 4, 1) := by decide +kernel
theorem dX8_after_79 : decode cX8_after 79 = .ok (.iload 7, 2) := by decide +kernel
theorem dX8_after_81 : decode cX8_after 81 = .ok (.imul, 1) := by decide +kernel
theorem dX8_after_82 : decode cX8_after 82 = .ok (.iload 5, 2) := by decide +kernel
theorem dX8_after_84 : decode cX8_after 84 = .ok (.ifCond .ge 7, 3) := by decide +kernel
theorem dX8_after_87 : decode cX8_after 87 = .ok (.iconst 2, 1) := by decide +kernel
theorem dX8_after_88 : decode cX8_after 88 = .ok (.goto 4, 3) := by decide +kernel
theorem dX8_after_91 : decode cX8_after 91 = .ok (.iconst 0, 1) := by decide +kernel
theorem dX8_after_92 : decode cX8_after 92 = .ok (.iadd, 1) := by decide +kernel
theorem dX8_after_93 : decode cX8_after 93 = .ok (.iload 4, 2) := by decide +kernel
theorem dX8_after_95 : decode cX8_after 95 = .ok (.ifCond .ge 7, 3) := by decide +kernel
theorem dX8_after_98 : decode cX8_after 98 = .ok (.iconst 1, 1) := by decide +kernel
theorem dX8_after_99 : decode cX8_after 99 = .ok (.goto 4, 3) := by decide +kernel
theorem dX8_after_102 : decode cX8_after 102 = .ok (.iconst 0, 1) := by decide +kernel
theorem dX8_after_103 : decode cX8_after 103 = .ok (.iadd, 1) := by decide +kernel
theorem dX8_after_104 : decode cX8_after 104 = .ok (.ireturn, 1) := by decide +kernel
theorem dX9_init_0 : decode cX9_init 0 = .ok (.aload_n 0, 1) := by decide +kernel
theorem dX9_init_1 : decode cX9_init 1 = .ok (.invokespecial 3, 3) := by decide +kernel
theorem dX9_init_4 : decode cX9_init 4 = .ok (.aload_n 0, 1) := by decide +kernel
theorem dX9_init_5 : decode cX9_init 5 = .ok (.sipush 1000, 3) := by decide +kernel
theorem dX9_init_8 : decode cX9_init 8 = .ok (.newarray .int, 2) := by decide +kernel
theorem dX9_init_10 : decode cX9_init 10 = .ok (.putfield 9, 3) := by decide +kernel
theorem dX9_init_13 : decode cX9_init 13 = .ok (.aload_n 0, 1) := by decide +kernel
theorem dX9_init_14 : decode cX9_init 14 = .ok (.sipush 1000, 3) := by decide +kernel
theorem dX9_init_17 : decode cX9_init 17 = .ok (.newarray .int, 2) := by decide +kernel
theorem dX9_init_19 : decode cX9_init 19 = .ok (.putfield 15, 3) := by decide +kernel
theorem dX9_init_22 : decode cX9_init 22 = .ok (.return_, 1) := by decide +kernel
theorem dX9_steps_0 : decode cX9_steps 0 = .ok (.aload_n 1, 1) := by decide +kernel
theorem dX9_steps_1 : decode cX9_steps 1 = .ok (.iload_n 2, 1) := by decide +kernel
theorem dX9_steps_2 : decode cX9_steps 2 = .ok (.invokestatic 18, 3) := by decide +kernel
theorem dX9_steps_5 : decode cX9_steps 5 = .ok (.ifCond .eq 11, 3) := by decide +kernel
theorem dX9_steps_8 : decode cX9_steps 8 = .ok (.aload_n 1, 1) := by decide +kernel
theorem dX9_steps_9 : decode cX9_steps 9 = .ok (.iload_n 3, 1) := by decide +kernel
theorem dX9_steps_10 : decode cX9_steps 10 = .ok (.invokestatic 18, 3) := by decide +kernel
theorem dX9_steps_13 : decode cX9_steps 13 = .ok (.ifCond .ne 5, 3) := by decide +kernel
theorem dX9_steps_16 : decode cX9_steps 16 = .ok (.iconst (-1), 1) := by decide +kernel
theorem dX9_steps_17 : decode cX9_steps 17 = .ok (.ireturn, 1) := by decide +kernel
theorem dX9_steps_18 : decode cX9_steps 18 = .ok (.iconst 0, 1) := by decide +kernel
theorem dX9_steps_19 : decode cX9_steps 19 = .ok (.istore 4, 2) := by decide +kernel
theorem dX9_steps_21 : decode cX9_steps 21 = .ok (.iload 4, 2) := by decide +kernel
theorem dX9_steps_23 : decode cX9_steps 23 = .ok (.sipush 1000, 3) := by decide +kernel
theorem dX9_steps_26 : decode cX9_steps 26 = .ok (.if_icmp .ge 17, 3) := by decide +kernel
theorem dX9_steps_29 : decode cX9_steps 29 = .ok (.aload_n 0, 1) := by decide +kernel
theorem dX9_steps_30 : decode cX9_steps 30 = .ok (.getfield 9, 3) := by decide +kernel
theorem dX9_steps_33 : decode cX9_steps 33 = .ok (.iload 4, 2) := by decide +kernel
theorem dX9_steps_35 : decode cX9_steps 35 = .ok (.iconst (-1), 1) := by decide +kernel
theorem dX9_steps_36 : decode cX9_steps 36 = .ok (.iastore, 1) := by decide +kernel
theorem dX9_steps_37 : decode cX9_steps 37 = .ok (.iinc 4 1, 3) := by decide +kernel
theorem dX9_steps_40 : decode cX9_steps 40 = .ok (.goto (-19), 3) := by decide +kernel
theorem dX9_steps_43 : decode cX9_steps 43 = .ok (.aload_n 0, 1) := by decide +kernel
theorem dX9_steps_44 : decode cX9_steps 44 = .ok (.iconst 0, 1) := by decide +kernel
theorem dX9_steps_45 : decode cX9_steps 45 = .ok (.putfield 22, 3) := by decide +kernel
theorem dX9_steps_48 : decode cX9_steps 48 = .ok (.aload_n 0, 1) := by decide +kernel
theorem dX9_steps_49 : decode cX9_steps 49 = .ok (.aload_n 1, 1) := by decide +kernel
theorem dX9_steps_50 : decode cX9_steps 50 = .ok (.iload_n 2, 1) := by decide +kernel
theorem dX9_steps_51 : decode cX9_steps 51 = .ok (.iconst 0, 1) := by decide +kernel
theorem dX9_steps_52 : decode cX9_steps 52 = .ok (.invokevirtual 26, 3) := by decide +kernel
theorem dX9_steps_55 : decode cX9_steps 55 = .ok (.iconst 0, 1) := by decide +kernel
theorem dX9_steps_56 : decode cX9_steps 56 = .ok (.istore 4, 2) := by decide +kernel
theorem dX9_steps_58 : decode cX9_steps 58 = .ok (.iload 4, 2) := by decide +kernel
theorem dX9_steps_60 : decode cX9_steps 60 = .ok (.aload_n 0, 1) := by decide +kernel
theorem dX9_steps_61 : decode cX9_steps 61 = .ok (.getfield 22, 3) := by decide +kernel
theorem dX9_steps_64 : decode cX9_steps 64 = .ok (.if_icmp .ge 39, 3) := by decide +kernel
theorem dX9_steps_67 : decode cX9_steps 67 = .ok (.iload 4, 2) := by decide +kernel
theorem dX9_steps_69 : decode cX9_steps 69 = .ok (.sipush 1000, 3) := by decide +kernel
theorem dX9_steps_72 : decode cX9_steps 72 = .ok (.if_icmp .ge 31, 3) := by decide +kernel
theorem dX9_steps_75 : decode cX9_steps 75 = .ok (.aload_n 0, 1) := by decide +kernel
theorem dX9_steps_76 : decode cX9_steps 76 = .ok (.getfield 9, 3) := by decide +kernel
theorem dX9_steps_79 : decode cX9_steps 79 = .ok (.iload_n 3, 1) := by decide +kernel
theorem dX9_steps_80 : decode cX9_steps 80 = .ok (.iaload, 1) := by decide +kernel
theorem dX9_steps_81 : decode cX9_steps 81 = .ok (.iconst (-1), 1) := by decide +kernel
theorem dX9_steps_82 : decode cX9_steps 82 = .ok (.if_icmp .ne 21, 3) := by decide +kernel
theorem dX9_steps_85 : decode cX9_steps 85 = .ok (.aload_n 0, 1) := by decide +kernel
theorem dX9_steps_86 : decode cX9_steps 86 = .ok (.aload_n 1, 1) := by decide +kernel
theorem dX9_steps_87 : decode cX9_steps 87 = .ok (.aload_n 0, 1) := by decide +kernel
theorem dX9_steps_88 : decode cX9_steps 88 = .ok (.getfield 15, 3) := by decide +kernel
theorem dX9_steps_91 : decode cX9_steps 91 = .ok (.iload 4, 2) := by decide +kernel
theorem dX9_steps_93 : decode cX9_steps 93 = .ok (.iaload, 1) := by decide +kernel
theorem dX9_steps_94 : decode cX9_steps 94 = .ok (.invokevirtual 30, 3) := by decide +kernel
theorem dX9_steps_97 : decode cX9_steps 97 = .ok (.iinc 4 1, 3) := by decide +kernel
theorem dX9_steps_100 : decode cX9_steps 100 = .ok (.goto (-42), 3) := by decide +kernel
theorem dX9_steps_103 : decode cX9_steps 103 = .ok (.aload_n 0, 1) := by decide +kernel
theorem dX9_steps_104 : decode cX9_steps 104 = .ok (.getfield 9, 3) := by decide +kernel
theorem dX9_steps_107 : decode cX9_steps 107 = .ok (.iload_n 3, 1) := by decide +kernel
theorem dX9_steps_108 : decode cX9_steps 108 = .ok (.iaload, 1) := by decide +kernel
theorem dX9_steps_109 : decode cX9_steps 109 = .ok (.ireturn, 1) := by decide +kernel
theorem dX9_isStand_0 : decode cX9_isStand 0 = .ok (.aload_n 0, 1) := by decide +kernel
theorem dX9_isStand_1 : decode cX9_isStand 1 = .ok (.iload_n 1, 1) := by decide +kernel
theorem dX9_isStand_2 : decode cX9_isStand 2 = .ok (.invokevirtual 34, 3) := by decide +kernel
theorem dX9_isStand_5 : decode cX9_isStand 5 = .ok (.ifCond .ne 25, 3) := by decide +kernel
theorem dX9_isStand_8 : decode cX9_isStand 8 = .ok (.iload_n 1, 1) := by decide +kernel
theorem dX9_isStand_9 : decode cX9_isStand 9 = .ok (.invokestatic 40, 3) := by decide +kernel
theorem dX9_isStand_12 : decode cX9_isStand 12 = .ok (.ifCond .eq 14, 3) := by decide +kernel
theorem dX9_isStand_15 : decode cX9_isStand 15 = .ok (.aload_n 0, 1) := by decide +kernel
theorem dX9_isStand_16 : decode cX9_isStand 16 = .ok (.iload_n 1, 1) := by decide +kernel
theorem dX9_isStand_17 : decode cX9_isStand 17 = .ok (.bipush 100, 2) := by decide +kernel
theorem dX9_isStand_19 : decode cX9_isStand 19 = .ok (.isub, 1) := by decide +kernel
theorem dX9_isStand_20 : decode cX9_isStand 20 = .ok (.invokevirtual 43, 3) := by decide +kernel
theorem dX9_isStand_23 : decode cX9_isStand 23 = .ok (.ifCond .eq 7, 3) := by decide +kernel
theorem dX9_isStand_26 : decode cX9_isStand 26 = .ok (.iconst 1, 1) := by decide +kernel
theorem dX9_isStand_27 : decode cX9_isStand 27 = .ok (.goto 4, 3) := by decide +kernel
theorem dX9_isStand_30 : decode cX9_isStand 30 = .ok (.iconst 0, 1) := by decide +kernel
theorem dX9_isStand_31 : decode cX9_isStand 31 = .ok (.ireturn, 1) := by decide +kernel
theorem dX9_leave_0 : decode cX9_leave 0 = .ok (.aload_n 0, 1) := by decide +kernel
theorem dX9_leave_1 : decode cX9_leave 1 = .ok (.getfield 9, 3) := by decide +kernel
theorem dX9_leave_4 : decode cX9_leave 4 = .ok (.iload_n 2, 1) := by decide +kernel
theorem dX9_leave_5 : decode cX9_leave 5 = .ok (.iaload, 1) := by decide +kernel
theorem dX9_leave_6 : decode cX9_leave 6 = .ok (.iconst 1, 1) := by decide +kernel
theorem dX9_leave_7 : decode cX9_leave 7 = .ok (.iadd, 1) := by decide +kernel
theorem dX9_leave_8 : decode cX9_leave 8 = .ok (.istore_n 3, 1) := by decide +kernel
theorem dX9_leave_9 : decode cX9_leave 9 = .ok (.iconst 2, 1) := by decide +kernel
theorem dX9_leave_10 : decode cX9_leave 10 = .ok (.istore 4, 2) := by decide +kernel
theorem dX9_leave_12 : decode cX9_leave 12 = .ok (.iload 4, 2) := by decide +kernel
theorem dX9_leave_14 : decode cX9_leave 14 = .ok (.bipush 6, 2) := by decide +kernel
theorem dX9_leave_16 : decode cX9_leave 16 = .ok (.if_icmp .ge 73, 3) := by decide +kernel
theorem dX9_leave_19 : decode cX9_leave 19 = .ok (.iload_n 2, 1) := by decide +kernel
theorem dX9_leave_20 : decode cX9_leave 20 = .ok (.iload 4, 2) := by decide +kernel
theorem dX9_leave_22 : decode cX9_leave 22 = .ok (.invokestatic 47, 3) := by decide +kernel
theorem dX9_leave_25 : decode cX9_leave 25 = .ok (.istore 5, 2) := by decide +kernel
theorem dX9_leave_27 : decode cX9_leave 27 = .ok (.iload 5, 2) := by decide +kernel
theorem dX9_leave_29 : decode cX9_leave 29 = .ok (.iconst (-1), 1) := by decide +kernel
theorem dX9_leave_30 : decode cX9_leave 30 = .ok (.if_icmp .eq 53, 3) := by decide +kernel
theorem dX9_leave_33 : decode cX9_leave 33 = .ok (.aload_n 0, 1) := by decide +kernel
theorem dX9_leave_34 : decode cX9_leave 34 = .ok (.aload_n 1, 1) := by decide +kernel
theorem dX9_leave_35 : decode cX9_leave 35 = .ok (.iload 5, 2) := by decide +kernel
theorem dX9_leave_37 : decode cX9_leave 37 = .ok (.iload_n 3, 1) := by decide +kernel
theorem dX9_leave_38 : decode cX9_leave 38 = .ok (.invokevirtual 26, 3) := by decide +kernel
theorem dX9_leave_41 : decode cX9_leave 41 = .ok (.aload_n 1, 1) := by decide +kernel
theorem dX9_leave_42 : decode cX9_leave 42 = .ok (.iload_n 2, 1) := by decide +kernel
theorem dX9_leave_43 : decode cX9_leave 43 = .ok (.bipush 100, 2) := by decide +kernel
theorem dX9_leave_45 : decode cX9_leave 45 = .ok (.iadd, 1) := by decide +kernel
theorem dX9_leave_46 : decode cX9_leave 46 = .ok (.invokevirtual 43, 3) := by decide +kernel
theorem dX9_leave_49 : decode cX9_leave 49 = .ok (.ifCond .ne 14, 3) := by decide +kernel
theorem dX9_leave_52 : decode cX9_leave 52 = .ok (.aload_n 0, 1) := by decide +kernel
theorem dX9_leave_53 : decode cX9_leave 53 = .ok (.aload_n 1, 1) := by decide +kernel
theorem dX9_leave_54 : decode cX9_leave 54 = .ok (.iload 5, 2) := by decide +kernel
theorem dX9_leave_56 : decode cX9_leave 56 = .ok (.bipush 100, 2) := by decide +kernel
theorem dX9_leave_58 : decode cX9_leave 58 = .ok (.iadd, 1) := by decide +kernel
theorem dX9_leave_59 : decode cX9_leave 59 = .ok (.iload_n 3, 1) := by decide +kernel
theorem dX9_leave_60 : decode cX9_leave 60 = .ok (.invokevirtual 26, 3) := by decide +kernel
theorem dX9_leave_63 : decode cX9_leave 63 = .ok (.aload_n 1, 1) := by decide +kernel
theorem dX9_leave_64 : decode cX9_leave 64 = .ok (.iload 5, 2) := by decide +kernel
theorem dX9_leave_66 : decode cX9_leave 66 = .ok (.invokevirtual 43, 3) := by decide +kernel
theorem dX9_leave_69 : decode cX9_leave 69 = .ok (.ifCond .ne 14, 3) := by decide +kernel
theorem dX9_leave_72 : decode cX9_leave 72 = .ok (.aload_n 0, 1) := by decide +kernel
theorem dX9_leave_73 : decode cX9_leave 73 = .ok (.aload_n 1, 1) := by decide +kernel
theorem dX9_leave_74 : decode cX9_leave 74 = .ok (.iload 5, 2) := by decide +kernel
theorem dX9_leave_76 : decode cX9_leave 76 = .ok (.bipush 100, 2) := by decide +kernel
theorem dX9_leave_78 : decode cX9_leave 78 = .ok (.isub, 1) := by decide +kernel
theorem dX9_leave_79 : decode cX9_leave 79 = .ok (.iload_n 3, 1) := by decide +kernel
theorem dX9_leave_80 : decode cX9_leave 80 = .ok (.invokevirtual 26, 3) := by decide +kernel
theorem dX9_leave_83 : decode cX9_leave 83 = .ok (.iinc 4 1, 3) := by decide +kernel
theorem dX9_leave_86 : decode cX9_leave 86 = .ok (.goto (-74), 3) := by decide +kernel
theorem dX9_leave_89 : decode cX9_leave 89 = .ok (.return_, 1) := by decide +kernel
theorem dX9_reach_0 : decode cX9_reach 0 = .ok (.aload_n 1, 1) := by decide +kernel
theorem dX9_reach_1 : decode cX9_reach 1 = .ok (.iload_n 2, 1) := by decide +kernel
theorem dX9_reach_2 : decode cX9_reach 2 = .ok (.invokestatic 18, 3) := by decide +kernel
theorem dX9_reach_5 : decode cX9_reach 5 = .ok (.ifCond .eq 50, 3) := by decide +kernel
theorem dX9_reach_8 : decode cX9_reach 8 = .ok (.aload_n 0, 1) := by decide +kernel
theorem dX9_reach_9 : decode cX9_reach 9 = .ok (.getfield 9, 3) := by decide +kernel
theorem dX9_reach_12 : decode cX9_reach 12 = .ok (.iload_n 2, 1) := by decide +kernel
theorem dX9_reach_13 : decode cX9_reach 13 = .ok (.iaload, 1) := by decide +kernel
theorem dX9_reach_14 : decode cX9_reach 14 = .ok (.iconst (-1), 1) := by decide +kernel
theorem dX9_reach_15 : decode cX9_reach 15 = .ok (.if_icmp .ne 40, 3) := by decide +kernel
theorem dX9_reach_18 : decode cX9_reach 18 = .ok (.aload_n 0, 1) := by decide +kernel
theorem dX9_reach_19 : decode cX9_reach 19 = .ok (.getfield 22, 3) := by decide +kernel
theorem dX9_reach_22 : decode cX9_reach 22 = .ok (.sipush 1000, 3) := by decide +kernel
theorem dX9_reach_25 : decode cX9_reach 25 = .ok (.if_icmp .ge 30, 3) := by decide +kernel
theorem dX9_reach_28 : decode cX9_reach 28 = .ok (.aload_n 0, 1) := by decide +kernel
theorem dX9_reach_29 : decode cX9_reach 29 = .ok (.getfield 9, 3) := by decide +kernel
theorem dX9_reach_32 : decode cX9_reach 32 = .ok (.iload_n 2, 1) := by decide +kernel
theorem dX9_reach_33 : decode cX9_reach 33 = .ok (.iload_n 3, 1) := by decide +kernel
theorem dX9_reach_34 : decode cX9_reach 34 = .ok (.iastore, 1) := by decide +kernel
theorem dX9_reach_35 : decode cX9_reach 35 = .ok (.aload_n 0, 1) := by decide +kernel
theorem dX9_reach_36 : decode cX9_reach 36 = .ok (.getfield 15, 3) := by decide +kernel
theorem dX9_reach_39 : decode cX9_reach 39 = .ok (.aload_n 0, 1) := by decide +kernel
theorem dX9_reach_40 : decode cX9_reach 40 = .ok (.getfield 22, 3) := by decide +kernel
theorem dX9_reach_43 : decode cX9_reach 43 = .ok (.iload_n 2, 1) := by decide +kernel
theorem dX9_reach_44 : decode cX9_reach 44 = .ok (.iastore, 1) := by decide +kernel
theorem dX9_reach_45 : decode cX9_reach 45 = .ok (.aload_n 0, 1) := by decide +kernel
theorem dX9_reach_46 : decode cX9_reach 46 = .ok (.dup, 1) := by decide +kernel
theorem dX9_reach_47 : decode cX9_reach 47 = .ok (.getfield 22, 3) := by decide +kernel
theorem dX9_reach_50 : decode cX9_reach 50 = .ok (.iconst 1, 1) := by decide +kernel
theorem dX9_reach_51 : decode cX9_reach 51 = .ok (.iadd, 1) := by decide +kernel
theorem dX9_reach_52 : decode cX9_reach 52 = .ok (.putfield 22, 3) := by decide +kernel
theorem dX9_reach_55 : decode cX9_reach 55 = .ok (.return_, 1) := by decide +kernel
theorem dX10_init_0 : decode cX10_init 0 = .ok (.aload_n 0, 1) := by decide +kernel
theorem dX10_init_1 : decode cX10_init 1 = .ok (.invokespecial 3, 3) := by decide +kernel
theorem dX10_init_4 : decode cX10_init 4 = .ok (.aload_n 0, 1) := by decide +kernel
theorem dX10_init_5 : decode cX10_init 5 = .ok (.bipush 10, 2) := by decide +kernel
theorem dX10_init_7 : decode cX10_init 7 = .ok (.anewarray 9, 3) := by decide +kernel
theorem dX10_init_10 : decode cX10_init 10 = .ok (.putfield 11, 3) := by decide +kernel
theorem dX10_init_13 : decode cX10_init 13 = .ok (.aload_n 0, 1) := by decide +kernel
theorem dX10_init_14 : decode cX10_init 14 = .ok (.aload_n 1, 1) := by decide +kernel
theorem dX10_init_15 : decode cX10_init 15 = .ok (.putfield 17, 3) := by decide +kernel
theorem dX10_init_18 : decode cX10_init 18 = .ok (.return_, 1) := by decide +kernel
theorem dX10_layerAt_0 : decode cX10_layerAt 0 = .ok (.iload_n 1, 1) := by decide +kernel
theorem dX10_layerAt_1 : decode cX10_layerAt 1 = .ok (.invokestatic 21, 3) := by decide +kernel
theorem dX10_layerAt_4 : decode cX10_layerAt 4 = .ok (.ifCond .eq 12, 3) := by decide +kernel
theorem dX10_layerAt_7 : decode cX10_layerAt 7 = .ok (.aload_n 0, 1) := by decide +kernel
theorem dX10_layerAt_8 : decode cX10_layerAt 8 = .ok (.getfield 11, 3) := by decide +kernel
theorem dX10_layerAt_11 : decode cX10_layerAt 11 = .ok (.iload_n 1, 1) := by decide +kernel
theorem dX10_layerAt_12 : decode cX10_layerAt 12 = .ok (.aaload, 1) := by decide +kernel
theorem dX10_layerAt_13 : decode cX10_layerAt 13 = .ok (.goto 4, 3) := by decide +kernel
theorem dX10_layerAt_16 : decode cX10_layerAt 16 = .ok (.aconst_null, 1) := by decide +kernel
theorem dX10_layerAt_17 : decode cX10_layerAt 17 = .ok (.areturn, 1) := by decide +kernel
theorem dX10_rowAt_0 : decode cX10_rowAt 0 = .ok (.aload_n 0, 1) := by decide +kernel
theorem dX10_rowAt_1 : decode cX10_rowAt 1 = .ok (.iload_n 1, 1) := by decide +kernel
theorem dX10_rowAt_2 : decode cX10_rowAt 2 = .ok (.invokevirtual 25, 3) := by decide +kernel
theorem dX10_rowAt_5 : decode cX10_rowAt 5 = .ok (.astore_n 3, 1) := by decide +kernel
theorem dX10_rowAt_6 : decode cX10_rowAt 6 = .ok (.aload_n 3, 1) := by decide +kernel
theorem dX10_rowAt_7 : decode cX10_rowAt 7 = .ok (.ifnull 19, 3) := by decide +kernel
theorem dX10_rowAt_10 : decode cX10_rowAt 10 = .ok (.iload_n 2, 1) := by decide +kernel
theorem dX10_rowAt_11 : decode cX10_rowAt 11 = .ok (.invokestatic 21, 3) := by decide +kernel
theorem dX10_rowAt_14 : decode cX10_rowAt 14 = .ok (.ifCond .eq 12, 3) := by decide +kernel
theorem dX10_rowAt_17 : decode cX10_rowAt 17 = .ok (.aload_n 3, 1) := by decide +kernel
theorem dX10_rowAt_18 : decode cX10_rowAt 18 = .ok (.getfield 29, 3) := by decide +kernel
theorem dX10_rowAt_21 : decode cX10_rowAt 21 = .ok (.iload_n 2, 1) := by decide +kernel
theorem dX10_rowAt_22 : decode cX10_rowAt 22 = .ok (.aaload, 1) := by decide +kernel
theorem dX10_rowAt_23 : decode cX10_rowAt 23 = .ok (.goto 4, 3) := by decide +kernel
theorem dX10_rowAt_26 : decode cX10_rowAt 26 = .ok (.aconst_null, 1) := by decide +kernel
theorem dX10_rowAt_27 : decode cX10_rowAt 27 = .ok (.areturn, 1) := by decide +kernel
theorem dX10_refusal_0 : decode cX10_refusal 0 = .ok (.iload_n 1, 1) := by decide +kernel
theorem dX10_refusal_1 : decode cX10_refusal 1 = .ok (.invokestatic 21, 3) := by decide +kernel
theorem dX10_refusal_4 : decode cX10_refusal 4 = .ok (.ifCond .ne 5, 3) := by decide +kernel
theorem dX10_refusal_7 : decode cX10_refusal 7 = .ok (.iconst 1, 1) := by decide +kernel
theorem dX10_refusal_8 : decode cX10_refusal 8 = .ok (.ireturn, 1) := by decide +kernel
theorem dX10_refusal_9 : decode cX10_refusal 9 = .ok (.aload_n 0, 1) := by decide +kernel
theorem dX10_refusal_10 : decode cX10_refusal 10 = .ok (.getfield 11, 3) := by decide +kernel
theorem dX10_refusal_13 : decode cX10_refusal 13 = .ok (.iload_n 1, 1) := by decide +kernel
theorem dX10_refusal_14 : decode cX10_refusal 14 = .ok (.aaload, 1) := by decide +kernel
theorem dX10_refusal_15 : decode cX10_refusal 15 = .ok (.ifnonnull 5, 3) := by decide +kernel
theorem dX10_refusal_18 : decode cX10_refusal 18 = .ok (.iconst 2, 1) := by decide +kernel
theorem dX10_refusal_19 : decode cX10_refusal 19 = .ok (.ireturn, 1) := by decide +kernel
theorem dX10_refusal_20 : decode cX10_refusal 20 = .ok (.iload_n 2, 1) := by decide +kernel
theorem dX10_refusal_21 : decode cX10_refusal 21 = .ok (.invokestatic 21, 3) := by decide +kernel
theorem dX10_refusal_24 : decode cX10_refusal 24 = .ok (.ifCond .ne 5, 3) := by decide +kernel
theorem dX10_refusal_27 : decode cX10_refusal 27 = .ok (.iconst 3, 1) := by decide +kernel
theorem dX10_refusal_28 : decode cX10_refusal 28 = .ok (.ireturn, 1) := by decide +kernel
theorem dX10_refusal_29 : decode cX10_refusal 29 = .ok (.aload_n 0, 1) := by decide +kernel
theorem dX10_refusal_30 : decode cX10_refusal 30 = .ok (.getfield 11, 3) := by decide +kernel
theorem dX10_refusal_33 : decode cX10_refusal 33 = .ok (.iload_n 1, 1) := by decide +kernel
theorem dX10_refusal_34 : decode cX10_refusal 34 = .ok (.aaload, 1) := by decide +kernel
theorem dX10_refusal_35 : decode cX10_refusal 35 = .ok (.getfield 29, 3) := by decide +kernel
theorem dX10_refusal_38 : decode cX10_refusal 38 = .ok (.iload_n 2, 1) := by decide +kernel
theorem dX10_refusal_39 : decode cX10_refusal 39 = .ok (.aaload, 1) := by decide +kernel
theorem dX10_refusal_40 : decode cX10_refusal 40 = .ok (.astore 4, 2) := by decide +kernel
theorem dX10_refusal_42 : decode cX10_refusal 42 = .ok (.aload 4, 2) := by decide +kernel
theorem dX10_refusal_44 : decode cX10_refusal 44 = .ok (.ifnonnull 5, 3) := by decide +kernel
theorem dX10_refusal_47 : decode cX10_refusal 47 = .ok (.iconst 4, 1) := by decide +kernel
theorem dX10_refusal_48 : decode cX10_refusal 48 = .ok (.ireturn, 1) := by decide +kernel
theorem dX10_refusal_49 : decode cX10_refusal 49 = .ok (.iload_n 3, 1) := by decide +kernel
theorem dX10_refusal_50 : decode cX10_refusal 50 = .ok (.ifCond .lt 17, 3) := by decide +kernel
theorem dX10_refusal_53 : decode cX10_refusal 53 = .ok (.iload_n 3, 1) := by decide +kernel
theorem dX10_refusal_54 : decode cX10_refusal 54 = .ok (.aload 4, 2) := by decide +kernel
theorem dX10_refusal_56 : decode cX10_refusal 56 = .ok (.getfield 33, 3) := by decide +kernel
theorem dX10_refusal_59 : decode cX10_refusal 59 = .ok (.arraylength, 1) := by decide +kernel
theorem dX10_refusal_60 : decode cX10_refusal 60 = .ok (.if_icmp .ge 7, 3) := by decide +kernel
theorem dX10_refusal_63 : decode cX10_refusal 63 = .ok (.iconst 0, 1) := by decide +kernel
theorem dX10_refusal_64 : decode cX10_refusal 64 = .ok (.goto 4, 3) := by decide +kernel
theorem dX10_refusal_67 : decode cX10_refusal 67 = .ok (.iconst 5, 1) := by decide +kernel
theorem dX10_refusal_68 : decode cX10_refusal 68 = .ok (.ireturn, 1) := by decide +kernel
theorem dX10_codeAt_0 : decode cX10_codeAt 0 = .ok (.iload_n 1, 1) := by decide +kernel
theorem dX10_codeAt_1 : decode cX10_codeAt 1 = .ok (.invokestatic 39, 3) := by decide +kernel
theorem dX10_codeAt_4 : decode cX10_codeAt 4 = .ok (.ifCond .ne 5, 3) := by decide +kernel
theorem dX10_codeAt_7 : decode cX10_codeAt 7 = .ok (.iconst (-1), 1) := by decide +kernel
theorem dX10_codeAt_8 : decode cX10_codeAt 8 = .ok (.ireturn, 1) := by decide +kernel
theorem dX10_codeAt_9 : decode cX10_codeAt 9 = .ok (.aload_n 0, 1) := by decide +kernel
theorem dX10_codeAt_10 : decode cX10_codeAt 10 = .ok (.iload_n 1, 1) := by decide +kernel
theorem dX10_codeAt_11 : decode cX10_codeAt 11 = .ok (.invokestatic 42, 3) := by decide +kernel
theorem dX10_codeAt_14 : decode cX10_codeAt 14 = .ok (.iload_n 1, 1) := by decide +kernel
theorem dX10_codeAt_15 : decode cX10_codeAt 15 = .ok (.invokestatic 46, 3) := by decide +kernel
theorem dX10_codeAt_18 : decode cX10_codeAt 18 = .ok (.invokevirtual 49, 3) := by decide +kernel
theorem dX10_codeAt_21 : decode cX10_codeAt 21 = .ok (.astore_n 2, 1) := by decide +kernel
theorem dX10_codeAt_22 : decode cX10_codeAt 22 = .ok (.aload_n 2, 1) := by decide +kernel
theorem dX10_codeAt_23 : decode cX10_codeAt 23 = .ok (.ifnull 27, 3) := by decide +kernel
theorem dX10_codeAt_26 : decode cX10_codeAt 26 = .ok (.iload_n 1, 1) := by decide +kernel
theorem dX10_codeAt_27 : decode cX10_codeAt 27 = .ok (.invokestatic 53, 3) := by decide +kernel
theorem dX10_codeAt_30 : decode cX10_codeAt 30 = .ok (.aload_n 2, 1) := by decide +kernel
theorem dX10_codeAt_31 : decode cX10_codeAt 31 = .ok (.getfield 33, 3) := by decide +kernel
theorem dX10_codeAt_34 : decode cX10_codeAt 34 = .ok (.arraylength, 1) := by decide +kernel
theorem dX10_codeAt_35 : decode cX10_codeAt 35 = .ok (.if_icmp .ge 15, 3) := by decide +kernel
theorem dX10_codeAt_38 : decode cX10_codeAt 38 = .ok (.aload_n 2, 1) := by decide +kernel
theorem dX10_codeAt_39 : decode cX10_codeAt 39 = .ok (.getfield 33, 3) := by decide +kernel
theorem dX10_codeAt_42 : decode cX10_codeAt 42 = .ok (.iload_n 1, 1) := by decide +kernel
theorem dX10_codeAt_43 : decode cX10_codeAt 43 = .ok (.invokestatic 53, 3) := by decide +kernel
theorem dX10_codeAt_46 : decode cX10_codeAt 46 = .ok (.iaload, 1) := by decide +kernel
theorem dX10_codeAt_47 : decode cX10_codeAt 47 = .ok (.goto 4, 3) := by decide +kernel
theorem dX10_codeAt_50 : decode cX10_codeAt 50 = .ok (.iconst (-1), 1) := by decide +kernel
theorem dX10_codeAt_51 : decode cX10_codeAt 51 = .ok (.ireturn, 1) := by decide +kernel
theorem dX10_setLayer_0 : decode cX10_setLayer 0 = .ok (.aload_n 0, 1) := by decide +kernel
theorem dX10_setLayer_1 : decode cX10_setLayer 1 = .ok (.getfield 11, 3) := by decide +kernel
theorem dX10_setLayer_4 : decode cX10_setLayer 4 = .ok (.iload_n 1, 1) := by decide +kernel
theorem dX10_setLayer_5 : decode cX10_setLayer 5 = .ok (.aaload, 1) := by decide +kernel
theorem dX10_setLayer_6 : decode cX10_setLayer 6 = .ok (.astore_n 3, 1) := by decide +kernel
theorem dX10_setLayer_7 : decode cX10_setLayer 7 = .ok (.aload_n 2, 1) := by decide +kernel
theorem dX10_setLayer_8 : decode cX10_setLayer 8 = .ok (.ifnull 11, 3) := by decide +kernel
theorem dX10_setLayer_11 : decode cX10_setLayer 11 = .ok (.aload_n 2, 1) := by decide +kernel
theorem dX10_setLayer_12 : decode cX10_setLayer 12 = .ok (.aload_n 0, 1) := by decide +kernel
theorem dX10_setLayer_13 : decode cX10_setLayer 13 = .ok (.getfield 17, 3) := by decide +kernel
theorem dX10_setLayer_16 : decode cX10_setLayer 16 = .ok (.invokevirtual 56, 3) := by decide +kernel
theorem dX10_setLayer_19 : decode cX10_setLayer 19 = .ok (.aload_n 0, 1) := by decide +kernel
theorem dX10_setLayer_20 : decode cX10_setLayer 20 = .ok (.getfield 11, 3) := by decide +kernel
theorem dX10_setLayer_23 : decode cX10_setLayer 23 = .ok (.iload_n 1, 1) := by decide +kernel
theorem dX10_setLayer_24 : decode cX10_setLayer 24 = .ok (.aload_n 2, 1) := by decide +kernel
theorem dX10_setLayer_25 : decode cX10_setLayer 25 = .ok (.aastore, 1) := by decide +kernel
theorem dX10_setLayer_26 : decode cX10_setLayer 26 = .ok (.aload_n 3, 1) := by decide +kernel
theorem dX10_setLayer_27 : decode cX10_setLayer 27 = .ok (.ifnull 11, 3) := by decide +kernel
theorem dX10_setLayer_30 : decode cX10_setLayer 30 = .ok (.aload_n 3, 1) := by decide +kernel
theorem dX10_setLayer_31 : decode cX10_setLayer 31 = .ok (.aload_n 0, 1) := by decide +kernel
theorem dX10_setLayer_32 : decode cX10_setLayer 32 = .ok (.getfield 17, 3) := by decide +kernel
theorem dX10_setLayer_35 : decode cX10_setLayer 35 = .ok (.invokevirtual 60, 3) := by decide +kernel
theorem dX10_setLayer_38 : decode cX10_setLayer 38 = .ok (.return_, 1) := by decide +kernel
theorem dX10_addLayer_0 : decode cX10_addLayer 0 = .ok (.aload_n 0, 1) := by decide +kernel
theorem dX10_addLayer_1 : decode cX10_addLayer 1 = .ok (.getfield 17, 3) := by decide +kernel
theorem dX10_addLayer_4 : decode cX10_addLayer 4 = .ok (.dup, 1) := by decide +kernel
theorem dX10_addLayer_5 : decode cX10_addLayer 5 = .ok (.getfield 63, 3) := by decide +kernel
theorem dX10_addLayer_8 : decode cX10_addLayer 8 = .ok (.iconst 1, 1) := by decide +kernel
theorem dX10_addLayer_9 : decode cX10_addLayer 9 = .ok (.iadd, 1) := by decide +kernel
theorem dX10_addLayer_10 : decode cX10_addLayer 10 = .ok (.putfield 63, 3) := by decide +kernel
theorem dX10_addLayer_13 : decode cX10_addLayer 13 = .ok (.aload_n 0, 1) := by decide +kernel
theorem dX10_addLayer_14 : decode cX10_addLayer 14 = .ok (.iload_n 1, 1) := by decide +kernel
theorem dX10_addLayer_15 : decode cX10_addLayer 15 = .ok (.new 9, 3) := by decide +kernel
theorem dX10_addLayer_18 : decode cX10_addLayer 18 = .ok (.dup, 1) := by decide +kernel
theorem dX10_addLayer_19 : decode cX10_addLayer 19 = .ok (.invokespecial 69, 3) := by decide +kernel
theorem dX10_addLayer_22 : decode cX10_addLayer 22 = .ok (.invokevirtual 70, 3) := by decide +kernel
theorem dX10_addLayer_25 : decode cX10_addLayer 25 = .ok (.return_, 1) := by decide +kernel
theorem dX10_addRow_0 : decode cX10_addRow 0 = .ok (.aload_n 0, 1) := by decide +kernel
theorem dX10_addRow_1 : decode cX10_addRow 1 = .ok (.iload_n 1, 1) := by decide +kernel
theorem dX10_addRow_2 : decode cX10_addRow 2 = .ok (.invokevirtual 74, 3) := by decide +kernel
theorem dX10_addRow_5 : decode cX10_addRow 5 = .ok (.astore 4, 2) := by decide +kernel
theorem dX10_addRow_7 : decode cX10_addRow 7 = .ok (.aload 4, 2) := by decide +kernel
theorem dX10_addRow_9 : decode cX10_addRow 9 = .ok (.ifnull 40, 3) := by decide +kernel
theorem dX10_addRow_12 : decode cX10_addRow 12 = .ok (.iload_n 3, 1) := by decide +kernel
theorem dX10_addRow_13 : decode cX10_addRow 13 = .ok (.ifCond .lt 36, 3) := by decide +kernel
theorem dX10_addRow_16 : decode cX10_addRow 16 = .ok (.aload_n 0, 1) := by decide +kernel
theorem dX10_addRow_17 : decode cX10_addRow 17 = .ok (.getfield 17, 3) := by decide +kernel
theorem dX10_addRow_20 : decode cX10_addRow 20 = .ok (.dup, 1) := by decide +kernel
theorem dX10_addRow_21 : decode cX10_addRow 21 = .ok (.getfield 77, 3) := by decide +kernel
theorem dX10_addRow_24 : decode cX10_addRow 24 = .ok (.iconst 1, 1) := by decide +kernel
theorem dX10_addRow_25 : decode cX10_addRow 25 = .ok (.iadd, 1) := by decide +kernel
theorem dX10_addRow_26 : decode cX10_addRow 26 = .ok (.putfield 77, 3) := by decide +kernel
theorem dX10_addRow_29 : decode cX10_addRow 29 = .ok (.aload 4, 2) := by decide +kernel
theorem dX10_addRow_31 : decode cX10_addRow 31 = .ok (.iload_n 2, 1) := by decide +kernel
theorem dX10_addRow_32 : decode cX10_addRow 32 = .ok (.new 34, 3) := by decide +kernel
theorem dX10_addRow_35 : decode cX10_addRow 35 = .ok (.dup, 1) := by decide +kernel
theorem dX10_addRow_36 : decode cX10_addRow 36 = .ok (.iload_n 3, 1) := by decide +kernel
theorem dX10_addRow_37 : decode cX10_addRow 37 = .ok (.newarray .int, 2) := by decide +kernel
theorem dX10_addRow_39 : decode cX10_addRow 39 = .ok (.invokespecial 80, 3) := by decide +kernel
theorem dX10_addRow_42 : decode cX10_addRow 42 = .ok (.aload_n 0, 1) := by decide +kernel
theorem dX10_addRow_43 : decode cX10_addRow 43 = .ok (.getfield 17, 3) := by decide +kernel
theorem dX10_addRow_46 : decode cX10_addRow 46 = .ok (.invokevirtual 83, 3) := by decide +kernel
theorem dX10_addRow_49 : decode cX10_addRow 49 = .ok (.return_, 1) := by decide +kernel
theorem dX10_take_0 : decode cX10_take 0 = .ok (.iconst 0, 1) := by decide +kernel
theorem dX10_take_1 : decode cX10_take 1 = .ok (.istore_n 2, 1) := by decide +kernel
theorem dX10_take_2 : decode cX10_take 2 = .ok (.iload_n 2, 1) := by decide +kernel
theorem dX10_take_3 : decode cX10_take 3 = .ok (.bipush 10, 2) := by decide +kernel
theorem dX10_take_5 : decode cX10_take 5 = .ok (.if_icmp .ge 20, 3) := by decide +kernel
theorem dX10_take_8 : decode cX10_take 8 = .ok (.aload_n 0, 1) := by decide +kernel
theorem dX10_take_9 : decode cX10_take 9 = .ok (.iload_n 2, 1) := by decide +kernel
theorem dX10_take_10 : decode cX10_take 10 = .ok (.aload_n 1, 1) := by decide +kernel
theorem dX10_take_11 : decode cX10_take 11 = .ok (.getfield 11, 3) := by decide +kernel
theorem dX10_take_14 : decode cX10_take 14 = .ok (.iload_n 2, 1) := by decide +kernel
theorem dX10_take_15 : decode cX10_take 15 = .ok (.aaload, 1) := by decide +kernel
theorem dX10_take_16 : decode cX10_take 16 = .ok (.invokevirtual 70, 3) := by decide +kernel
theorem dX10_take_19 : decode cX10_take 19 = .ok (.iinc 2 1, 3) := by decide +kernel
theorem dX10_take_22 : decode cX10_take 22 = .ok (.goto (-20), 3) := by decide +kernel
theorem dX10_take_25 : decode cX10_take 25 = .ok (.return_, 1) := by decide +kernel
theorem dX10_clear_0 : decode cX10_clear 0 = .ok (.iconst 0, 1) := by decide +kernel
theorem dX10_clear_1 : decode cX10_clear 1 = .ok (.istore_n 1, 1) := by decide +kernel
theorem dX10_clear_2 : decode cX10_clear 2 = .ok (.iload_n 1, 1) := by decide +kernel
theorem dX10_clear_3 : decode cX10_clear 3 = .ok (.bipush 10, 2) := by decide +kernel
theorem dX10_clear_5 : decode cX10_clear 5 = .ok (.if_icmp .ge 15, 3) := by decide +kernel
theorem dX10_clear_8 : decode cX10_clear 8 = .ok (.aload_n 0, 1) := by decide +kernel
theorem dX10_clear_9 : decode cX10_clear 9 = .ok (.iload_n 1, 1) := by decide +kernel
theorem dX10_clear_10 : decode cX10_clear 10 = .ok (.aconst_null, 1) := by decide +kernel
theorem dX10_clear_11 : decode cX10_clear 11 = .ok (.invokevirtual 70, 3) := by decide +kernel
theorem dX10_clear_14 : decode cX10_clear 14 = .ok (.iinc 1 1, 3) := by decide +kernel
theorem dX10_clear_17 : decode cX10_clear 17 = .ok (.goto (-15), 3) := by decide +kernel
theorem dX10_clear_20 : decode cX10_clear 20 = .ok (.return_, 1) := by decide +kernel
theorem dX10_change_0 : decode cX10_change 0 = .ok (.aload_n 0, 1) := by decide +kernel
theorem dX10_change_1 : decode cX10_change 1 = .ok (.iload_n 1, 1) := by decide +kernel
theorem dX10_change_2 : decode cX10_change 2 = .ok (.invokevirtual 87, 3) := by decide +kernel
theorem dX10_change_5 : decode cX10_change 5 = .ok (.istore_n 3, 1) := by decide +kernel
theorem dX10_change_6 : decode cX10_change 6 = .ok (.iload_n 3, 1) := by decide +kernel
theorem dX10_change_7 : decode cX10_change 7 = .ok (.iconst (-1), 1) := by decide +kernel
theorem dX10_change_8 : decode cX10_change 8 = .ok (.if_icmp .eq 8, 3) := by decide +kernel
theorem dX10_change_11 : decode cX10_change 11 = .ok (.iload_n 3, 1) := by decide +kernel
theorem dX10_change_12 : decode cX10_change 12 = .ok (.iload_n 2, 1) := by decide +kernel
theorem dX10_change_13 : decode cX10_change 13 = .ok (.if_icmp .ne 5, 3) := by decide +kernel
theorem dX10_change_16 : decode cX10_change 16 = .ok (.iconst 0, 1) := by decide +kernel
theorem dX10_change_17 : decode cX10_change 17 = .ok (.ireturn, 1) := by decide +kernel
theorem dX10_change_18 : decode cX10_change 18 = .ok (.aload_n 0, 1) := by decide +kernel
theorem dX10_change_19 : decode cX10_change 19 = .ok (.aload_n 0, 1) := by decide +kernel
theorem dX10_change_20 : decode cX10_change 20 = .ok (.iload_n 1, 1) := by decide +kernel
theorem dX10_change_21 : decode cX10_change 21 = .ok (.invokestatic 42, 3) := by decide +kernel
theorem dX10_change_24 : decode cX10_change 24 = .ok (.invokevirtual 74, 3) := by decide +kernel
theorem dX10_change_27 : decode cX10_change 27 = .ok (.iload_n 1, 1) := by decide +kernel
theorem dX10_change_28 : decode cX10_change 28 = .ok (.invokestatic 46, 3) := by decide +kernel
theorem dX10_change_31 : decode cX10_change 31 = .ok (.invokevirtual 90, 3) := by decide +kernel
theorem dX10_change_34 : decode cX10_change 34 = .ok (.astore 4, 2) := by decide +kernel
theorem dX10_change_36 : decode cX10_change 36 = .ok (.aload 4, 2) := by decide +kernel
theorem dX10_change_38 : decode cX10_change 38 = .ok (.ifnull 16, 3) := by decide +kernel
theorem dX10_change_41 : decode cX10_change 41 = .ok (.iload_n 1, 1) := by decide +kernel
theorem dX10_change_42 : decode cX10_change 42 = .ok (.invokestatic 53, 3) := by decide +kernel
theorem dX10_change_45 : decode cX10_change 45 = .ok (.aload 4, 2) := by decide +kernel
theorem dX10_change_47 : decode cX10_change 47 = .ok (.getfield 33, 3) := by decide +kernel
theorem dX10_change_50 : decode cX10_change 50 = .ok (.arraylength, 1) := by decide +kernel
theorem dX10_change_51 : decode cX10_change 51 = .ok (.if_icmp .lt 5, 3) := by decide +kernel
theorem dX10_change_54 : decode cX10_change 54 = .ok (.iconst 0, 1) := by decide +kernel
theorem dX10_change_55 : decode cX10_change 55 = .ok (.ireturn, 1) := by decide +kernel
theorem dX10_change_56 : decode cX10_change 56 = .ok (.aload 4, 2) := by decide +kernel
theorem dX10_change_58 : decode cX10_change 58 = .ok (.getfield 33, 3) := by decide +kernel
theorem dX10_change_61 : decode cX10_change 61 = .ok (.iload_n 1, 1) := by decide +kernel
theorem dX10_change_62 : decode cX10_change 62 = .ok (.invokestatic 53, 3) := by decide +kernel
theorem dX10_change_65 : decode cX10_change 65 = .ok (.iload_n 2, 1) := by decide +kernel
theorem dX10_change_66 : decode cX10_change 66 = .ok (.iastore, 1) := by decide +kernel
theorem dX10_change_67 : decode cX10_change 67 = .ok (.iconst 1, 1) := by decide +kernel
theorem dX10_change_68 : decode cX10_change 68 = .ok (.ireturn, 1) := by decide +kernel
theorem dX10_ownLayer_0 : decode cX10_ownLayer 0 = .ok (.aload_n 0, 1) := by decide +kernel
theorem dX10_ownLayer_1 : decode cX10_ownLayer 1 = .ok (.iload_n 1, 1) := by decide +kernel
theorem dX10_ownLayer_2 : decode cX10_ownLayer 2 = .ok (.invokevirtual 25, 3) := by decide +kernel
theorem dX10_ownLayer_5 : decode cX10_ownLayer 5 = .ok (.astore_n 2, 1) := by decide +kernel
theorem dX10_ownLayer_6 : decode cX10_ownLayer 6 = .ok (.aload_n 2, 1) := by decide +kernel
theorem dX10_ownLayer_7 : decode cX10_ownLayer 7 = .ok (.ifnull 11, 3) := by decide +kernel
theorem dX10_ownLayer_10 : decode cX10_ownLayer 10 = .ok (.aload_n 2, 1) := by decide +kernel
theorem dX10_ownLayer_11 : decode cX10_ownLayer 11 = .ok (.getfield 94, 3) := by decide +kernel
theorem dX10_ownLayer_14 : decode cX10_ownLayer 14 = .ok (.iconst 1, 1) := by decide +kernel
theorem dX10_ownLayer_15 : decode cX10_ownLayer 15 = .ok (.if_icmp .gt 5, 3) := by decide +kernel
theorem dX10_ownLayer_18 : decode cX10_ownLayer 18 = .ok (.aload_n 2, 1) := by decide +kernel
theorem dX10_ownLayer_19 : decode cX10_ownLayer 19 = .ok (.areturn, 1) := by decide +kernel
theorem dX10_ownLayer_20 : decode cX10_ownLayer 20 = .ok (.new 9, 3) := by decide +kernel
theorem dX10_ownLayer_23 : decode cX10_ownLayer 23 = .ok (.dup, 1) := by decide +kernel
theorem dX10_ownLayer_24 : decode cX10_ownLayer 24 = .ok (.invokespecial 69, 3) := by decide +kernel
theorem dX10_ownLayer_27 : decode cX10_ownLayer 27 = .ok (.astore_n 3, 1) := by decide +kernel
theorem dX10_ownLayer_28 : decode cX10_ownLayer 28 = .ok (.iconst 0, 1) := by decide +kernel
theorem dX10_ownLayer_29 : decode cX10_ownLayer 29 = .ok (.istore 4, 2) := by decide +kernel
theorem dX10_ownLayer_31 : decode cX10_ownLayer 31 = .ok (.iload 4, 2) := by decide +kernel
theorem dX10_ownLayer_33 : decode cX10_ownLayer 33 = .ok (.bipush 10, 2) := by decide +kernel
theorem dX10_ownLayer_35 : decode cX10_ownLayer 35 = .ok (.if_icmp .ge 23, 3) := by decide +kernel
theorem dX10_ownLayer_38 : decode cX10_ownLayer 38 = .ok (.aload_n 3, 1) := by decide +kernel
theorem dX10_ownLayer_39 : decode cX10_ownLayer 39 = .ok (.getfield 29, 3) := by decide +kernel
theorem dX10_ownLayer_42 : decode cX10_ownLayer 42 = .ok (.iload 4, 2) := by decide +kernel
theorem dX10_ownLayer_44 : decode cX10_ownLayer 44 = .ok (.aload_n 2, 1) := by decide +kernel
theorem dX10_ownLayer_45 : decode cX10_ownLayer 45 = .ok (.getfield 29, 3) := by decide +kernel
theorem dX10_ownLayer_48 : decode cX10_ownLayer 48 = .ok (.iload 4, 2) := by decide +kernel
theorem dX10_ownLayer_50 : decode cX10_ownLayer 50 = .ok (.aaload, 1) := by decide +kernel
theorem dX10_ownLayer_51 : decode cX10_ownLayer 51 = .ok (.aastore, 1) := by decide +kernel
theorem dX10_ownLayer_52 : decode cX10_ownLayer 52 = .ok (.iinc 4 1, 3) := by decide +kernel
theorem dX10_ownLayer_55 : decode cX10_ownLayer 55 = .ok (.goto (-24), 3) := by decide +kernel
theorem dX10_ownLayer_58 : decode cX10_ownLayer 58 = .ok (.aload_n 0, 1) := by decide +kernel
theorem dX10_ownLayer_59 : decode cX10_ownLayer 59 = .ok (.getfield 17, 3) := by decide +kernel
theorem dX10_ownLayer_62 : decode cX10_ownLayer 62 = .ok (.dup, 1) := by decide +kernel
theorem dX10_ownLayer_63 : decode cX10_ownLayer 63 = .ok (.getfield 63, 3) := by decide +kernel
theorem dX10_ownLayer_66 : decode cX10_ownLayer 66 = .ok (.iconst 1, 1) := by decide +kernel
theorem dX10_ownLayer_67 : decode cX10_ownLayer 67 = .ok (.iadd, 1) := by decide +kernel
theorem dX10_ownLayer_68 : decode cX10_ownLayer 68 = .ok (.putfield 63, 3) := by decide +kernel
theorem dX10_ownLayer_71 : decode cX10_ownLayer 71 = .ok (.aload_n 0, 1) := by decide +kernel
theorem dX10_ownLayer_72 : decode cX10_ownLayer 72 = .ok (.iload_n 1, 1) := by decide +kernel
theorem dX10_ownLayer_73 : decode cX10_ownLayer 73 = .ok (.aload_n 3, 1) := by decide +kernel
theorem dX10_ownLayer_74 : decode cX10_ownLayer 74 = .ok (.invokevirtual 70, 3) := by decide +kernel
theorem dX10_ownLayer_77 : decode cX10_ownLayer 77 = .ok (.aload_n 3, 1) := by decide +kernel
theorem dX10_ownLayer_78 : decode cX10_ownLayer 78 = .ok (.areturn, 1) := by decide +kernel
theorem dX10_ownRow_0 : decode cX10_ownRow 0 = .ok (.aload_n 1, 1) := by decide +kernel
theorem dX10_ownRow_1 : decode cX10_ownRow 1 = .ok (.ifnull 10, 3) := by decide +kernel
theorem dX10_ownRow_4 : decode cX10_ownRow 4 = .ok (.iload_n 2, 1) := by decide +kernel
theorem dX10_ownRow_5 : decode cX10_ownRow 5 = .ok (.invokestatic 21, 3) := by decide +kernel
theorem dX10_ownRow_8 : decode cX10_ownRow 8 = .ok (.ifCond .ne 5, 3) := by decide +kernel
theorem dX10_ownRow_11 : decode cX10_ownRow 11 = .ok (.aconst_null, 1) := by decide +kernel
theorem dX10_ownRow_12 : decode cX10_ownRow 12 = .ok (.areturn, 1) := by decide +kernel
theorem dX10_ownRow_13 : decode cX10_ownRow 13 = .ok (.aload_n 1, 1) := by decide +kernel
theorem dX10_ownRow_14 : decode cX10_ownRow 14 = .ok (.getfield 29, 3) := by decide +kernel
theorem dX10_ownRow_17 : decode cX10_ownRow 17 = .ok (.iload_n 2, 1) := by decide +kernel
theorem dX10_ownRow_18 : decode cX10_ownRow 18 = .ok (.aaload, 1) := by decide +kernel
theorem dX10_ownRow_19 : decode cX10_ownRow 19 = .ok (.astore_n 3, 1) := by decide +kernel
theorem dX10_ownRow_20 : decode cX10_ownRow 20 = .ok (.aload_n 3, 1) := by decide +kernel
theorem dX10_ownRow_21 : decode cX10_ownRow 21 = .ok (.ifnull 11, 3) := by decide +kernel
theorem dX10_ownRow_24 : decode cX10_ownRow 24 = .ok (.aload_n 3, 1) := by decide +kernel
theorem dX10_ownRow_25 : decode cX10_ownRow 25 = .ok (.getfield 97, 3) := by decide +kernel
theorem dX10_ownRow_28 : decode cX10_ownRow 28 = .ok (.iconst 1, 1) := by decide +kernel
theorem dX10_ownRow_29 : decode cX10_ownRow 29 = .ok (.if_icmp .gt 5, 3) := by decide +kernel
theorem dX10_ownRow_32 : decode cX10_ownRow 32 = .ok (.aload_n 3, 1) := by decide +kernel
theorem dX10_ownRow_33 : decode cX10_ownRow 33 = .ok (.areturn, 1) := by decide +kernel
theorem dX10_ownRow_34 : decode cX10_ownRow 34 = .ok (.new 34, 3) := by decide +kernel
theorem dX10_ownRow_37 : decode cX10_ownRow 37 = .ok (.dup, 1) := by decide +kernel
theorem dX10_ownRow_38 : decode cX10_ownRow 38 = .ok (.aload_n 3, 1) := by decide +kernel
theorem dX10_ownRow_39 : decode cX10_ownRow 39 = .ok (.getfield 33, 3) := by decide +kernel
theorem dX10_ownRow_42 : decode cX10_ownRow 42 = .ok (.invokevirtual 98, 3) := by decide +kernel
theorem dX10_ownRow_45 : decode cX10_ownRow 45 = .ok (.checkcast 99, 3) := by decide +kernel
theorem dX10_ownRow_48 : decode cX10_ownRow 48 = .ok (.invokespecial 80, 3) := by decide +kernel
theorem dX10_ownRow_51 : decode cX10_ownRow 51 = .ok (.astore 4, 2) := by decide +kernel
theorem dX10_ownRow_53 : decode cX10_ownRow 53 = .ok (.aload_n 0, 1) := by decide +kernel
theorem dX10_ownRow_54 : decode cX10_ownRow 54 = .ok (.getfield 17, 3) := by decide +kernel
theorem dX10_ownRow_57 : decode cX10_ownRow 57 = .ok (.dup, 1) := by decide +kernel
theorem dX10_ownRow_58 : decode cX10_ownRow 58 = .ok (.getfield 77, 3) := by decide +kernel
theorem dX10_ownRow_61 : decode cX10_ownRow 61 = .ok (.iconst 1, 1) := by decide +kernel
theorem dX10_ownRow_62 : decode cX10_ownRow 62 = .ok (.iadd, 1) := by decide +kernel
theorem dX10_ownRow_63 : decode cX10_ownRow 63 = .ok (.putfield 77, 3) := by decide +kernel
theorem dX10_ownRow_66 : decode cX10_ownRow 66 = .ok (.aload_n 1, 1) := by decide +kernel
theorem dX10_ownRow_67 : decode cX10_ownRow 67 = .ok (.iload_n 2, 1) := by decide +kernel
theorem dX10_ownRow_68 : decode cX10_ownRow 68 = .ok (.aload 4, 2) := by decide +kernel
theorem dX10_ownRow_70 : decode cX10_ownRow 70 = .ok (.aload_n 0, 1) := by decide +kernel
theorem dX10_ownRow_71 : decode cX10_ownRow 71 = .ok (.getfield 17, 3) := by decide +kernel
theorem dX10_ownRow_74 : decode cX10_ownRow 74 = .ok (.invokevirtual 83, 3) := by decide +kernel
theorem dX10_ownRow_77 : decode cX10_ownRow 77 = .ok (.aload 4, 2) := by decide +kernel
theorem dX10_ownRow_79 : decode cX10_ownRow 79 = .ok (.areturn, 1) := by decide +kernel

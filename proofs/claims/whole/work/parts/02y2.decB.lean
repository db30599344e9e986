theorem dX11_init_0 : decode cX11_init 0 = .ok (.aload_n 0, 1) := by decide +kernel
theorem dX11_init_1 : decode cX11_init 1 = .ok (.invokespecial 3, 3) := by decide +kernel
theorem dX11_init_4 : decode cX11_init 4 = .ok (.aload_n 0, 1) := by decide +kernel
theorem dX11_init_5 : decode cX11_init 5 = .ok (.new 9, 3) := by decide +kernel
theorem dX11_init_8 : decode cX11_init 8 = .ok (.dup, 1) := by decide +kernel
theorem dX11_init_9 : decode cX11_init 9 = .ok (.invokespecial 11, 3) := by decide +kernel
theorem dX11_init_12 : decode cX11_init 12 = .ok (.putfield 12, 3) := by decide +kernel
theorem dX11_init_15 : decode cX11_init 15 = .ok (.aload_n 0, 1) := by decide +kernel
theorem dX11_init_16 : decode cX11_init 16 = .ok (.new 16, 3) := by decide +kernel
theorem dX11_init_19 : decode cX11_init 19 = .ok (.dup, 1) := by decide +kernel
theorem dX11_init_20 : decode cX11_init 20 = .ok (.invokespecial 18, 3) := by decide +kernel
theorem dX11_init_23 : decode cX11_init 23 = .ok (.putfield 19, 3) := by decide +kernel
theorem dX11_init_26 : decode cX11_init 26 = .ok (.aload_n 0, 1) := by decide +kernel
theorem dX11_init_27 : decode cX11_init 27 = .ok (.new 23, 3) := by decide +kernel
theorem dX11_init_30 : decode cX11_init 30 = .ok (.dup, 1) := by decide +kernel
theorem dX11_init_31 : decode cX11_init 31 = .ok (.invokespecial 25, 3) := by decide +kernel
theorem dX11_init_34 : decode cX11_init 34 = .ok (.putfield 26, 3) := by decide +kernel
theorem dX11_init_37 : decode cX11_init 37 = .ok (.aload_n 0, 1) := by decide +kernel
theorem dX11_init_38 : decode cX11_init 38 = .ok (.iconst 4, 1) := by decide +kernel
theorem dX11_init_39 : decode cX11_init 39 = .ok (.anewarray 30, 3) := by decide +kernel
theorem dX11_init_42 : decode cX11_init 42 = .ok (.putfield 32, 3) := by decide +kernel
theorem dX11_init_45 : decode cX11_init 45 = .ok (.iconst 0, 1) := by decide +kernel
theorem dX11_init_46 : decode cX11_init 46 = .ok (.istore_n 1, 1) := by decide +kernel
theorem dX11_init_47 : decode cX11_init 47 = .ok (.iload_n 1, 1) := by decide +kernel
theorem dX11_init_48 : decode cX11_init 48 = .ok (.iconst 4, 1) := by decide +kernel
theorem dX11_init_49 : decode cX11_init 49 = .ok (.if_icmp .ge 26, 3) := by decide +kernel
theorem dX11_init_52 : decode cX11_init 52 = .ok (.aload_n 0, 1) := by decide +kernel
theorem dX11_init_53 : decode cX11_init 53 = .ok (.getfield 32, 3) := by decide +kernel
theorem dX11_init_56 : decode cX11_init 56 = .ok (.iload_n 1, 1) := by decide +kernel
theorem dX11_init_57 : decode cX11_init 57 = .ok (.new 30, 3) := by decide +kernel
theorem dX11_init_60 : decode cX11_init 60 = .ok (.dup, 1) := by decide +kernel
theorem dX11_init_61 : decode cX11_init 61 = .ok (.aload_n 0, 1) := by decide +kernel
theorem dX11_init_62 : decode cX11_init 62 = .ok (.getfield 12, 3) := by decide +kernel
theorem dX11_init_65 : decode cX11_init 65 = .ok (.invokespecial 36, 3) := by decide +kernel
theorem dX11_init_68 : decode cX11_init 68 = .ok (.aastore, 1) := by decide +kernel
theorem dX11_init_69 : decode cX11_init 69 = .ok (.iinc 1 1, 3) := by decide +kernel
theorem dX11_init_72 : decode cX11_init 72 = .ok (.goto (-25), 3) := by decide +kernel
theorem dX11_init_75 : decode cX11_init 75 = .ok (.aload_n 0, 1) := by decide +kernel
theorem dX11_init_76 : decode cX11_init 76 = .ok (.bipush 12, 2) := by decide +kernel
theorem dX11_init_78 : decode cX11_init 78 = .ok (.anewarray 30, 3) := by decide +kernel
theorem dX11_init_81 : decode cX11_init 81 = .ok (.putfield 39, 3) := by decide +kernel
theorem dX11_init_84 : decode cX11_init 84 = .ok (.iconst 0, 1) := by decide +kernel
theorem dX11_init_85 : decode cX11_init 85 = .ok (.istore_n 1, 1) := by decide +kernel
theorem dX11_init_86 : decode cX11_init 86 = .ok (.iload_n 1, 1) := by decide +kernel
theorem dX11_init_87 : decode cX11_init 87 = .ok (.bipush 12, 2) := by decide +kernel
theorem dX11_init_89 : decode cX11_init 89 = .ok (.if_icmp .ge 26, 3) := by decide +kernel
theorem dX11_init_92 : decode cX11_init 92 = .ok (.aload_n 0, 1) := by decide +kernel
theorem dX11_init_93 : decode cX11_init 93 = .ok (.getfield 39, 3) := by decide +kernel
theorem dX11_init_96 : decode cX11_init 96 = .ok (.iload_n 1, 1) := by decide +kernel
theorem dX11_init_97 : decode cX11_init 97 = .ok (.new 30, 3) := by decide +kernel
theorem dX11_init_100 : decode cX11_init 100 = .ok (.dup, 1) := by decide +kernel
theorem dX11_init_101 : decode cX11_init 101 = .ok (.aload_n 0, 1) := by decide +kernel
theorem dX11_init_102 : decode cX11_init 102 = .ok (.getfield 12, 3) := by decide +kernel
theorem dX11_init_105 : decode cX11_init 105 = .ok (.invokespecial 36, 3) := by decide +kernel
theorem dX11_init_108 : decode cX11_init 108 = .ok (.aastore, 1) := by decide +kernel
theorem dX11_init_109 : decode cX11_init 109 = .ok (.iinc 1 1, 3) := by decide +kernel
theorem dX11_init_112 : decode cX11_init 112 = .ok (.goto (-26), 3) := by decide +kernel
theorem dX11_init_115 : decode cX11_init 115 = .ok (.aload_n 0, 1) := by decide +kernel
theorem dX11_init_116 : decode cX11_init 116 = .ok (.bipush 12, 2) := by decide +kernel
theorem dX11_init_118 : decode cX11_init 118 = .ok (.newarray .boolean, 2) := by decide +kernel
theorem dX11_init_120 : decode cX11_init 120 = .ok (.putfield 42, 3) := by decide +kernel
theorem dX11_init_123 : decode cX11_init 123 = .ok (.aload_n 0, 1) := by decide +kernel
theorem dX11_init_124 : decode cX11_init 124 = .ok (.new 46, 3) := by decide +kernel
theorem dX11_init_127 : decode cX11_init 127 = .ok (.dup, 1) := by decide +kernel
theorem dX11_init_128 : decode cX11_init 128 = .ok (.invokespecial 48, 3) := by decide +kernel
theorem dX11_init_131 : decode cX11_init 131 = .ok (.putfield 49, 3) := by decide +kernel
theorem dX11_init_134 : decode cX11_init 134 = .ok (.aload_n 0, 1) := by decide +kernel
theorem dX11_init_135 : decode cX11_init 135 = .ok (.new 46, 3) := by decide +kernel
theorem dX11_init_138 : decode cX11_init 138 = .ok (.dup, 1) := by decide +kernel
theorem dX11_init_139 : decode cX11_init 139 = .ok (.invokespecial 48, 3) := by decide +kernel
theorem dX11_init_142 : decode cX11_init 142 = .ok (.putfield 53, 3) := by decide +kernel
theorem dX11_init_145 : decode cX11_init 145 = .ok (.aload_n 0, 1) := by decide +kernel
theorem dX11_init_146 : decode cX11_init 146 = .ok (.new 56, 3) := by decide +kernel
theorem dX11_init_149 : decode cX11_init 149 = .ok (.dup, 1) := by decide +kernel
theorem dX11_init_150 : decode cX11_init 150 = .ok (.invokespecial 58, 3) := by decide +kernel
theorem dX11_init_153 : decode cX11_init 153 = .ok (.putfield 59, 3) := by decide +kernel
theorem dX11_init_156 : decode cX11_init 156 = .ok (.aload_n 0, 1) := by decide +kernel
theorem dX11_init_157 : decode cX11_init 157 = .ok (.new 63, 3) := by decide +kernel
theorem dX11_init_160 : decode cX11_init 160 = .ok (.dup, 1) := by decide +kernel
theorem dX11_init_161 : decode cX11_init 161 = .ok (.invokespecial 65, 3) := by decide +kernel
theorem dX11_init_164 : decode cX11_init 164 = .ok (.putfield 66, 3) := by decide +kernel
theorem dX11_init_167 : decode cX11_init 167 = .ok (.aload_n 0, 1) := by decide +kernel
theorem dX11_init_168 : decode cX11_init 168 = .ok (.new 70, 3) := by decide +kernel
theorem dX11_init_171 : decode cX11_init 171 = .ok (.dup, 1) := by decide +kernel
theorem dX11_init_172 : decode cX11_init 172 = .ok (.invokespecial 72, 3) := by decide +kernel
theorem dX11_init_175 : decode cX11_init 175 = .ok (.putfield 73, 3) := by decide +kernel
theorem dX11_init_178 : decode cX11_init 178 = .ok (.aload_n 0, 1) := by decide +kernel
theorem dX11_init_179 : decode cX11_init 179 = .ok (.bipush 60, 2) := by decide +kernel
theorem dX11_init_181 : decode cX11_init 181 = .ok (.newarray .int, 2) := by decide +kernel
theorem dX11_init_183 : decode cX11_init 183 = .ok (.putfield 77, 3) := by decide +kernel
theorem dX11_init_186 : decode cX11_init 186 = .ok (.aload_n 0, 1) := by decide +kernel
theorem dX11_init_187 : decode cX11_init 187 = .ok (.bipush 60, 2) := by decide +kernel
theorem dX11_init_189 : decode cX11_init 189 = .ok (.newarray .int, 2) := by decide +kernel
theorem dX11_init_191 : decode cX11_init 191 = .ok (.putfield 81, 3) := by decide +kernel
theorem dX11_init_194 : decode cX11_init 194 = .ok (.aload_n 0, 1) := by decide +kernel
theorem dX11_init_195 : decode cX11_init 195 = .ok (.iconst 0, 1) := by decide +kernel
theorem dX11_init_196 : decode cX11_init 196 = .ok (.putfield 84, 3) := by decide +kernel
theorem dX11_init_199 : decode cX11_init 199 = .ok (.return_, 1) := by decide +kernel
theorem dX11_kind_0 : decode cX11_kind 0 = .ok (.aload_n 0, 1) := by decide +kernel
theorem dX11_kind_1 : decode cX11_kind 1 = .ok (.getfield 19, 3) := by decide +kernel
theorem dX11_kind_4 : decode cX11_kind 4 = .ok (.iload_n 1, 1) := by decide +kernel
theorem dX11_kind_5 : decode cX11_kind 5 = .ok (.iload_n 2, 1) := by decide +kernel
theorem dX11_kind_6 : decode cX11_kind 6 = .ok (.iload_n 3, 1) := by decide +kernel
theorem dX11_kind_7 : decode cX11_kind 7 = .ok (.iload 4, 2) := by decide +kernel
theorem dX11_kind_9 : decode cX11_kind 9 = .ok (.iload 5, 2) := by decide +kernel
theorem dX11_kind_11 : decode cX11_kind 11 = .ok (.invokevirtual 88, 3) := by decide +kernel
theorem dX11_kind_14 : decode cX11_kind 14 = .ok (.ireturn, 1) := by decide +kernel
theorem dX11_product_0 : decode cX11_product 0 = .ok (.iload_n 1, 1) := by decide +kernel
theorem dX11_product_1 : decode cX11_product 1 = .ok (.invokestatic 92, 3) := by decide +kernel
theorem dX11_product_4 : decode cX11_product 4 = .ok (.ifCond .eq 18, 3) := by decide +kernel
theorem dX11_product_7 : decode cX11_product 7 = .ok (.iload_n 2, 1) := by decide +kernel
theorem dX11_product_8 : decode cX11_product 8 = .ok (.invokestatic 92, 3) := by decide +kernel
theorem dX11_product_11 : decode cX11_product 11 = .ok (.ifCond .eq 11, 3) := by decide +kernel
theorem dX11_product_14 : decode cX11_product 14 = .ok (.iload_n 1, 1) := by decide +kernel
theorem dX11_product_15 : decode cX11_product 15 = .ok (.iload_n 2, 1) := by decide +kernel
theorem dX11_product_16 : decode cX11_product 16 = .ok (.invokestatic 98, 3) := by decide +kernel
theorem dX11_product_19 : decode cX11_product 19 = .ok (.goto 4, 3) := by decide +kernel
theorem dX11_product_22 : decode cX11_product 22 = .ok (.iconst (-1), 1) := by decide +kernel
theorem dX11_product_23 : decode cX11_product 23 = .ok (.ireturn, 1) := by decide +kernel
theorem dX11_layer_0 : decode cX11_layer 0 = .ok (.iload_n 1, 1) := by decide +kernel
theorem dX11_layer_1 : decode cX11_layer 1 = .ok (.invokestatic 102, 3) := by decide +kernel
theorem dX11_layer_4 : decode cX11_layer 4 = .ok (.ifCond .eq 10, 3) := by decide +kernel
theorem dX11_layer_7 : decode cX11_layer 7 = .ok (.iload_n 2, 1) := by decide +kernel
theorem dX11_layer_8 : decode cX11_layer 8 = .ok (.invokestatic 105, 3) := by decide +kernel
theorem dX11_layer_11 : decode cX11_layer 11 = .ok (.ifCond .ne 5, 3) := by decide +kernel
theorem dX11_layer_14 : decode cX11_layer 14 = .ok (.iconst 0, 1) := by decide +kernel
theorem dX11_layer_15 : decode cX11_layer 15 = .ok (.ireturn, 1) := by decide +kernel
theorem dX11_layer_16 : decode cX11_layer 16 = .ok (.aload_n 0, 1) := by decide +kernel
theorem dX11_layer_17 : decode cX11_layer 17 = .ok (.getfield 32, 3) := by decide +kernel
theorem dX11_layer_20 : decode cX11_layer 20 = .ok (.iload_n 1, 1) := by decide +kernel
theorem dX11_layer_21 : decode cX11_layer 21 = .ok (.aaload, 1) := by decide +kernel
theorem dX11_layer_22 : decode cX11_layer 22 = .ok (.iload_n 2, 1) := by decide +kernel
theorem dX11_layer_23 : decode cX11_layer 23 = .ok (.invokevirtual 108, 3) := by decide +kernel
theorem dX11_layer_26 : decode cX11_layer 26 = .ok (.iconst 1, 1) := by decide +kernel
theorem dX11_layer_27 : decode cX11_layer 27 = .ok (.ireturn, 1) := by decide +kernel
theorem dX11_row_0 : decode cX11_row 0 = .ok (.iload_n 1, 1) := by decide +kernel
theorem dX11_row_1 : decode cX11_row 1 = .ok (.invokestatic 102, 3) := by decide +kernel
theorem dX11_row_4 : decode cX11_row 4 = .ok (.ifCond .ne 5, 3) := by decide +kernel
theorem dX11_row_7 : decode cX11_row 7 = .ok (.iconst (-1), 1) := by decide +kernel
theorem dX11_row_8 : decode cX11_row 8 = .ok (.ireturn, 1) := by decide +kernel
theorem dX11_row_9 : decode cX11_row 9 = .ok (.iload_n 2, 1) := by decide +kernel
theorem dX11_row_10 : decode cX11_row 10 = .ok (.invokestatic 105, 3) := by decide +kernel
theorem dX11_row_13 : decode cX11_row 13 = .ok (.ifCond .ne 5, 3) := by decide +kernel
theorem dX11_row_16 : decode cX11_row 16 = .ok (.iconst 1, 1) := by decide +kernel
theorem dX11_row_17 : decode cX11_row 17 = .ok (.ireturn, 1) := by decide +kernel
theorem dX11_row_18 : decode cX11_row 18 = .ok (.aload_n 0, 1) := by decide +kernel
theorem dX11_row_19 : decode cX11_row 19 = .ok (.getfield 32, 3) := by decide +kernel
theorem dX11_row_22 : decode cX11_row 22 = .ok (.iload_n 1, 1) := by decide +kernel
theorem dX11_row_23 : decode cX11_row 23 = .ok (.aaload, 1) := by decide +kernel
theorem dX11_row_24 : decode cX11_row 24 = .ok (.iload_n 2, 1) := by decide +kernel
theorem dX11_row_25 : decode cX11_row 25 = .ok (.invokevirtual 112, 3) := by decide +kernel
theorem dX11_row_28 : decode cX11_row 28 = .ok (.ifnonnull 5, 3) := by decide +kernel
theorem dX11_row_31 : decode cX11_row 31 = .ok (.iconst 2, 1) := by decide +kernel
theorem dX11_row_32 : decode cX11_row 32 = .ok (.ireturn, 1) := by decide +kernel
theorem dX11_row_33 : decode cX11_row 33 = .ok (.iload_n 3, 1) := by decide +kernel
theorem dX11_row_34 : decode cX11_row 34 = .ok (.invokestatic 105, 3) := by decide +kernel
theorem dX11_row_37 : decode cX11_row 37 = .ok (.ifCond .ne 5, 3) := by decide +kernel
theorem dX11_row_40 : decode cX11_row 40 = .ok (.iconst 3, 1) := by decide +kernel
theorem dX11_row_41 : decode cX11_row 41 = .ok (.ireturn, 1) := by decide +kernel
theorem dX11_row_42 : decode cX11_row 42 = .ok (.iload 4, 2) := by decide +kernel
theorem dX11_row_44 : decode cX11_row 44 = .ok (.ifCond .ge 5, 3) := by decide +kernel
theorem dX11_row_47 : decode cX11_row 47 = .ok (.iconst 4, 1) := by decide +kernel
theorem dX11_row_48 : decode cX11_row 48 = .ok (.ireturn, 1) := by decide +kernel
theorem dX11_row_49 : decode cX11_row 49 = .ok (.iload 4, 2) := by decide +kernel
theorem dX11_row_51 : decode cX11_row 51 = .ok (.bipush 10, 2) := by decide +kernel
theorem dX11_row_53 : decode cX11_row 53 = .ok (.if_icmp .le 5, 3) := by decide +kernel
theorem dX11_row_56 : decode cX11_row 56 = .ok (.iconst 5, 1) := by decide +kernel
theorem dX11_row_57 : decode cX11_row 57 = .ok (.ireturn, 1) := by decide +kernel
theorem dX11_row_58 : decode cX11_row 58 = .ok (.aload_n 0, 1) := by decide +kernel
theorem dX11_row_59 : decode cX11_row 59 = .ok (.getfield 32, 3) := by decide +kernel
theorem dX11_row_62 : decode cX11_row 62 = .ok (.iload_n 1, 1) := by decide +kernel
theorem dX11_row_63 : decode cX11_row 63 = .ok (.aaload, 1) := by decide +kernel
theorem dX11_row_64 : decode cX11_row 64 = .ok (.iload_n 2, 1) := by decide +kernel
theorem dX11_row_65 : decode cX11_row 65 = .ok (.iload_n 3, 1) := by decide +kernel
theorem dX11_row_66 : decode cX11_row 66 = .ok (.iload 4, 2) := by decide +kernel
theorem dX11_row_68 : decode cX11_row 68 = .ok (.invokevirtual 116, 3) := by decide +kernel
theorem dX11_row_71 : decode cX11_row 71 = .ok (.iconst 0, 1) := by decide +kernel
theorem dX11_row_72 : decode cX11_row 72 = .ok (.ireturn, 1) := by decide +kernel
theorem dX11_less_0 : decode cX11_less 0 = .ok (.iload_n 1, 1) := by decide +kernel
theorem dX11_less_1 : decode cX11_less 1 = .ok (.invokestatic 102, 3) := by decide +kernel
theorem dX11_less_4 : decode cX11_less 4 = .ok (.ifCond .eq 16, 3) := by decide +kernel
theorem dX11_less_7 : decode cX11_less 7 = .ok (.aload_n 0, 1) := by decide +kernel
theorem dX11_less_8 : decode cX11_less 8 = .ok (.getfield 32, 3) := by decide +kernel
theorem dX11_less_11 : decode cX11_less 11 = .ok (.iload_n 1, 1) := by decide +kernel
theorem dX11_less_12 : decode cX11_less 12 = .ok (.aaload, 1) := by decide +kernel
theorem dX11_less_13 : decode cX11_less 13 = .ok (.iload_n 2, 1) := by decide +kernel
theorem dX11_less_14 : decode cX11_less 14 = .ok (.invokevirtual 112, 3) := by decide +kernel
theorem dX11_less_17 : decode cX11_less 17 = .ok (.ifnonnull 5, 3) := by decide +kernel
theorem dX11_less_20 : decode cX11_less 20 = .ok (.iconst 0, 1) := by decide +kernel
theorem dX11_less_21 : decode cX11_less 21 = .ok (.ireturn, 1) := by decide +kernel
theorem dX11_less_22 : decode cX11_less 22 = .ok (.aload_n 0, 1) := by decide +kernel
theorem dX11_less_23 : decode cX11_less 23 = .ok (.getfield 32, 3) := by decide +kernel
theorem dX11_less_26 : decode cX11_less 26 = .ok (.iload_n 1, 1) := by decide +kernel
theorem dX11_less_27 : decode cX11_less 27 = .ok (.aaload, 1) := by decide +kernel
theorem dX11_less_28 : decode cX11_less 28 = .ok (.iload_n 2, 1) := by decide +kernel
theorem dX11_less_29 : decode cX11_less 29 = .ok (.aconst_null, 1) := by decide +kernel
theorem dX11_less_30 : decode cX11_less 30 = .ok (.invokevirtual 120, 3) := by decide +kernel
theorem dX11_less_33 : decode cX11_less 33 = .ok (.iconst 1, 1) := by decide +kernel
theorem dX11_less_34 : decode cX11_less 34 = .ok (.ireturn, 1) := by decide +kernel
theorem dX11_put_0 : decode cX11_put 0 = .ok (.aload_n 0, 1) := by decide +kernel
theorem dX11_put_1 : decode cX11_put 1 = .ok (.iload_n 1, 1) := by decide +kernel
theorem dX11_put_2 : decode cX11_put 2 = .ok (.iload_n 2, 1) := by decide +kernel
theorem dX11_put_3 : decode cX11_put 3 = .ok (.iload_n 3, 1) := by decide +kernel
theorem dX11_put_4 : decode cX11_put 4 = .ok (.iload 4, 2) := by decide +kernel
theorem dX11_put_6 : decode cX11_put 6 = .ok (.invokevirtual 124, 3) := by decide +kernel
theorem dX11_put_9 : decode cX11_put 9 = .ok (.istore 6, 2) := by decide +kernel
theorem dX11_put_11 : decode cX11_put 11 = .ok (.iload 6, 2) := by decide +kernel
theorem dX11_put_13 : decode cX11_put 13 = .ok (.ifCond .eq 6, 3) := by decide +kernel
theorem dX11_put_16 : decode cX11_put 16 = .ok (.iload 6, 2) := by decide +kernel
theorem dX11_put_18 : decode cX11_put 18 = .ok (.ireturn, 1) := by decide +kernel
theorem dX11_put_19 : decode cX11_put 19 = .ok (.aload_n 0, 1) := by decide +kernel
theorem dX11_put_20 : decode cX11_put 20 = .ok (.getfield 19, 3) := by decide +kernel
theorem dX11_put_23 : decode cX11_put 23 = .ok (.iload 5, 2) := by decide +kernel
theorem dX11_put_25 : decode cX11_put 25 = .ok (.invokevirtual 128, 3) := by decide +kernel
theorem dX11_put_28 : decode cX11_put 28 = .ok (.ifCond .ne 6, 3) := by decide +kernel
theorem dX11_put_31 : decode cX11_put 31 = .ok (.bipush 6, 2) := by decide +kernel
theorem dX11_put_33 : decode cX11_put 33 = .ok (.ireturn, 1) := by decide +kernel
theorem dX11_put_34 : decode cX11_put 34 = .ok (.iload_n 2, 1) := by decide +kernel
theorem dX11_put_35 : decode cX11_put 35 = .ok (.iload_n 3, 1) := by decide +kernel
theorem dX11_put_36 : decode cX11_put 36 = .ok (.iload 4, 2) := by decide +kernel
theorem dX11_put_38 : decode cX11_put 38 = .ok (.invokestatic 131, 3) := by decide +kernel
theorem dX11_put_41 : decode cX11_put 41 = .ok (.istore 7, 2) := by decide +kernel
theorem dX11_put_43 : decode cX11_put 43 = .ok (.aload_n 0, 1) := by decide +kernel
theorem dX11_put_44 : decode cX11_put 44 = .ok (.getfield 32, 3) := by decide +kernel
theorem dX11_put_47 : decode cX11_put 47 = .ok (.iload_n 1, 1) := by decide +kernel
theorem dX11_put_48 : decode cX11_put 48 = .ok (.aaload, 1) := by decide +kernel
theorem dX11_put_49 : decode cX11_put 49 = .ok (.iload 7, 2) := by decide +kernel
theorem dX11_put_51 : decode cX11_put 51 = .ok (.iload 5, 2) := by decide +kernel
theorem dX11_put_53 : decode cX11_put 53 = .ok (.aload_n 0, 1) := by decide +kernel
theorem dX11_put_54 : decode cX11_put 54 = .ok (.getfield 32, 3) := by decide +kernel
theorem dX11_put_57 : decode cX11_put 57 = .ok (.iload_n 1, 1) := by decide +kernel
theorem dX11_put_58 : decode cX11_put 58 = .ok (.aaload, 1) := by decide +kernel
theorem dX11_put_59 : decode cX11_put 59 = .ok (.iload 7, 2) := by decide +kernel
theorem dX11_put_61 : decode cX11_put 61 = .ok (.invokevirtual 135, 3) := by decide +kernel
theorem dX11_put_64 : decode cX11_put 64 = .ok (.invokestatic 139, 3) := by decide +kernel
theorem dX11_put_67 : decode cX11_put 67 = .ok (.invokestatic 142, 3) := by decide +kernel
theorem dX11_put_70 : decode cX11_put 70 = .ok (.invokevirtual 145, 3) := by decide +kernel
theorem dX11_put_73 : decode cX11_put 73 = .ok (.pop, 1) := by decide +kernel
theorem dX11_put_74 : decode cX11_put 74 = .ok (.iconst 0, 1) := by decide +kernel
theorem dX11_put_75 : decode cX11_put 75 = .ok (.ireturn, 1) := by decide +kernel
theorem dX11_face_0 : decode cX11_face 0 = .ok (.aload_n 0, 1) := by decide +kernel
theorem dX11_face_1 : decode cX11_face 1 = .ok (.iload_n 1, 1) := by decide +kernel
theorem dX11_face_2 : decode cX11_face 2 = .ok (.iload_n 2, 1) := by decide +kernel
theorem dX11_face_3 : decode cX11_face 3 = .ok (.iload_n 3, 1) := by decide +kernel
theorem dX11_face_4 : decode cX11_face 4 = .ok (.iload 4, 2) := by decide +kernel
theorem dX11_face_6 : decode cX11_face 6 = .ok (.invokevirtual 124, 3) := by decide +kernel
theorem dX11_face_9 : decode cX11_face 9 = .ok (.istore 6, 2) := by decide +kernel
theorem dX11_face_11 : decode cX11_face 11 = .ok (.iload 6, 2) := by decide +kernel
theorem dX11_face_13 : decode cX11_face 13 = .ok (.ifCond .eq 6, 3) := by decide +kernel
theorem dX11_face_16 : decode cX11_face 16 = .ok (.iload 6, 2) := by decide +kernel
theorem dX11_face_18 : decode cX11_face 18 = .ok (.ireturn, 1) := by decide +kernel
theorem dX11_face_19 : decode cX11_face 19 = .ok (.iload_n 2, 1) := by decide +kernel
theorem dX11_face_20 : decode cX11_face 20 = .ok (.iload_n 3, 1) := by decide +kernel
theorem dX11_face_21 : decode cX11_face 21 = .ok (.iload 4, 2) := by decide +kernel
theorem dX11_face_23 : decode cX11_face 23 = .ok (.invokestatic 131, 3) := by decide +kernel
theorem dX11_face_26 : decode cX11_face 26 = .ok (.istore 7, 2) := by decide +kernel
theorem dX11_face_28 : decode cX11_face 28 = .ok (.aload_n 0, 1) := by decide +kernel
theorem dX11_face_29 : decode cX11_face 29 = .ok (.getfield 32, 3) := by decide +kernel
theorem dX11_face_32 : decode cX11_face 32 = .ok (.iload_n 1, 1) := by decide +kernel
theorem dX11_face_33 : decode cX11_face 33 = .ok (.aaload, 1) := by decide +kernel
theorem dX11_face_34 : decode cX11_face 34 = .ok (.iload 7, 2) := by decide +kernel
theorem dX11_face_36 : decode cX11_face 36 = .ok (.invokevirtual 135, 3) := by decide +kernel
theorem dX11_face_39 : decode cX11_face 39 = .ok (.istore 8, 2) := by decide +kernel
theorem dX11_face_41 : decode cX11_face 41 = .ok (.iload 8, 2) := by decide +kernel
theorem dX11_face_43 : decode cX11_face 43 = .ok (.ifCond .ne 6, 3) := by decide +kernel
theorem dX11_face_46 : decode cX11_face 46 = .ok (.bipush 6, 2) := by decide +kernel
theorem dX11_face_48 : decode cX11_face 48 = .ok (.ireturn, 1) := by decide +kernel
theorem dX11_face_49 : decode cX11_face 49 = .ok (.iload 5, 2) := by decide +kernel
theorem dX11_face_51 : decode cX11_face 51 = .ok (.invokestatic 92, 3) := by decide +kernel
theorem dX11_face_54 : decode cX11_face 54 = .ok (.ifCond .ne 6, 3) := by decide +kernel
theorem dX11_face_57 : decode cX11_face 57 = .ok (.bipush 7, 2) := by decide +kernel
theorem dX11_face_59 : decode cX11_face 59 = .ok (.ireturn, 1) := by decide +kernel
theorem dX11_face_60 : decode cX11_face 60 = .ok (.aload_n 0, 1) := by decide +kernel
theorem dX11_face_61 : decode cX11_face 61 = .ok (.getfield 32, 3) := by decide +kernel
theorem dX11_face_64 : decode cX11_face 64 = .ok (.iload_n 1, 1) := by decide +kernel
theorem dX11_face_65 : decode cX11_face 65 = .ok (.aaload, 1) := by decide +kernel
theorem dX11_face_66 : decode cX11_face 66 = .ok (.iload 7, 2) := by decide +kernel
theorem dX11_face_68 : decode cX11_face 68 = .ok (.iload 8, 2) := by decide +kernel
theorem dX11_face_70 : decode cX11_face 70 = .ok (.invokestatic 149, 3) := by decide +kernel
theorem dX11_face_73 : decode cX11_face 73 = .ok (.iload 5, 2) := by decide +kernel
theorem dX11_face_75 : decode cX11_face 75 = .ok (.invokestatic 142, 3) := by decide +kernel
theorem dX11_face_78 : decode cX11_face 78 = .ok (.invokevirtual 145, 3) := by decide +kernel
theorem dX11_face_81 : decode cX11_face 81 = .ok (.pop, 1) := by decide +kernel
theorem dX11_face_82 : decode cX11_face 82 = .ok (.iconst 0, 1) := by decide +kernel
theorem dX11_face_83 : decode cX11_face 83 = .ok (.ireturn, 1) := by decide +kernel
theorem dX11_there_0 : decode cX11_there 0 = .ok (.iload_n 1, 1) := by decide +kernel
theorem dX11_there_1 : decode cX11_there 1 = .ok (.invokestatic 102, 3) := by decide +kernel
theorem dX11_there_4 : decode cX11_there 4 = .ok (.ifCond .eq 19, 3) := by decide +kernel
theorem dX11_there_7 : decode cX11_there 7 = .ok (.aload_n 0, 1) := by decide +kernel
theorem dX11_there_8 : decode cX11_there 8 = .ok (.getfield 32, 3) := by decide +kernel
theorem dX11_there_11 : decode cX11_there 11 = .ok (.iload_n 1, 1) := by decide +kernel
theorem dX11_there_12 : decode cX11_there 12 = .ok (.aaload, 1) := by decide +kernel
theorem dX11_there_13 : decode cX11_there 13 = .ok (.iload_n 2, 1) := by decide +kernel
theorem dX11_there_14 : decode cX11_there 14 = .ok (.iload_n 3, 1) := by decide +kernel
theorem dX11_there_15 : decode cX11_there 15 = .ok (.iload 4, 2) := by decide +kernel
theorem dX11_there_17 : decode cX11_there 17 = .ok (.invokevirtual 152, 3) := by decide +kernel
theorem dX11_there_20 : decode cX11_there 20 = .ok (.goto 4, 3) := by decide +kernel
theorem dX11_there_23 : decode cX11_there 23 = .ok (.iconst (-1), 1) := by decide +kernel
theorem dX11_there_24 : decode cX11_there 24 = .ok (.ireturn, 1) := by decide +kernel
theorem dX11_at_0 : decode cX11_at 0 = .ok (.aload_n 0, 1) := by decide +kernel
theorem dX11_at_1 : decode cX11_at 1 = .ok (.iload_n 1, 1) := by decide +kernel
theorem dX11_at_2 : decode cX11_at 2 = .ok (.iload_n 2, 1) := by decide +kernel
theorem dX11_at_3 : decode cX11_at 3 = .ok (.iload_n 3, 1) := by decide +kernel
theorem dX11_at_4 : decode cX11_at 4 = .ok (.iload 4, 2) := by decide +kernel
theorem dX11_at_6 : decode cX11_at 6 = .ok (.invokevirtual 155, 3) := by decide +kernel
theorem dX11_at_9 : decode cX11_at 9 = .ok (.istore 5, 2) := by decide +kernel
theorem dX11_at_11 : decode cX11_at 11 = .ok (.iload 5, 2) := by decide +kernel
theorem dX11_at_13 : decode cX11_at 13 = .ok (.iconst (-1), 1) := by decide +kernel
theorem dX11_at_14 : decode cX11_at 14 = .ok (.if_icmp .ne 7, 3) := by decide +kernel
theorem dX11_at_17 : decode cX11_at 17 = .ok (.iconst (-1), 1) := by decide +kernel
theorem dX11_at_18 : decode cX11_at 18 = .ok (.goto 8, 3) := by decide +kernel
theorem dX11_at_21 : decode cX11_at 21 = .ok (.iload 5, 2) := by decide +kernel
theorem dX11_at_23 : decode cX11_at 23 = .ok (.invokestatic 149, 3) := by decide +kernel
theorem dX11_at_26 : decode cX11_at 26 = .ok (.ireturn, 1) := by decide +kernel
theorem dX11_turnAt_0 : decode cX11_turnAt 0 = .ok (.aload_n 0, 1) := by decide +kernel
theorem dX11_turnAt_1 : decode cX11_turnAt 1 = .ok (.iload_n 1, 1) := by decide +kernel
theorem dX11_turnAt_2 : decode cX11_turnAt 2 = .ok (.iload_n 2, 1) := by decide +kernel
theorem dX11_turnAt_3 : decode cX11_turnAt 3 = .ok (.iload_n 3, 1) := by decide +kernel
theorem dX11_turnAt_4 : decode cX11_turnAt 4 = .ok (.iload 4, 2) := by decide +kernel
theorem dX11_turnAt_6 : decode cX11_turnAt 6 = .ok (.invokevirtual 155, 3) := by decide +kernel
theorem dX11_turnAt_9 : decode cX11_turnAt 9 = .ok (.istore 5, 2) := by decide +kernel
theorem dX11_turnAt_11 : decode cX11_turnAt 11 = .ok (.iload 5, 2) := by decide +kernel
theorem dX11_turnAt_13 : decode cX11_turnAt 13 = .ok (.iconst (-1), 1) := by decide +kernel
theorem dX11_turnAt_14 : decode cX11_turnAt 14 = .ok (.if_icmp .ne 7, 3) := by decide +kernel
theorem dX11_turnAt_17 : decode cX11_turnAt 17 = .ok (.iconst (-1), 1) := by decide +kernel
theorem dX11_turnAt_18 : decode cX11_turnAt 18 = .ok (.goto 8, 3) := by decide +kernel
theorem dX11_turnAt_21 : decode cX11_turnAt 21 = .ok (.iload 5, 2) := by decide +kernel
theorem dX11_turnAt_23 : decode cX11_turnAt 23 = .ok (.invokestatic 139, 3) := by decide +kernel
theorem dX11_turnAt_26 : decode cX11_turnAt 26 = .ok (.ireturn, 1) := by decide +kernel
theorem dX11_share_0 : decode cX11_share 0 = .ok (.iload_n 1, 1) := by decide +kernel
theorem dX11_share_1 : decode cX11_share 1 = .ok (.invokestatic 102, 3) := by decide +kernel
theorem dX11_share_4 : decode cX11_share 4 = .ok (.ifCond .eq 10, 3) := by decide +kernel
theorem dX11_share_7 : decode cX11_share 7 = .ok (.iload_n 2, 1) := by decide +kernel
theorem dX11_share_8 : decode cX11_share 8 = .ok (.invokestatic 102, 3) := by decide +kernel
theorem dX11_share_11 : decode cX11_share 11 = .ok (.ifCond .ne 5, 3) := by decide +kernel
theorem dX11_share_14 : decode cX11_share 14 = .ok (.iconst 0, 1) := by decide +kernel
theorem dX11_share_15 : decode cX11_share 15 = .ok (.ireturn, 1) := by decide +kernel
theorem dX11_share_16 : decode cX11_share 16 = .ok (.aload_n 0, 1) := by decide +kernel
theorem dX11_share_17 : decode cX11_share 17 = .ok (.getfield 32, 3) := by decide +kernel
theorem dX11_share_20 : decode cX11_share 20 = .ok (.iload_n 2, 1) := by decide +kernel
theorem dX11_share_21 : decode cX11_share 21 = .ok (.aaload, 1) := by decide +kernel
theorem dX11_share_22 : decode cX11_share 22 = .ok (.aload_n 0, 1) := by decide +kernel
theorem dX11_share_23 : decode cX11_share 23 = .ok (.getfield 32, 3) := by decide +kernel
theorem dX11_share_26 : decode cX11_share 26 = .ok (.iload_n 1, 1) := by decide +kernel
theorem dX11_share_27 : decode cX11_share 27 = .ok (.aaload, 1) := by decide +kernel
theorem dX11_share_28 : decode cX11_share 28 = .ok (.invokevirtual 158, 3) := by decide +kernel
theorem dX11_share_31 : decode cX11_share 31 = .ok (.iconst 1, 1) := by decide +kernel
theorem dX11_share_32 : decode cX11_share 32 = .ok (.ireturn, 1) := by decide +kernel
theorem dX11_keep_0 : decode cX11_keep 0 = .ok (.iload_n 1, 1) := by decide +kernel
theorem dX11_keep_1 : decode cX11_keep 1 = .ok (.invokestatic 162, 3) := by decide +kernel
theorem dX11_keep_4 : decode cX11_keep 4 = .ok (.ifCond .eq 10, 3) := by decide +kernel
theorem dX11_keep_7 : decode cX11_keep 7 = .ok (.iload_n 2, 1) := by decide +kernel
theorem dX11_keep_8 : decode cX11_keep 8 = .ok (.invokestatic 102, 3) := by decide +kernel
theorem dX11_keep_11 : decode cX11_keep 11 = .ok (.ifCond .ne 5, 3) := by decide +kernel
theorem dX11_keep_14 : decode cX11_keep 14 = .ok (.iconst 0, 1) := by decide +kernel
theorem dX11_keep_15 : decode cX11_keep 15 = .ok (.ireturn, 1) := by decide +kernel
theorem dX11_keep_16 : decode cX11_keep 16 = .ok (.aload_n 0, 1) := by decide +kernel
theorem dX11_keep_17 : decode cX11_keep 17 = .ok (.getfield 39, 3) := by decide +kernel
theorem dX11_keep_20 : decode cX11_keep 20 = .ok (.iload_n 1, 1) := by decide +kernel
theorem dX11_keep_21 : decode cX11_keep 21 = .ok (.aaload, 1) := by decide +kernel
theorem dX11_keep_22 : decode cX11_keep 22 = .ok (.aload_n 0, 1) := by decide +kernel
theorem dX11_keep_23 : decode cX11_keep 23 = .ok (.getfield 32, 3) := by decide +kernel
theorem dX11_keep_26 : decode cX11_keep 26 = .ok (.iload_n 2, 1) := by decide +kernel
theorem dX11_keep_27 : decode cX11_keep 27 = .ok (.aaload, 1) := by decide +kernel
theorem dX11_keep_28 : decode cX11_keep 28 = .ok (.invokevirtual 158, 3) := by decide +kernel
theorem dX11_keep_31 : decode cX11_keep 31 = .ok (.aload_n 0, 1) := by decide +kernel
theorem dX11_keep_32 : decode cX11_keep 32 = .ok (.getfield 42, 3) := by decide +kernel
theorem dX11_keep_35 : decode cX11_keep 35 = .ok (.iload_n 1, 1) := by decide +kernel
theorem dX11_keep_36 : decode cX11_keep 36 = .ok (.iconst 1, 1) := by decide +kernel
theorem dX11_keep_37 : decode cX11_keep 37 = .ok (.bastore, 1) := by decide +kernel
theorem dX11_keep_38 : decode cX11_keep 38 = .ok (.iconst 1, 1) := by decide +kernel
theorem dX11_keep_39 : decode cX11_keep 39 = .ok (.ireturn, 1) := by decide +kernel
theorem dX11_back_0 : decode cX11_back 0 = .ok (.iload_n 1, 1) := by decide +kernel
theorem dX11_back_1 : decode cX11_back 1 = .ok (.invokestatic 162, 3) := by decide +kernel
theorem dX11_back_4 : decode cX11_back 4 = .ok (.ifCond .eq 19, 3) := by decide +kernel
theorem dX11_back_7 : decode cX11_back 7 = .ok (.iload_n 2, 1) := by decide +kernel
theorem dX11_back_8 : decode cX11_back 8 = .ok (.invokestatic 102, 3) := by decide +kernel
theorem dX11_back_11 : decode cX11_back 11 = .ok (.ifCond .eq 12, 3) := by decide +kernel
theorem dX11_back_14 : decode cX11_back 14 = .ok (.aload_n 0, 1) := by decide +kernel
theorem dX11_back_15 : decode cX11_back 15 = .ok (.getfield 42, 3) := by decide +kernel
theorem dX11_back_18 : decode cX11_back 18 = .ok (.iload_n 1, 1) := by decide +kernel
theorem dX11_back_19 : decode cX11_back 19 = .ok (.baload, 1) := by decide +kernel
theorem dX11_back_20 : decode cX11_back 20 = .ok (.ifCond .ne 5, 3) := by decide +kernel
theorem dX11_back_23 : decode cX11_back 23 = .ok (.iconst 0, 1) := by decide +kernel
theorem dX11_back_24 : decode cX11_back 24 = .ok (.ireturn, 1) := by decide +kernel
theorem dX11_back_25 : decode cX11_back 25 = .ok (.aload_n 0, 1) := by decide +kernel
theorem dX11_back_26 : decode cX11_back 26 = .ok (.getfield 32, 3) := by decide +kernel
theorem dX11_back_29 : decode cX11_back 29 = .ok (.iload_n 2, 1) := by decide +kernel
theorem dX11_back_30 : decode cX11_back 30 = .ok (.aaload, 1) := by decide +kernel
theorem dX11_back_31 : decode cX11_back 31 = .ok (.aload_n 0, 1) := by decide +kernel
theorem dX11_back_32 : decode cX11_back 32 = .ok (.getfield 39, 3) := by decide +kernel
theorem dX11_back_35 : decode cX11_back 35 = .ok (.iload_n 1, 1) := by decide +kernel
theorem dX11_back_36 : decode cX11_back 36 = .ok (.aaload, 1) := by decide +kernel
theorem dX11_back_37 : decode cX11_back 37 = .ok (.invokevirtual 158, 3) := by decide +kernel
theorem dX11_back_40 : decode cX11_back 40 = .ok (.iconst 1, 1) := by decide +kernel
theorem dX11_back_41 : decode cX11_back 41 = .ok (.ireturn, 1) := by decide +kernel
theorem dX11_forget_0 : decode cX11_forget 0 = .ok (.iload_n 1, 1) := by decide +kernel
theorem dX11_forget_1 : decode cX11_forget 1 = .ok (.invokestatic 162, 3) := by decide +kernel
theorem dX11_forget_4 : decode cX11_forget 4 = .ok (.ifCond .eq 12, 3) := by decide +kernel
theorem dX11_forget_7 : decode cX11_forget 7 = .ok (.aload_n 0, 1) := by decide +kernel
theorem dX11_forget_8 : decode cX11_forget 8 = .ok (.getfield 42, 3) := by decide +kernel
theorem dX11_forget_11 : decode cX11_forget 11 = .ok (.iload_n 1, 1) := by decide +kernel
theorem dX11_forget_12 : decode cX11_forget 12 = .ok (.baload, 1) := by decide +kernel
theorem dX11_forget_13 : decode cX11_forget 13 = .ok (.ifCond .ne 5, 3) := by decide +kernel
theorem dX11_forget_16 : decode cX11_forget 16 = .ok (.iconst 0, 1) := by decide +kernel
theorem dX11_forget_17 : decode cX11_forget 17 = .ok (.ireturn, 1) := by decide +kernel
theorem dX11_forget_18 : decode cX11_forget 18 = .ok (.aload_n 0, 1) := by decide +kernel
theorem dX11_forget_19 : decode cX11_forget 19 = .ok (.getfield 39, 3) := by decide +kernel
theorem dX11_forget_22 : decode cX11_forget 22 = .ok (.iload_n 1, 1) := by decide +kernel
theorem dX11_forget_23 : decode cX11_forget 23 = .ok (.aaload, 1) := by decide +kernel
theorem dX11_forget_24 : decode cX11_forget 24 = .ok (.invokevirtual 165, 3) := by decide +kernel
theorem dX11_forget_27 : decode cX11_forget 27 = .ok (.aload_n 0, 1) := by decide +kernel
theorem dX11_forget_28 : decode cX11_forget 28 = .ok (.getfield 42, 3) := by decide +kernel
theorem dX11_forget_31 : decode cX11_forget 31 = .ok (.iload_n 1, 1) := by decide +kernel
theorem dX11_forget_32 : decode cX11_forget 32 = .ok (.iconst 0, 1) := by decide +kernel
theorem dX11_forget_33 : decode cX11_forget 33 = .ok (.bastore, 1) := by decide +kernel
theorem dX11_forget_34 : decode cX11_forget 34 = .ok (.iconst 1, 1) := by decide +kernel
theorem dX11_forget_35 : decode cX11_forget 35 = .ok (.ireturn, 1) := by decide +kernel
theorem dX11_same_0 : decode cX11_same 0 = .ok (.iload_n 1, 1) := by decide +kernel
theorem dX11_same_1 : decode cX11_same 1 = .ok (.invokestatic 102, 3) := by decide +kernel
theorem dX11_same_4 : decode cX11_same 4 = .ok (.ifCond .eq 22, 3) := by decide +kernel
theorem dX11_same_7 : decode cX11_same 7 = .ok (.iload_n 3, 1) := by decide +kernel
theorem dX11_same_8 : decode cX11_same 8 = .ok (.invokestatic 102, 3) := by decide +kernel
theorem dX11_same_11 : decode cX11_same 11 = .ok (.ifCond .eq 15, 3) := by decide +kernel
theorem dX11_same_14 : decode cX11_same 14 = .ok (.iload 5, 2) := by decide +kernel
theorem dX11_same_16 : decode cX11_same 16 = .ok (.ifCond .lt 10, 3) := by decide +kernel
theorem dX11_same_19 : decode cX11_same 19 = .ok (.iload 5, 2) := by decide +kernel
theorem dX11_same_21 : decode cX11_same 21 = .ok (.bipush 10, 2) := by decide +kernel
theorem dX11_same_23 : decode cX11_same 23 = .ok (.if_icmp .le 5, 3) := by decide +kernel
theorem dX11_same_26 : decode cX11_same 26 = .ok (.iconst (-1), 1) := by decide +kernel
theorem dX11_same_27 : decode cX11_same 27 = .ok (.ireturn, 1) := by decide +kernel
theorem dX11_same_28 : decode cX11_same 28 = .ok (.aload_n 0, 1) := by decide +kernel
theorem dX11_same_29 : decode cX11_same 29 = .ok (.getfield 32, 3) := by decide +kernel
theorem dX11_same_32 : decode cX11_same 32 = .ok (.iload_n 1, 1) := by decide +kernel
theorem dX11_same_33 : decode cX11_same 33 = .ok (.aaload, 1) := by decide +kernel
theorem dX11_same_34 : decode cX11_same 34 = .ok (.iload_n 2, 1) := by decide +kernel
theorem dX11_same_35 : decode cX11_same 35 = .ok (.invokevirtual 112, 3) := by decide +kernel
theorem dX11_same_38 : decode cX11_same 38 = .ok (.astore 6, 2) := by decide +kernel
theorem dX11_same_40 : decode cX11_same 40 = .ok (.aload_n 0, 1) := by decide +kernel
theorem dX11_same_41 : decode cX11_same 41 = .ok (.getfield 32, 3) := by decide +kernel
theorem dX11_same_44 : decode cX11_same 44 = .ok (.iload_n 3, 1) := by decide +kernel
theorem dX11_same_45 : decode cX11_same 45 = .ok (.aaload, 1) := by decide +kernel
theorem dX11_same_46 : decode cX11_same 46 = .ok (.iload 4, 2) := by decide +kernel
theorem dX11_same_48 : decode cX11_same 48 = .ok (.invokevirtual 112, 3) := by decide +kernel
theorem dX11_same_51 : decode cX11_same 51 = .ok (.astore 7, 2) := by decide +kernel
theorem dX11_same_53 : decode cX11_same 53 = .ok (.aload 6, 2) := by decide +kernel
theorem dX11_same_55 : decode cX11_same 55 = .ok (.ifnull 8, 3) := by decide +kernel
theorem dX11_same_58 : decode cX11_same 58 = .ok (.aload 7, 2) := by decide +kernel
theorem dX11_same_60 : decode cX11_same 60 = .ok (.ifnonnull 5, 3) := by decide +kernel
theorem dX11_same_63 : decode cX11_same 63 = .ok (.iconst (-1), 1) := by decide +kernel
theorem dX11_same_64 : decode cX11_same 64 = .ok (.ireturn, 1) := by decide +kernel
theorem dX11_same_65 : decode cX11_same 65 = .ok (.iload 5, 2) := by decide +kernel
theorem dX11_same_67 : decode cX11_same 67 = .ok (.ifCond .ne 16, 3) := by decide +kernel
theorem dX11_same_70 : decode cX11_same 70 = .ok (.aload 6, 2) := by decide +kernel
theorem dX11_same_72 : decode cX11_same 72 = .ok (.aload 7, 2) := by decide +kernel
theorem dX11_same_74 : decode cX11_same 74 = .ok (.if_acmp .ne 7, 3) := by decide +kernel
theorem dX11_same_77 : decode cX11_same 77 = .ok (.iconst 1, 1) := by decide +kernel
theorem dX11_same_78 : decode cX11_same 78 = .ok (.goto 4, 3) := by decide +kernel
theorem dX11_same_81 : decode cX11_same 81 = .ok (.iconst 0, 1) := by decide +kernel
theorem dX11_same_82 : decode cX11_same 82 = .ok (.ireturn, 1) := by decide +kernel
theorem dX11_same_83 : decode cX11_same 83 = .ok (.aload 6, 2) := by decide +kernel
theorem dX11_same_85 : decode cX11_same 85 = .ok (.getfield 168, 3) := by decide +kernel
theorem dX11_same_88 : decode cX11_same 88 = .ok (.iload 5, 2) := by decide +kernel
theorem dX11_same_90 : decode cX11_same 90 = .ok (.iconst 1, 1) := by decide +kernel
theorem dX11_same_91 : decode cX11_same 91 = .ok (.isub, 1) := by decide +kernel
theorem dX11_same_92 : decode cX11_same 92 = .ok (.aaload, 1) := by decide +kernel
theorem dX11_same_93 : decode cX11_same 93 = .ok (.astore 8, 2) := by decide +kernel
theorem dX11_same_95 : decode cX11_same 95 = .ok (.aload 7, 2) := by decide +kernel
theorem dX11_same_97 : decode cX11_same 97 = .ok (.getfield 168, 3) := by decide +kernel
theorem dX11_same_100 : decode cX11_same 100 = .ok (.iload 5, 2) := by decide +kernel
theorem dX11_same_102 : decode cX11_same 102 = .ok (.iconst 1, 1) := by decide +kernel
theorem dX11_same_103 : decode cX11_same 103 = .ok (.isub, 1) := by decide +kernel
theorem dX11_same_104 : decode cX11_same 104 = .ok (.aaload, 1) := by decide +kernel
theorem dX11_same_105 : decode cX11_same 105 = .ok (.astore 9, 2) := by decide +kernel
theorem dX11_same_107 : decode cX11_same 107 = .ok (.aload 8, 2) := by decide +kernel
theorem dX11_same_109 : decode cX11_same 109 = .ok (.ifnull 8, 3) := by decide +kernel
theorem dX11_same_112 : decode cX11_same 112 = .ok (.aload 9, 2) := by decide +kernel
theorem dX11_same_114 : decode cX11_same 114 = .ok (.ifnonnull 5, 3) := by decide +kernel
theorem dX11_same_117 : decode cX11_same 117 = .ok (.iconst (-1), 1) := by decide +kernel
theorem dX11_same_118 : decode cX11_same 118 = .ok (.ireturn, 1) := by decide +kernel
theorem dX11_same_119 : decode cX11_same 119 = .ok (.aload 8, 2) := by decide +kernel
theorem dX11_same_121 : decode cX11_same 121 = .ok (.aload 9, 2) := by decide +kernel
theorem dX11_same_123 : decode cX11_same 123 = .ok (.if_acmp .ne 7, 3) := by decide +kernel
theorem dX11_same_126 : decode cX11_same 126 = .ok (.iconst 1, 1) := by decide +kernel
theorem dX11_same_127 : decode cX11_same 127 = .ok (.goto 4, 3) := by decide +kernel
theorem dX11_same_130 : decode cX11_same 130 = .ok (.iconst 0, 1) := by decide +kernel
theorem dX11_same_131 : decode cX11_same 131 = .ok (.ireturn, 1) := by decide +kernel
theorem dX11_made_0 : decode cX11_made 0 = .ok (.iload_n 1, 1) := by decide +kernel
theorem dX11_made_1 : decode cX11_made 1 = .ok (.tableswitch 93 0 6 #[43, 51, 59, 67, 75, 83, 88], 43) := by decide +kernel
theorem dX11_made_44 : decode cX11_made 44 = .ok (.aload_n 0, 1) := by decide +kernel
theorem dX11_made_45 : decode cX11_made 45 = .ok (.getfield 12, 3) := by decide +kernel
theorem dX11_made_48 : decode cX11_made 48 = .ok (.getfield 174, 3) := by decide +kernel
theorem dX11_made_51 : decode cX11_made 51 = .ok (.ireturn, 1) := by decide +kernel
theorem dX11_made_52 : decode cX11_made 52 = .ok (.aload_n 0, 1) := by decide +kernel
theorem dX11_made_53 : decode cX11_made 53 = .ok (.getfield 12, 3) := by decide +kernel
theorem dX11_made_56 : decode cX11_made 56 = .ok (.getfield 177, 3) := by decide +kernel
theorem dX11_made_59 : decode cX11_made 59 = .ok (.ireturn, 1) := by decide +kernel
theorem dX11_made_60 : decode cX11_made 60 = .ok (.aload_n 0, 1) := by decide +kernel
theorem dX11_made_61 : decode cX11_made 61 = .ok (.getfield 12, 3) := by decide +kernel
theorem dX11_made_64 : decode cX11_made 64 = .ok (.getfield 180, 3) := by decide +kernel
theorem dX11_made_67 : decode cX11_made 67 = .ok (.ireturn, 1) := by decide +kernel
theorem dX11_made_68 : decode cX11_made 68 = .ok (.aload_n 0, 1) := by decide +kernel
theorem dX11_made_69 : decode cX11_made 69 = .ok (.getfield 12, 3) := by decide +kernel
theorem dX11_made_72 : decode cX11_made 72 = .ok (.getfield 183, 3) := by decide +kernel
theorem dX11_made_75 : decode cX11_made 75 = .ok (.ireturn, 1) := by decide +kernel
theorem dX11_made_76 : decode cX11_made 76 = .ok (.aload_n 0, 1) := by decide +kernel
theorem dX11_made_77 : decode cX11_made 77 = .ok (.getfield 19, 3) := by decide +kernel
theorem dX11_made_80 : decode cX11_made 80 = .ok (.getfield 186, 3) := by decide +kernel
theorem dX11_made_83 : decode cX11_made 83 = .ok (.ireturn, 1) := by decide +kernel
theorem dX11_made_84 : decode cX11_made 84 = .ok (.aload_n 0, 1) := by decide +kernel
theorem dX11_made_85 : decode cX11_made 85 = .ok (.invokevirtual 189, 3) := by decide +kernel
theorem dX11_made_88 : decode cX11_made 88 = .ok (.ireturn, 1) := by decide +kernel
theorem dX11_made_89 : decode cX11_made 89 = .ok (.aload_n 0, 1) := by decide +kernel
theorem dX11_made_90 : decode cX11_made 90 = .ok (.getfield 84, 3) := by decide +kernel
theorem dX11_made_93 : decode cX11_made 93 = .ok (.ireturn, 1) := by decide +kernel
theorem dX11_made_94 : decode cX11_made 94 = .ok (.iconst (-1), 1) := by decide +kernel
theorem dX11_made_95 : decode cX11_made 95 = .ok (.ireturn, 1) := by decide +kernel
theorem dX11_box_0 : decode cX11_box 0 = .ok (.aload_n 0, 1) := by decide +kernel
theorem dX11_box_1 : decode cX11_box 1 = .ok (.getfield 26, 3) := by decide +kernel
theorem dX11_box_4 : decode cX11_box 4 = .ok (.iload_n 1, 1) := by decide +kernel
theorem dX11_box_5 : decode cX11_box 5 = .ok (.invokevirtual 193, 3) := by decide +kernel
theorem dX11_box_8 : decode cX11_box 8 = .ok (.ireturn, 1) := by decide +kernel
theorem dX11_fill_0 : decode cX11_fill 0 = .ok (.iload_n 1, 1) := by decide +kernel
theorem dX11_fill_1 : decode cX11_fill 1 = .ok (.invokestatic 102, 3) := by decide +kernel
theorem dX11_fill_4 : decode cX11_fill 4 = .ok (.ifCond .eq 21, 3) := by decide +kernel
theorem dX11_fill_7 : decode cX11_fill 7 = .ok (.aload_n 0, 1) := by decide +kernel
theorem dX11_fill_8 : decode cX11_fill 8 = .ok (.getfield 19, 3) := by decide +kernel
theorem dX11_fill_11 : decode cX11_fill 11 = .ok (.iload_n 2, 1) := by decide +kernel
theorem dX11_fill_12 : decode cX11_fill 12 = .ok (.invokevirtual 128, 3) := by decide +kernel
theorem dX11_fill_15 : decode cX11_fill 15 = .ok (.ifCond .eq 10, 3) := by decide +kernel
theorem dX11_fill_18 : decode cX11_fill 18 = .ok (.iload_n 3, 1) := by decide +kernel
theorem dX11_fill_19 : decode cX11_fill 19 = .ok (.invokestatic 92, 3) := by decide +kernel
theorem dX11_fill_22 : decode cX11_fill 22 = .ok (.ifCond .ne 5, 3) := by decide +kernel
theorem dX11_fill_25 : decode cX11_fill 25 = .ok (.iconst (-1), 1) := by decide +kernel
theorem dX11_fill_26 : decode cX11_fill 26 = .ok (.ireturn, 1) := by decide +kernel
theorem dX11_fill_27 : decode cX11_fill 27 = .ok (.iload_n 2, 1) := by decide +kernel
theorem dX11_fill_28 : decode cX11_fill 28 = .ok (.iload_n 3, 1) := by decide +kernel
theorem dX11_fill_29 : decode cX11_fill 29 = .ok (.invokestatic 142, 3) := by decide +kernel
theorem dX11_fill_32 : decode cX11_fill 32 = .ok (.istore 4, 2) := by decide +kernel
theorem dX11_fill_34 : decode cX11_fill 34 = .ok (.iconst 0, 1) := by decide +kernel
theorem dX11_fill_35 : decode cX11_fill 35 = .ok (.istore 5, 2) := by decide +kernel
theorem dX11_fill_37 : decode cX11_fill 37 = .ok (.iconst 0, 1) := by decide +kernel
theorem dX11_fill_38 : decode cX11_fill 38 = .ok (.istore 6, 2) := by decide +kernel
theorem dX11_fill_40 : decode cX11_fill 40 = .ok (.iload 6, 2) := by decide +kernel
theorem dX11_fill_42 : decode cX11_fill 42 = .ok (.sipush 1000, 3) := by decide +kernel
theorem dX11_fill_45 : decode cX11_fill 45 = .ok (.if_icmp .ge 40, 3) := by decide +kernel
theorem dX11_fill_48 : decode cX11_fill 48 = .ok (.aload_n 0, 1) := by decide +kernel
theorem dX11_fill_49 : decode cX11_fill 49 = .ok (.getfield 26, 3) := by decide +kernel
theorem dX11_fill_52 : decode cX11_fill 52 = .ok (.iload 6, 2) := by decide +kernel
theorem dX11_fill_54 : decode cX11_fill 54 = .ok (.invokevirtual 196, 3) := by decide +kernel
theorem dX11_fill_57 : decode cX11_fill 57 = .ok (.ifCond .eq 22, 3) := by decide +kernel
theorem dX11_fill_60 : decode cX11_fill 60 = .ok (.aload_n 0, 1) := by decide +kernel
theorem dX11_fill_61 : decode cX11_fill 61 = .ok (.getfield 32, 3) := by decide +kernel
theorem dX11_fill_64 : decode cX11_fill 64 = .ok (.iload_n 1, 1) := by decide +kernel
theorem dX11_fill_65 : decode cX11_fill 65 = .ok (.aaload, 1) := by decide +kernel
theorem dX11_fill_66 : decode cX11_fill 66 = .ok (.iload 6, 2) := by decide +kernel
theorem dX11_fill_68 : decode cX11_fill 68 = .ok (.iload 4, 2) := by decide +kernel
theorem dX11_fill_70 : decode cX11_fill 70 = .ok (.invokevirtual 145, 3) := by decide +kernel
theorem dX11_fill_73 : decode cX11_fill 73 = .ok (.ifCond .eq 6, 3) := by decide +kernel
theorem dX11_fill_76 : decode cX11_fill 76 = .ok (.iinc 5 1, 3) := by decide +kernel
theorem dX11_fill_79 : decode cX11_fill 79 = .ok (.iinc 6 1, 3) := by decide +kernel
theorem dX11_fill_82 : decode cX11_fill 82 = .ok (.goto (-42), 3) := by decide +kernel
theorem dX11_fill_85 : decode cX11_fill 85 = .ok (.iload 5, 2) := by decide +kernel
theorem dX11_fill_87 : decode cX11_fill 87 = .ok (.ireturn, 1) := by decide +kernel
theorem dX11_replace_0 : decode cX11_replace 0 = .ok (.iload_n 1, 1) := by decide +kernel
theorem dX11_replace_1 : decode cX11_replace 1 = .ok (.invokestatic 102, 3) := by decide +kernel
theorem dX11_replace_4 : decode cX11_replace 4 = .ok (.ifCond .eq 25, 3) := by decide +kernel
theorem dX11_replace_7 : decode cX11_replace 7 = .ok (.aload_n 0, 1) := by decide +kernel
theorem dX11_replace_8 : decode cX11_replace 8 = .ok (.getfield 19, 3) := by decide +kernel
theorem dX11_replace_11 : decode cX11_replace 11 = .ok (.iload_n 2, 1) := by decide +kernel
theorem dX11_replace_12 : decode cX11_replace 12 = .ok (.invokevirtual 199, 3) := by decide +kernel
theorem dX11_replace_15 : decode cX11_replace 15 = .ok (.ifCond .eq 14, 3) := by decide +kernel
theorem dX11_replace_18 : decode cX11_replace 18 = .ok (.aload_n 0, 1) := by decide +kernel
theorem dX11_replace_19 : decode cX11_replace 19 = .ok (.getfield 19, 3) := by decide +kernel
theorem dX11_replace_22 : decode cX11_replace 22 = .ok (.iload_n 3, 1) := by decide +kernel
theorem dX11_replace_23 : decode cX11_replace 23 = .ok (.invokevirtual 128, 3) := by decide +kernel
theorem dX11_replace_26 : decode cX11_replace 26 = .ok (.ifCond .ne 5, 3) := by decide +kernel
theorem dX11_replace_29 : decode cX11_replace 29 = .ok (.iconst (-1), 1) := by decide +kernel
theorem dX11_replace_30 : decode cX11_replace 30 = .ok (.ireturn, 1) := by decide +kernel
theorem dX11_replace_31 : decode cX11_replace 31 = .ok (.iconst 0, 1) := by decide +kernel
theorem dX11_replace_32 : decode cX11_replace 32 = .ok (.istore 4, 2) := by decide +kernel
theorem dX11_replace_34 : decode cX11_replace 34 = .ok (.iconst 0, 1) := by decide +kernel
theorem dX11_replace_35 : decode cX11_replace 35 = .ok (.istore 5, 2) := by decide +kernel
theorem dX11_replace_37 : decode cX11_replace 37 = .ok (.iload 5, 2) := by decide +kernel
theorem dX11_replace_39 : decode cX11_replace 39 = .ok (.sipush 1000, 3) := by decide +kernel
theorem dX11_replace_42 : decode cX11_replace 42 = .ok (.if_icmp .ge 78, 3) := by decide +kernel
theorem dX11_replace_45 : decode cX11_replace 45 = .ok (.aload_n 0, 1) := by decide +kernel
theorem dX11_replace_46 : decode cX11_replace 46 = .ok (.getfield 26, 3) := by decide +kernel
theorem dX11_replace_49 : decode cX11_replace 49 = .ok (.iload 5, 2) := by decide +kernel
theorem dX11_replace_51 : decode cX11_replace 51 = .ok (.invokevirtual 196, 3) := by decide +kernel
theorem dX11_replace_54 : decode cX11_replace 54 = .ok (.ifCond .eq 17, 3) := by decide +kernel
theorem dX11_replace_57 : decode cX11_replace 57 = .ok (.aload_n 0, 1) := by decide +kernel
theorem dX11_replace_58 : decode cX11_replace 58 = .ok (.getfield 32, 3) := by decide +kernel
theorem dX11_replace_61 : decode cX11_replace 61 = .ok (.iload_n 1, 1) := by decide +kernel
theorem dX11_replace_62 : decode cX11_replace 62 = .ok (.aaload, 1) := by decide +kernel
theorem dX11_replace_63 : decode cX11_replace 63 = .ok (.iload 5, 2) := by decide +kernel
theorem dX11_replace_65 : decode cX11_replace 65 = .ok (.invokevirtual 135, 3) := by decide +kernel
theorem dX11_replace_68 : decode cX11_replace 68 = .ok (.goto 4, 3) := by decide +kernel
theorem dX11_replace_71 : decode cX11_replace 71 = .ok (.iconst (-1), 1) := by decide +kernel
theorem dX11_replace_72 : decode cX11_replace 72 = .ok (.istore 6, 2) := by decide +kernel
theorem dX11_replace_74 : decode cX11_replace 74 = .ok (.iload 6, 2) := by decide +kernel
theorem dX11_replace_76 : decode cX11_replace 76 = .ok (.ifCond .le 38, 3) := by decide +kernel
theorem dX11_replace_79 : decode cX11_replace 79 = .ok (.iload 6, 2) := by decide +kernel
theorem dX11_replace_81 : decode cX11_replace 81 = .ok (.invokestatic 149, 3) := by decide +kernel
theorem dX11_replace_84 : decode cX11_replace 84 = .ok (.iload_n 2, 1) := by decide +kernel
theorem dX11_replace_85 : decode cX11_replace 85 = .ok (.if_icmp .ne 29, 3) := by decide +kernel
theorem dX11_replace_88 : decode cX11_replace 88 = .ok (.aload_n 0, 1) := by decide +kernel
theorem dX11_replace_89 : decode cX11_replace 89 = .ok (.getfield 32, 3) := by decide +kernel
theorem dX11_replace_92 : decode cX11_replace 92 = .ok (.iload_n 1, 1) := by decide +kernel
theorem dX11_replace_93 : decode cX11_replace 93 = .ok (.aaload, 1) := by decide +kernel
theorem dX11_replace_94 : decode cX11_replace 94 = .ok (.iload 5, 2) := by decide +kernel
theorem dX11_replace_96 : decode cX11_replace 96 = .ok (.iload_n 3, 1) := by decide +kernel
theorem dX11_replace_97 : decode cX11_replace 97 = .ok (.iload 6, 2) := by decide +kernel
theorem dX11_replace_99 : decode cX11_replace 99 = .ok (.invokestatic 139, 3) := by decide +kernel
theorem dX11_replace_102 : decode cX11_replace 102 = .ok (.invokestatic 142, 3) := by decide +kernel
theorem dX11_replace_105 : decode cX11_replace 105 = .ok (.invokevirtual 145, 3) := by decide +kernel
theorem dX11_replace_108 : decode cX11_replace 108 = .ok (.ifCond .eq 6, 3) := by decide +kernel
theorem dX11_replace_111 : decode cX11_replace 111 = .ok (.iinc 4 1, 3) := by decide +kernel
theorem dX11_replace_114 : decode cX11_replace 114 = .ok (.iinc 5 1, 3) := by decide +kernel
theorem dX11_replace_117 : decode cX11_replace 117 = .ok (.goto (-80), 3) := by decide +kernel
theorem dX11_replace_120 : decode cX11_replace 120 = .ok (.iload 4, 2) := by decide +kernel
theorem dX11_replace_122 : decode cX11_replace 122 = .ok (.ireturn, 1) := by decide +kernel
theorem dX11_count_0 : decode cX11_count 0 = .ok (.iload_n 1, 1) := by decide +kernel
theorem dX11_count_1 : decode cX11_count 1 = .ok (.invokestatic 102, 3) := by decide +kernel
theorem dX11_count_4 : decode cX11_count 4 = .ok (.ifCond .eq 14, 3) := by decide +kernel
theorem dX11_count_7 : decode cX11_count 7 = .ok (.aload_n 0, 1) := by decide +kernel
theorem dX11_count_8 : decode cX11_count 8 = .ok (.getfield 19, 3) := by decide +kernel
theorem dX11_count_11 : decode cX11_count 11 = .ok (.iload_n 2, 1) := by decide +kernel
theorem dX11_count_12 : decode cX11_count 12 = .ok (.invokevirtual 128, 3) := by decide +kernel
theorem dX11_count_15 : decode cX11_count 15 = .ok (.ifCond .ne 5, 3) := by decide +kernel
theorem dX11_count_18 : decode cX11_count 18 = .ok (.iconst (-1), 1) := by decide +kernel
theorem dX11_count_19 : decode cX11_count 19 = .ok (.ireturn, 1) := by decide +kernel
theorem dX11_count_20 : decode cX11_count 20 = .ok (.iconst 0, 1) := by decide +kernel
theorem dX11_count_21 : decode cX11_count 21 = .ok (.istore_n 3, 1) := by decide +kernel
theorem dX11_count_22 : decode cX11_count 22 = .ok (.iconst 0, 1) := by decide +kernel
theorem dX11_count_23 : decode cX11_count 23 = .ok (.istore 4, 2) := by decide +kernel
theorem dX11_count_25 : decode cX11_count 25 = .ok (.iload 4, 2) := by decide +kernel
theorem dX11_count_27 : decode cX11_count 27 = .ok (.sipush 1000, 3) := by decide +kernel
theorem dX11_count_30 : decode cX11_count 30 = .ok (.if_icmp .ge 56, 3) := by decide +kernel
theorem dX11_count_33 : decode cX11_count 33 = .ok (.aload_n 0, 1) := by decide +kernel
theorem dX11_count_34 : decode cX11_count 34 = .ok (.getfield 26, 3) := by decide +kernel
theorem dX11_count_37 : decode cX11_count 37 = .ok (.iload 4, 2) := by decide +kernel
theorem dX11_count_39 : decode cX11_count 39 = .ok (.invokevirtual 196, 3) := by decide +kernel
theorem dX11_count_42 : decode cX11_count 42 = .ok (.ifCond .eq 17, 3) := by decide +kernel
theorem dX11_count_45 : decode cX11_count 45 = .ok (.aload_n 0, 1) := by decide +kernel
theorem dX11_count_46 : decode cX11_count 46 = .ok (.getfield 32, 3) := by decide +kernel
theorem dX11_count_49 : decode cX11_count 49 = .ok (.iload_n 1, 1) := by decide +kernel
theorem dX11_count_50 : decode cX11_count 50 = .ok (.aaload, 1) := by decide +kernel
theorem dX11_count_51 : decode cX11_count 51 = .ok (.iload 4, 2) := by decide +kernel
theorem dX11_count_53 : decode cX11_count 53 = .ok (.invokevirtual 135, 3) := by decide +kernel
theorem dX11_count_56 : decode cX11_count 56 = .ok (.goto 4, 3) := by decide +kernel
theorem dX11_count_59 : decode cX11_count 59 = .ok (.iconst (-1), 1) := by decide +kernel
theorem dX11_count_60 : decode cX11_count 60 = .ok (.istore 5, 2) := by decide +kernel
theorem dX11_count_62 : decode cX11_count 62 = .ok (.iload 5, 2) := by decide +kernel
theorem dX11_count_64 : decode cX11_count 64 = .ok (.iconst (-1), 1) := by decide +kernel
theorem dX11_count_65 : decode cX11_count 65 = .ok (.if_icmp .eq 15, 3) := by decide +kernel
theorem dX11_count_68 : decode cX11_count 68 = .ok (.iload 5, 2) := by decide +kernel
theorem dX11_count_70 : decode cX11_count 70 = .ok (.invokestatic 149, 3) := by decide +kernel
theorem dX11_count_73 : decode cX11_count 73 = .ok (.iload_n 2, 1) := by decide +kernel
theorem dX11_count_74 : decode cX11_count 74 = .ok (.if_icmp .ne 6, 3) := by decide +kernel
theorem dX11_count_77 : decode cX11_count 77 = .ok (.iinc 3 1, 3) := by decide +kernel
theorem dX11_count_80 : decode cX11_count 80 = .ok (.iinc 4 1, 3) := by decide +kernel
theorem dX11_count_83 : decode cX11_count 83 = .ok (.goto (-58), 3) := by decide +kernel
theorem dX11_count_86 : decode cX11_count 86 = .ok (.iload_n 3, 1) := by decide +kernel
theorem dX11_count_87 : decode cX11_count 87 = .ok (.ireturn, 1) := by decide +kernel
theorem dX11_hollow_0 : decode cX11_hollow 0 = .ok (.iload_n 1, 1) := by decide +kernel
theorem dX11_hollow_1 : decode cX11_hollow 1 = .ok (.invokestatic 102, 3) := by decide +kernel
theorem dX11_hollow_4 : decode cX11_hollow 4 = .ok (.ifCond .ne 5, 3) := by decide +kernel
theorem dX11_hollow_7 : decode cX11_hollow 7 = .ok (.iconst (-1), 1) := by decide +kernel
theorem dX11_hollow_8 : decode cX11_hollow 8 = .ok (.ireturn, 1) := by decide +kernel
theorem dX11_hollow_9 : decode cX11_hollow 9 = .ok (.aload_n 0, 1) := by decide +kernel
theorem dX11_hollow_10 : decode cX11_hollow 10 = .ok (.iload_n 1, 1) := by decide +kernel
theorem dX11_hollow_11 : decode cX11_hollow 11 = .ok (.invokevirtual 202, 3) := by decide +kernel
theorem dX11_hollow_14 : decode cX11_hollow 14 = .ok (.iconst 0, 1) := by decide +kernel
theorem dX11_hollow_15 : decode cX11_hollow 15 = .ok (.istore_n 2, 1) := by decide +kernel
theorem dX11_hollow_16 : decode cX11_hollow 16 = .ok (.iconst 0, 1) := by decide +kernel
theorem dX11_hollow_17 : decode cX11_hollow 17 = .ok (.istore_n 3, 1) := by decide +kernel
theorem dX11_hollow_18 : decode cX11_hollow 18 = .ok (.iload_n 3, 1) := by decide +kernel
theorem dX11_hollow_19 : decode cX11_hollow 19 = .ok (.aload_n 0, 1) := by decide +kernel
theorem dX11_hollow_20 : decode cX11_hollow 20 = .ok (.getfield 49, 3) := by decide +kernel
theorem dX11_hollow_23 : decode cX11_hollow 23 = .ok (.getfield 205, 3) := by decide +kernel
theorem dX11_hollow_26 : decode cX11_hollow 26 = .ok (.if_icmp .ge 48, 3) := by decide +kernel
theorem dX11_hollow_29 : decode cX11_hollow 29 = .ok (.aload_n 0, 1) := by decide +kernel
theorem dX11_hollow_30 : decode cX11_hollow 30 = .ok (.getfield 49, 3) := by decide +kernel
theorem dX11_hollow_33 : decode cX11_hollow 33 = .ok (.getfield 208, 3) := by decide +kernel
theorem dX11_hollow_36 : decode cX11_hollow 36 = .ok (.iload_n 3, 1) := by decide +kernel
theorem dX11_hollow_37 : decode cX11_hollow 37 = .ok (.iaload, 1) := by decide +kernel
theorem dX11_hollow_38 : decode cX11_hollow 38 = .ok (.istore 4, 2) := by decide +kernel
theorem dX11_hollow_40 : decode cX11_hollow 40 = .ok (.aload_n 0, 1) := by decide +kernel
theorem dX11_hollow_41 : decode cX11_hollow 41 = .ok (.getfield 49, 3) := by decide +kernel
theorem dX11_hollow_44 : decode cX11_hollow 44 = .ok (.iload 4, 2) := by decide +kernel
theorem dX11_hollow_46 : decode cX11_hollow 46 = .ok (.invokevirtual 211, 3) := by decide +kernel
theorem dX11_hollow_49 : decode cX11_hollow 49 = .ok (.ifCond .ne 19, 3) := by decide +kernel
theorem dX11_hollow_52 : decode cX11_hollow 52 = .ok (.aload_n 0, 1) := by decide +kernel
theorem dX11_hollow_53 : decode cX11_hollow 53 = .ok (.getfield 32, 3) := by decide +kernel
theorem dX11_hollow_56 : decode cX11_hollow 56 = .ok (.iload_n 1, 1) := by decide +kernel
theorem dX11_hollow_57 : decode cX11_hollow 57 = .ok (.aaload, 1) := by decide +kernel
theorem dX11_hollow_58 : decode cX11_hollow 58 = .ok (.iload 4, 2) := by decide +kernel
theorem dX11_hollow_60 : decode cX11_hollow 60 = .ok (.iconst 0, 1) := by decide +kernel
theorem dX11_hollow_61 : decode cX11_hollow 61 = .ok (.invokevirtual 145, 3) := by decide +kernel
theorem dX11_hollow_64 : decode cX11_hollow 64 = .ok (.pop, 1) := by decide +kernel
theorem dX11_hollow_65 : decode cX11_hollow 65 = .ok (.iinc 2 1, 3) := by decide +kernel
theorem dX11_hollow_68 : decode cX11_hollow 68 = .ok (.iinc 3 1, 3) := by decide +kernel
theorem dX11_hollow_71 : decode cX11_hollow 71 = .ok (.goto (-53), 3) := by decide +kernel
theorem dX11_hollow_74 : decode cX11_hollow 74 = .ok (.iload_n 2, 1) := by decide +kernel
theorem dX11_hollow_75 : decode cX11_hollow 75 = .ok (.ireturn, 1) := by decide +kernel
theorem dX11_move_0 : decode cX11_move 0 = .ok (.iload_n 1, 1) := by decide +kernel
theorem dX11_move_1 : decode cX11_move 1 = .ok (.invokestatic 102, 3) := by decide +kernel
theorem dX11_move_4 : decode cX11_move 4 = .ok (.ifCond .eq 17, 3) := by decide +kernel
theorem dX11_move_7 : decode cX11_move 7 = .ok (.iload_n 2, 1) := by decide +kernel
theorem dX11_move_8 : decode cX11_move 8 = .ok (.invokestatic 102, 3) := by decide +kernel
theorem dX11_move_11 : decode cX11_move 11 = .ok (.ifCond .eq 10, 3) := by decide +kernel
theorem dX11_move_14 : decode cX11_move 14 = .ok (.iload_n 3, 1) := by decide +kernel
theorem dX11_move_15 : decode cX11_move 15 = .ok (.invokestatic 214, 3) := by decide +kernel
theorem dX11_move_18 : decode cX11_move 18 = .ok (.ifCond .ne 5, 3) := by decide +kernel
theorem dX11_move_21 : decode cX11_move 21 = .ok (.iconst (-1), 1) := by decide +kernel
theorem dX11_move_22 : decode cX11_move 22 = .ok (.ireturn, 1) := by decide +kernel
theorem dX11_move_23 : decode cX11_move 23 = .ok (.aload_n 0, 1) := by decide +kernel
theorem dX11_move_24 : decode cX11_move 24 = .ok (.iload_n 1, 1) := by decide +kernel
theorem dX11_move_25 : decode cX11_move 25 = .ok (.invokevirtual 202, 3) := by decide +kernel
theorem dX11_move_28 : decode cX11_move 28 = .ok (.iconst 0, 1) := by decide +kernel
theorem dX11_move_29 : decode cX11_move 29 = .ok (.istore 5, 2) := by decide +kernel
theorem dX11_move_31 : decode cX11_move 31 = .ok (.iload 5, 2) := by decide +kernel
theorem dX11_move_33 : decode cX11_move 33 = .ok (.aload_n 0, 1) := by decide +kernel
theorem dX11_move_34 : decode cX11_move 34 = .ok (.getfield 49, 3) := by decide +kernel
theorem dX11_move_37 : decode cX11_move 37 = .ok (.getfield 205, 3) := by decide +kernel
theorem dX11_move_40 : decode cX11_move 40 = .ok (.if_icmp .ge 38, 3) := by decide +kernel
theorem dX11_move_43 : decode cX11_move 43 = .ok (.aload_n 0, 1) := by decide +kernel
theorem dX11_move_44 : decode cX11_move 44 = .ok (.getfield 32, 3) := by decide +kernel
theorem dX11_move_47 : decode cX11_move 47 = .ok (.iload_n 2, 1) := by decide +kernel
theorem dX11_move_48 : decode cX11_move 48 = .ok (.aaload, 1) := by decide +kernel
theorem dX11_move_49 : decode cX11_move 49 = .ok (.iload_n 3, 1) := by decide +kernel
theorem dX11_move_50 : decode cX11_move 50 = .ok (.aload_n 0, 1) := by decide +kernel
theorem dX11_move_51 : decode cX11_move 51 = .ok (.getfield 49, 3) := by decide +kernel
theorem dX11_move_54 : decode cX11_move 54 = .ok (.getfield 208, 3) := by decide +kernel
theorem dX11_move_57 : decode cX11_move 57 = .ok (.iload 5, 2) := by decide +kernel
theorem dX11_move_59 : decode cX11_move 59 = .ok (.iaload, 1) := by decide +kernel
theorem dX11_move_60 : decode cX11_move 60 = .ok (.invokestatic 217, 3) := by decide +kernel
theorem dX11_move_63 : decode cX11_move 63 = .ok (.invokevirtual 135, 3) := by decide +kernel
theorem dX11_move_66 : decode cX11_move 66 = .ok (.iconst (-1), 1) := by decide +kernel
theorem dX11_move_67 : decode cX11_move 67 = .ok (.if_icmp .ne 5, 3) := by decide +kernel
theorem dX11_move_70 : decode cX11_move 70 = .ok (.iconst (-1), 1) := by decide +kernel
theorem dX11_move_71 : decode cX11_move 71 = .ok (.ireturn, 1) := by decide +kernel
theorem dX11_move_72 : decode cX11_move 72 = .ok (.iinc 5 1, 3) := by decide +kernel
theorem dX11_move_75 : decode cX11_move 75 = .ok (.goto (-44), 3) := by decide +kernel
theorem dX11_move_78 : decode cX11_move 78 = .ok (.iconst 0, 1) := by decide +kernel
theorem dX11_move_79 : decode cX11_move 79 = .ok (.istore 5, 2) := by decide +kernel
theorem dX11_move_81 : decode cX11_move 81 = .ok (.iload 4, 2) := by decide +kernel
theorem dX11_move_83 : decode cX11_move 83 = .ok (.ifCond .eq 42, 3) := by decide +kernel
theorem dX11_move_86 : decode cX11_move 86 = .ok (.iload 5, 2) := by decide +kernel
theorem dX11_move_88 : decode cX11_move 88 = .ok (.aload_n 0, 1) := by decide +kernel
theorem dX11_move_89 : decode cX11_move 89 = .ok (.getfield 49, 3) := by decide +kernel
theorem dX11_move_92 : decode cX11_move 92 = .ok (.getfield 205, 3) := by decide +kernel
theorem dX11_move_95 : decode cX11_move 95 = .ok (.if_icmp .ge 30, 3) := by decide +kernel
theorem dX11_move_98 : decode cX11_move 98 = .ok (.aload_n 0, 1) := by decide +kernel
theorem dX11_move_99 : decode cX11_move 99 = .ok (.getfield 32, 3) := by decide +kernel
theorem dX11_move_102 : decode cX11_move 102 = .ok (.iload_n 1, 1) := by decide +kernel
theorem dX11_move_103 : decode cX11_move 103 = .ok (.aaload, 1) := by decide +kernel
theorem dX11_move_104 : decode cX11_move 104 = .ok (.aload_n 0, 1) := by decide +kernel
theorem dX11_move_105 : decode cX11_move 105 = .ok (.getfield 49, 3) := by decide +kernel
theorem dX11_move_108 : decode cX11_move 108 = .ok (.getfield 208, 3) := by decide +kernel
theorem dX11_move_111 : decode cX11_move 111 = .ok (.iload 5, 2) := by decide +kernel
theorem dX11_move_113 : decode cX11_move 113 = .ok (.iaload, 1) := by decide +kernel
theorem dX11_move_114 : decode cX11_move 114 = .ok (.iconst 0, 1) := by decide +kernel
theorem dX11_move_115 : decode cX11_move 115 = .ok (.invokevirtual 145, 3) := by decide +kernel
theorem dX11_move_118 : decode cX11_move 118 = .ok (.pop, 1) := by decide +kernel
theorem dX11_move_119 : decode cX11_move 119 = .ok (.iinc 5 1, 3) := by decide +kernel
theorem dX11_move_122 : decode cX11_move 122 = .ok (.goto (-41), 3) := by decide +kernel
theorem dX11_move_125 : decode cX11_move 125 = .ok (.iconst 0, 1) := by decide +kernel
theorem dX11_move_126 : decode cX11_move 126 = .ok (.istore 5, 2) := by decide +kernel
theorem dX11_move_128 : decode cX11_move 128 = .ok (.iload 5, 2) := by decide +kernel
theorem dX11_move_130 : decode cX11_move 130 = .ok (.aload_n 0, 1) := by decide +kernel
theorem dX11_move_131 : decode cX11_move 131 = .ok (.getfield 49, 3) := by decide +kernel
theorem dX11_move_134 : decode cX11_move 134 = .ok (.getfield 205, 3) := by decide +kernel
theorem dX11_move_137 : decode cX11_move 137 = .ok (.if_icmp .ge 46, 3) := by decide +kernel
theorem dX11_move_140 : decode cX11_move 140 = .ok (.aload_n 0, 1) := by decide +kernel
theorem dX11_move_141 : decode cX11_move 141 = .ok (.getfield 49, 3) := by decide +kernel
theorem dX11_move_144 : decode cX11_move 144 = .ok (.getfield 208, 3) := by decide +kernel
theorem dX11_move_147 : decode cX11_move 147 = .ok (.iload 5, 2) := by decide +kernel
theorem dX11_move_149 : decode cX11_move 149 = .ok (.iaload, 1) := by decide +kernel
theorem dX11_move_150 : decode cX11_move 150 = .ok (.istore 6, 2) := by decide +kernel
theorem dX11_move_152 : decode cX11_move 152 = .ok (.aload_n 0, 1) := by decide +kernel
theorem dX11_move_153 : decode cX11_move 153 = .ok (.getfield 32, 3) := by decide +kernel
theorem dX11_move_156 : decode cX11_move 156 = .ok (.iload_n 2, 1) := by decide +kernel
theorem dX11_move_157 : decode cX11_move 157 = .ok (.aaload, 1) := by decide +kernel
theorem dX11_move_158 : decode cX11_move 158 = .ok (.iload_n 3, 1) := by decide +kernel
theorem dX11_move_159 : decode cX11_move 159 = .ok (.iload 6, 2) := by decide +kernel
theorem dX11_move_161 : decode cX11_move 161 = .ok (.invokestatic 217, 3) := by decide +kernel
theorem dX11_move_164 : decode cX11_move 164 = .ok (.aload_n 0, 1) := by decide +kernel
theorem dX11_move_165 : decode cX11_move 165 = .ok (.getfield 49, 3) := by decide +kernel
theorem dX11_move_168 : decode cX11_move 168 = .ok (.iload 6, 2) := by decide +kernel
theorem dX11_move_170 : decode cX11_move 170 = .ok (.invokevirtual 220, 3) := by decide +kernel
theorem dX11_move_173 : decode cX11_move 173 = .ok (.invokevirtual 145, 3) := by decide +kernel
theorem dX11_move_176 : decode cX11_move 176 = .ok (.pop, 1) := by decide +kernel
theorem dX11_move_177 : decode cX11_move 177 = .ok (.iinc 5 1, 3) := by decide +kernel
theorem dX11_move_180 : decode cX11_move 180 = .ok (.goto (-52), 3) := by decide +kernel
theorem dX11_move_183 : decode cX11_move 183 = .ok (.aload_n 0, 1) := by decide +kernel
theorem dX11_move_184 : decode cX11_move 184 = .ok (.getfield 49, 3) := by decide +kernel
theorem dX11_move_187 : decode cX11_move 187 = .ok (.getfield 205, 3) := by decide +kernel
theorem dX11_move_190 : decode cX11_move 190 = .ok (.ireturn, 1) := by decide +kernel
theorem dX11_turnBox_0 : decode cX11_turnBox 0 = .ok (.iload_n 1, 1) := by decide +kernel
theorem dX11_turnBox_1 : decode cX11_turnBox 1 = .ok (.invokestatic 102, 3) := by decide +kernel
theorem dX11_turnBox_4 : decode cX11_turnBox 4 = .ok (.ifCond .eq 21, 3) := by decide +kernel
theorem dX11_turnBox_7 : decode cX11_turnBox 7 = .ok (.iload_n 2, 1) := by decide +kernel
theorem dX11_turnBox_8 : decode cX11_turnBox 8 = .ok (.invokestatic 92, 3) := by decide +kernel
theorem dX11_turnBox_11 : decode cX11_turnBox 11 = .ok (.ifCond .eq 14, 3) := by decide +kernel
theorem dX11_turnBox_14 : decode cX11_turnBox 14 = .ok (.aload_n 0, 1) := by decide +kernel
theorem dX11_turnBox_15 : decode cX11_turnBox 15 = .ok (.getfield 26, 3) := by decide +kernel
theorem dX11_turnBox_18 : decode cX11_turnBox 18 = .ok (.iload_n 2, 1) := by decide +kernel
theorem dX11_turnBox_19 : decode cX11_turnBox 19 = .ok (.invokevirtual 223, 3) := by decide +kernel
theorem dX11_turnBox_22 : decode cX11_turnBox 22 = .ok (.ifCond .ne 5, 3) := by decide +kernel
theorem dX11_turnBox_25 : decode cX11_turnBox 25 = .ok (.iconst (-1), 1) := by decide +kernel
theorem dX11_turnBox_26 : decode cX11_turnBox 26 = .ok (.ireturn, 1) := by decide +kernel
theorem dX11_turnBox_27 : decode cX11_turnBox 27 = .ok (.aload_n 0, 1) := by decide +kernel
theorem dX11_turnBox_28 : decode cX11_turnBox 28 = .ok (.iload_n 1, 1) := by decide +kernel
theorem dX11_turnBox_29 : decode cX11_turnBox 29 = .ok (.invokevirtual 202, 3) := by decide +kernel
theorem dX11_turnBox_32 : decode cX11_turnBox 32 = .ok (.iconst 0, 1) := by decide +kernel
theorem dX11_turnBox_33 : decode cX11_turnBox 33 = .ok (.istore_n 3, 1) := by decide +kernel
theorem dX11_turnBox_34 : decode cX11_turnBox 34 = .ok (.iload_n 3, 1) := by decide +kernel
theorem dX11_turnBox_35 : decode cX11_turnBox 35 = .ok (.sipush 1000, 3) := by decide +kernel
theorem dX11_turnBox_38 : decode cX11_turnBox 38 = .ok (.if_icmp .ge 34, 3) := by decide +kernel
theorem dX11_turnBox_41 : decode cX11_turnBox 41 = .ok (.aload_n 0, 1) := by decide +kernel
theorem dX11_turnBox_42 : decode cX11_turnBox 42 = .ok (.getfield 26, 3) := by decide +kernel
theorem dX11_turnBox_45 : decode cX11_turnBox 45 = .ok (.iload_n 3, 1) := by decide +kernel
theorem dX11_turnBox_46 : decode cX11_turnBox 46 = .ok (.invokevirtual 196, 3) := by decide +kernel
theorem dX11_turnBox_49 : decode cX11_turnBox 49 = .ok (.ifCond .eq 17, 3) := by decide +kernel
theorem dX11_turnBox_52 : decode cX11_turnBox 52 = .ok (.aload_n 0, 1) := by decide +kernel
theorem dX11_turnBox_53 : decode cX11_turnBox 53 = .ok (.getfield 49, 3) := by decide +kernel
theorem dX11_turnBox_56 : decode cX11_turnBox 56 = .ok (.iload_n 3, 1) := by decide +kernel
theorem dX11_turnBox_57 : decode cX11_turnBox 57 = .ok (.invokevirtual 220, 3) := by decide +kernel
theorem dX11_turnBox_60 : decode cX11_turnBox 60 = .ok (.iconst (-1), 1) := by decide +kernel
theorem dX11_turnBox_61 : decode cX11_turnBox 61 = .ok (.if_icmp .ne 5, 3) := by decide +kernel
theorem dX11_turnBox_64 : decode cX11_turnBox 64 = .ok (.iconst (-1), 1) := by decide +kernel
theorem dX11_turnBox_65 : decode cX11_turnBox 65 = .ok (.ireturn, 1) := by decide +kernel
theorem dX11_turnBox_66 : decode cX11_turnBox 66 = .ok (.iinc 3 1, 3) := by decide +kernel
theorem dX11_turnBox_69 : decode cX11_turnBox 69 = .ok (.goto (-35), 3) := by decide +kernel
theorem dX11_turnBox_72 : decode cX11_turnBox 72 = .ok (.iconst 0, 1) := by decide +kernel
theorem dX11_turnBox_73 : decode cX11_turnBox 73 = .ok (.istore_n 3, 1) := by decide +kernel
theorem dX11_turnBox_74 : decode cX11_turnBox 74 = .ok (.iload_n 3, 1) := by decide +kernel
theorem dX11_turnBox_75 : decode cX11_turnBox 75 = .ok (.sipush 1000, 3) := by decide +kernel
theorem dX11_turnBox_78 : decode cX11_turnBox 78 = .ok (.if_icmp .ge 66, 3) := by decide +kernel
theorem dX11_turnBox_81 : decode cX11_turnBox 81 = .ok (.aload_n 0, 1) := by decide +kernel
theorem dX11_turnBox_82 : decode cX11_turnBox 82 = .ok (.getfield 26, 3) := by decide +kernel
theorem dX11_turnBox_85 : decode cX11_turnBox 85 = .ok (.iload_n 3, 1) := by decide +kernel
theorem dX11_turnBox_86 : decode cX11_turnBox 86 = .ok (.invokevirtual 196, 3) := by decide +kernel
theorem dX11_turnBox_89 : decode cX11_turnBox 89 = .ok (.ifCond .eq 49, 3) := by decide +kernel
theorem dX11_turnBox_92 : decode cX11_turnBox 92 = .ok (.aload_n 0, 1) := by decide +kernel
theorem dX11_turnBox_93 : decode cX11_turnBox 93 = .ok (.getfield 49, 3) := by decide +kernel
theorem dX11_turnBox_96 : decode cX11_turnBox 96 = .ok (.iload_n 3, 1) := by decide +kernel
theorem dX11_turnBox_97 : decode cX11_turnBox 97 = .ok (.invokevirtual 220, 3) := by decide +kernel
theorem dX11_turnBox_100 : decode cX11_turnBox 100 = .ok (.istore 4, 2) := by decide +kernel
theorem dX11_turnBox_102 : decode cX11_turnBox 102 = .ok (.aload_n 0, 1) := by decide +kernel
theorem dX11_turnBox_103 : decode cX11_turnBox 103 = .ok (.getfield 32, 3) := by decide +kernel
theorem dX11_turnBox_106 : decode cX11_turnBox 106 = .ok (.iload_n 1, 1) := by decide +kernel
theorem dX11_turnBox_107 : decode cX11_turnBox 107 = .ok (.aaload, 1) := by decide +kernel
theorem dX11_turnBox_108 : decode cX11_turnBox 108 = .ok (.aload_n 0, 1) := by decide +kernel
theorem dX11_turnBox_109 : decode cX11_turnBox 109 = .ok (.getfield 26, 3) := by decide +kernel
theorem dX11_turnBox_112 : decode cX11_turnBox 112 = .ok (.iload_n 3, 1) := by decide +kernel
theorem dX11_turnBox_113 : decode cX11_turnBox 113 = .ok (.iload_n 2, 1) := by decide +kernel
theorem dX11_turnBox_114 : decode cX11_turnBox 114 = .ok (.invokevirtual 226, 3) := by decide +kernel
theorem dX11_turnBox_117 : decode cX11_turnBox 117 = .ok (.iload 4, 2) := by decide +kernel
theorem dX11_turnBox_119 : decode cX11_turnBox 119 = .ok (.invokestatic 149, 3) := by decide +kernel
theorem dX11_turnBox_122 : decode cX11_turnBox 122 = .ok (.iload_n 2, 1) := by decide +kernel
theorem dX11_turnBox_123 : decode cX11_turnBox 123 = .ok (.iload 4, 2) := by decide +kernel
theorem dX11_turnBox_125 : decode cX11_turnBox 125 = .ok (.invokestatic 139, 3) := by decide +kernel
theorem dX11_turnBox_128 : decode cX11_turnBox 128 = .ok (.invokestatic 98, 3) := by decide +kernel
theorem dX11_turnBox_131 : decode cX11_turnBox 131 = .ok (.invokestatic 142, 3) := by decide +kernel
theorem dX11_turnBox_134 : decode cX11_turnBox 134 = .ok (.invokevirtual 145, 3) := by decide +kernel
theorem dX11_turnBox_137 : decode cX11_turnBox 137 = .ok (.pop, 1) := by decide +kernel
theorem dX11_turnBox_138 : decode cX11_turnBox 138 = .ok (.iinc 3 1, 3) := by decide +kernel
theorem dX11_turnBox_141 : decode cX11_turnBox 141 = .ok (.goto (-67), 3) := by decide +kernel
theorem dX11_turnBox_144 : decode cX11_turnBox 144 = .ok (.aload_n 0, 1) := by decide +kernel
theorem dX11_turnBox_145 : decode cX11_turnBox 145 = .ok (.getfield 49, 3) := by decide +kernel
theorem dX11_turnBox_148 : decode cX11_turnBox 148 = .ok (.getfield 205, 3) := by decide +kernel
theorem dX11_turnBox_151 : decode cX11_turnBox 151 = .ok (.ireturn, 1) := by decide +kernel
theorem dX11_cut_0 : decode cX11_cut 0 = .ok (.iload_n 1, 1) := by decide +kernel
theorem dX11_cut_1 : decode cX11_cut 1 = .ok (.invokestatic 102, 3) := by decide +kernel
theorem dX11_cut_4 : decode cX11_cut 4 = .ok (.ifCond .ne 5, 3) := by decide +kernel
theorem dX11_cut_7 : decode cX11_cut 7 = .ok (.iconst (-1), 1) := by decide +kernel
theorem dX11_cut_8 : decode cX11_cut 8 = .ok (.ireturn, 1) := by decide +kernel
theorem dX11_cut_9 : decode cX11_cut 9 = .ok (.aload_n 0, 1) := by decide +kernel
theorem dX11_cut_10 : decode cX11_cut 10 = .ok (.iload_n 1, 1) := by decide +kernel
theorem dX11_cut_11 : decode cX11_cut 11 = .ok (.invokevirtual 202, 3) := by decide +kernel
theorem dX11_cut_14 : decode cX11_cut 14 = .ok (.iconst 0, 1) := by decide +kernel
theorem dX11_cut_15 : decode cX11_cut 15 = .ok (.istore 6, 2) := by decide +kernel
theorem dX11_cut_17 : decode cX11_cut 17 = .ok (.iconst 0, 1) := by decide +kernel
theorem dX11_cut_18 : decode cX11_cut 18 = .ok (.istore 7, 2) := by decide +kernel
theorem dX11_cut_20 : decode cX11_cut 20 = .ok (.iload 7, 2) := by decide +kernel
theorem dX11_cut_22 : decode cX11_cut 22 = .ok (.aload_n 0, 1) := by decide +kernel
theorem dX11_cut_23 : decode cX11_cut 23 = .ok (.getfield 49, 3) := by decide +kernel
theorem dX11_cut_26 : decode cX11_cut 26 = .ok (.getfield 205, 3) := by decide +kernel
theorem dX11_cut_29 : decode cX11_cut 29 = .ok (.if_icmp .ge 94, 3) := by decide +kernel
theorem dX11_cut_32 : decode cX11_cut 32 = .ok (.aload_n 0, 1) := by decide +kernel
theorem dX11_cut_33 : decode cX11_cut 33 = .ok (.getfield 49, 3) := by decide +kernel
theorem dX11_cut_36 : decode cX11_cut 36 = .ok (.getfield 208, 3) := by decide +kernel
theorem dX11_cut_39 : decode cX11_cut 39 = .ok (.iload 7, 2) := by decide +kernel
theorem dX11_cut_41 : decode cX11_cut 41 = .ok (.iaload, 1) := by decide +kernel
theorem dX11_cut_42 : decode cX11_cut 42 = .ok (.istore 8, 2) := by decide +kernel
theorem dX11_cut_44 : decode cX11_cut 44 = .ok (.iload_n 2, 1) := by decide +kernel
theorem dX11_cut_45 : decode cX11_cut 45 = .ok (.i2l, 1) := by decide +kernel
theorem dX11_cut_46 : decode cX11_cut 46 = .ok (.iconst 2, 1) := by decide +kernel
theorem dX11_cut_47 : decode cX11_cut 47 = .ok (.iload 8, 2) := by decide +kernel
theorem dX11_cut_49 : decode cX11_cut 49 = .ok (.invokestatic 229, 3) := by decide +kernel
theorem dX11_cut_52 : decode cX11_cut 52 = .ok (.imul, 1) := by decide +kernel
theorem dX11_cut_53 : decode cX11_cut 53 = .ok (.iconst 1, 1) := by decide +kernel
theorem dX11_cut_54 : decode cX11_cut 54 = .ok (.iadd, 1) := by decide +kernel
theorem dX11_cut_55 : decode cX11_cut 55 = .ok (.i2l, 1) := by decide +kernel
theorem dX11_cut_56 : decode cX11_cut 56 = .ok (.lmul, 1) := by decide +kernel
theorem dX11_cut_57 : decode cX11_cut 57 = .ok (.iload_n 3, 1) := by decide +kernel
theorem dX11_cut_58 : decode cX11_cut 58 = .ok (.i2l, 1) := by decide +kernel
theorem dX11_cut_59 : decode cX11_cut 59 = .ok (.iconst 2, 1) := by decide +kernel
theorem dX11_cut_60 : decode cX11_cut 60 = .ok (.iload 8, 2) := by decide +kernel
theorem dX11_cut_62 : decode cX11_cut 62 = .ok (.invokestatic 232, 3) := by decide +kernel
theorem dX11_cut_65 : decode cX11_cut 65 = .ok (.imul, 1) := by decide +kernel
theorem dX11_cut_66 : decode cX11_cut 66 = .ok (.iconst 1, 1) := by decide +kernel
theorem dX11_cut_67 : decode cX11_cut 67 = .ok (.iadd, 1) := by decide +kernel
theorem dX11_cut_68 : decode cX11_cut 68 = .ok (.i2l, 1) := by decide +kernel
theorem dX11_cut_69 : decode cX11_cut 69 = .ok (.lmul, 1) := by decide +kernel
theorem dX11_cut_70 : decode cX11_cut 70 = .ok (.ladd, 1) := by decide +kernel
theorem dX11_cut_71 : decode cX11_cut 71 = .ok (.iload 4, 2) := by decide +kernel
theorem dX11_cut_73 : decode cX11_cut 73 = .ok (.i2l, 1) := by decide +kernel
theorem dX11_cut_74 : decode cX11_cut 74 = .ok (.iconst 2, 1) := by decide +kernel
theorem dX11_cut_75 : decode cX11_cut 75 = .ok (.iload 8, 2) := by decide +kernel
theorem dX11_cut_77 : decode cX11_cut 77 = .ok (.invokestatic 235, 3) := by decide +kernel
theorem dX11_cut_80 : decode cX11_cut 80 = .ok (.imul, 1) := by decide +kernel
theorem dX11_cut_81 : decode cX11_cut 81 = .ok (.iconst 1, 1) := by decide +kernel
theorem dX11_cut_82 : decode cX11_cut 82 = .ok (.iadd, 1) := by decide +kernel
theorem dX11_cut_83 : decode cX11_cut 83 = .ok (.i2l, 1) := by decide +kernel
theorem dX11_cut_84 : decode cX11_cut 84 = .ok (.lmul, 1) := by decide +kernel
theorem dX11_cut_85 : decode cX11_cut 85 = .ok (.ladd, 1) := by decide +kernel
theorem dX11_cut_86 : decode cX11_cut 86 = .ok (.lstore 9, 2) := by decide +kernel
theorem dX11_cut_88 : decode cX11_cut 88 = .ok (.lload 9, 2) := by decide +kernel
theorem dX11_cut_90 : decode cX11_cut 90 = .ok (.ldc2_w 238, 3) := by decide +kernel
theorem dX11_cut_93 : decode cX11_cut 93 = .ok (.iload 5, 2) := by decide +kernel
theorem dX11_cut_95 : decode cX11_cut 95 = .ok (.i2l, 1) := by decide +kernel
theorem dX11_cut_96 : decode cX11_cut 96 = .ok (.lmul, 1) := by decide +kernel
theorem dX11_cut_97 : decode cX11_cut 97 = .ok (.lcmp, 1) := by decide +kernel
theorem dX11_cut_98 : decode cX11_cut 98 = .ok (.ifCond .le 19, 3) := by decide +kernel
theorem dX11_cut_101 : decode cX11_cut 101 = .ok (.aload_n 0, 1) := by decide +kernel
theorem dX11_cut_102 : decode cX11_cut 102 = .ok (.getfield 32, 3) := by decide +kernel
theorem dX11_cut_105 : decode cX11_cut 105 = .ok (.iload_n 1, 1) := by decide +kernel
theorem dX11_cut_106 : decode cX11_cut 106 = .ok (.aaload, 1) := by decide +kernel
theorem dX11_cut_107 : decode cX11_cut 107 = .ok (.iload 8, 2) := by decide +kernel
theorem dX11_cut_109 : decode cX11_cut 109 = .ok (.iconst 0, 1) := by decide +kernel
theorem dX11_cut_110 : decode cX11_cut 110 = .ok (.invokevirtual 145, 3) := by decide +kernel
theorem dX11_cut_113 : decode cX11_cut 113 = .ok (.pop, 1) := by decide +kernel
theorem dX11_cut_114 : decode cX11_cut 114 = .ok (.iinc 6 1, 3) := by decide +kernel
theorem dX11_cut_117 : decode cX11_cut 117 = .ok (.iinc 7 1, 3) := by decide +kernel
theorem dX11_cut_120 : decode cX11_cut 120 = .ok (.goto (-100), 3) := by decide +kernel
theorem dX11_cut_123 : decode cX11_cut 123 = .ok (.iload 6, 2) := by decide +kernel
theorem dX11_cut_125 : decode cX11_cut 125 = .ok (.ireturn, 1) := by decide +kernel
theorem dX11_parts_0 : decode cX11_parts 0 = .ok (.iload_n 1, 1) := by decide +kernel
theorem dX11_parts_1 : decode cX11_parts 1 = .ok (.invokestatic 102, 3) := by decide +kernel
theorem dX11_parts_4 : decode cX11_parts 4 = .ok (.ifCond .ne 5, 3) := by decide +kernel
theorem dX11_parts_7 : decode cX11_parts 7 = .ok (.iconst (-1), 1) := by decide +kernel
theorem dX11_parts_8 : decode cX11_parts 8 = .ok (.ireturn, 1) := by decide +kernel
theorem dX11_parts_9 : decode cX11_parts 9 = .ok (.aload_n 0, 1) := by decide +kernel
theorem dX11_parts_10 : decode cX11_parts 10 = .ok (.iload_n 1, 1) := by decide +kernel
theorem dX11_parts_11 : decode cX11_parts 11 = .ok (.invokevirtual 240, 3) := by decide +kernel
theorem dX11_parts_14 : decode cX11_parts 14 = .ok (.aload_n 0, 1) := by decide +kernel
theorem dX11_parts_15 : decode cX11_parts 15 = .ok (.getfield 59, 3) := by decide +kernel
theorem dX11_parts_18 : decode cX11_parts 18 = .ok (.getfield 243, 3) := by decide +kernel
theorem dX11_parts_21 : decode cX11_parts 21 = .ok (.ireturn, 1) := by decide +kernel
theorem dX11_part_0 : decode cX11_part 0 = .ok (.aload_n 0, 1) := by decide +kernel
theorem dX11_part_1 : decode cX11_part 1 = .ok (.iload_n 1, 1) := by decide +kernel
theorem dX11_part_2 : decode cX11_part 2 = .ok (.iload_n 2, 1) := by decide +kernel
theorem dX11_part_3 : decode cX11_part 3 = .ok (.iload_n 3, 1) := by decide +kernel
theorem dX11_part_4 : decode cX11_part 4 = .ok (.iload 4, 2) := by decide +kernel
theorem dX11_part_6 : decode cX11_part 6 = .ok (.invokevirtual 155, 3) := by decide +kernel
theorem dX11_part_9 : decode cX11_part 9 = .ok (.ifCond .gt 5, 3) := by decide +kernel
theorem dX11_part_12 : decode cX11_part 12 = .ok (.iconst (-1), 1) := by decide +kernel
theorem dX11_part_13 : decode cX11_part 13 = .ok (.ireturn, 1) := by decide +kernel
theorem dX11_part_14 : decode cX11_part 14 = .ok (.aload_n 0, 1) := by decide +kernel
theorem dX11_part_15 : decode cX11_part 15 = .ok (.iload_n 1, 1) := by decide +kernel
theorem dX11_part_16 : decode cX11_part 16 = .ok (.invokevirtual 240, 3) := by decide +kernel
theorem dX11_part_19 : decode cX11_part 19 = .ok (.aload_n 0, 1) := by decide +kernel
theorem dX11_part_20 : decode cX11_part 20 = .ok (.getfield 59, 3) := by decide +kernel
theorem dX11_part_23 : decode cX11_part 23 = .ok (.getfield 244, 3) := by decide +kernel
theorem dX11_part_26 : decode cX11_part 26 = .ok (.iload_n 2, 1) := by decide +kernel
theorem dX11_part_27 : decode cX11_part 27 = .ok (.iload_n 3, 1) := by decide +kernel
theorem dX11_part_28 : decode cX11_part 28 = .ok (.iload 4, 2) := by decide +kernel
theorem dX11_part_30 : decode cX11_part 30 = .ok (.invokestatic 131, 3) := by decide +kernel
theorem dX11_part_33 : decode cX11_part 33 = .ok (.iaload, 1) := by decide +kernel
theorem dX11_part_34 : decode cX11_part 34 = .ok (.ireturn, 1) := by decide +kernel
theorem dX11_partOf_0 : decode cX11_partOf 0 = .ok (.iload_n 1, 1) := by decide +kernel
theorem dX11_partOf_1 : decode cX11_partOf 1 = .ok (.invokestatic 102, 3) := by decide +kernel
theorem dX11_partOf_4 : decode cX11_partOf 4 = .ok (.ifCond .ne 5, 3) := by decide +kernel
theorem dX11_partOf_7 : decode cX11_partOf 7 = .ok (.iconst (-1), 1) := by decide +kernel
theorem dX11_partOf_8 : decode cX11_partOf 8 = .ok (.ireturn, 1) := by decide +kernel
theorem dX11_partOf_9 : decode cX11_partOf 9 = .ok (.aload_n 0, 1) := by decide +kernel
theorem dX11_partOf_10 : decode cX11_partOf 10 = .ok (.iload_n 1, 1) := by decide +kernel
theorem dX11_partOf_11 : decode cX11_partOf 11 = .ok (.invokevirtual 240, 3) := by decide +kernel
theorem dX11_partOf_14 : decode cX11_partOf 14 = .ok (.iload_n 2, 1) := by decide +kernel
theorem dX11_partOf_15 : decode cX11_partOf 15 = .ok (.ifCond .lt 14, 3) := by decide +kernel
theorem dX11_partOf_18 : decode cX11_partOf 18 = .ok (.iload_n 2, 1) := by decide +kernel
theorem dX11_partOf_19 : decode cX11_partOf 19 = .ok (.aload_n 0, 1) := by decide +kernel
theorem dX11_partOf_20 : decode cX11_partOf 20 = .ok (.getfield 59, 3) := by decide +kernel
theorem dX11_partOf_23 : decode cX11_partOf 23 = .ok (.getfield 243, 3) := by decide +kernel
theorem dX11_partOf_26 : decode cX11_partOf 26 = .ok (.if_icmp .lt 5, 3) := by decide +kernel
theorem dX11_partOf_29 : decode cX11_partOf 29 = .ok (.iconst (-1), 1) := by decide +kernel
theorem dX11_partOf_30 : decode cX11_partOf 30 = .ok (.ireturn, 1) := by decide +kernel
theorem dX11_partOf_31 : decode cX11_partOf 31 = .ok (.iload_n 3, 1) := by decide +kernel
theorem dX11_partOf_32 : decode cX11_partOf 32 = .ok (.tableswitch 88 0 3 #[32, 41, 66, 75], 32) := by decide +kernel
theorem dX11_partOf_64 : decode cX11_partOf 64 = .ok (.aload_n 0, 1) := by decide +kernel
theorem dX11_partOf_65 : decode cX11_partOf 65 = .ok (.getfield 59, 3) := by decide +kernel
theorem dX11_partOf_68 : decode cX11_partOf 68 = .ok (.iload_n 2, 1) := by decide +kernel
theorem dX11_partOf_69 : decode cX11_partOf 69 = .ok (.invokevirtual 247, 3) := by decide +kernel
theorem dX11_partOf_72 : decode cX11_partOf 72 = .ok (.ireturn, 1) := by decide +kernel
theorem dX11_partOf_73 : decode cX11_partOf 73 = .ok (.aload_n 0, 1) := by decide +kernel
theorem dX11_partOf_74 : decode cX11_partOf 74 = .ok (.getfield 59, 3) := by decide +kernel
theorem dX11_partOf_77 : decode cX11_partOf 77 = .ok (.iload_n 2, 1) := by decide +kernel
theorem dX11_partOf_78 : decode cX11_partOf 78 = .ok (.aload_n 0, 1) := by decide +kernel
theorem dX11_partOf_79 : decode cX11_partOf 79 = .ok (.getfield 49, 3) := by decide +kernel
theorem dX11_partOf_82 : decode cX11_partOf 82 = .ok (.aload_n 0, 1) := by decide +kernel
theorem dX11_partOf_83 : decode cX11_partOf 83 = .ok (.getfield 19, 3) := by decide +kernel
theorem dX11_partOf_86 : decode cX11_partOf 86 = .ok (.invokevirtual 250, 3) := by decide +kernel
theorem dX11_partOf_89 : decode cX11_partOf 89 = .ok (.ifCond .eq 7, 3) := by decide +kernel
theorem dX11_partOf_92 : decode cX11_partOf 92 = .ok (.iconst 1, 1) := by decide +kernel
theorem dX11_partOf_93 : decode cX11_partOf 93 = .ok (.goto 4, 3) := by decide +kernel
theorem dX11_partOf_96 : decode cX11_partOf 96 = .ok (.iconst 0, 1) := by decide +kernel
theorem dX11_partOf_97 : decode cX11_partOf 97 = .ok (.ireturn, 1) := by decide +kernel
theorem dX11_partOf_98 : decode cX11_partOf 98 = .ok (.aload_n 0, 1) := by decide +kernel
theorem dX11_partOf_99 : decode cX11_partOf 99 = .ok (.getfield 59, 3) := by decide +kernel
theorem dX11_partOf_102 : decode cX11_partOf 102 = .ok (.iload_n 2, 1) := by decide +kernel
theorem dX11_partOf_103 : decode cX11_partOf 103 = .ok (.invokevirtual 254, 3) := by decide +kernel
theorem dX11_partOf_106 : decode cX11_partOf 106 = .ok (.ireturn, 1) := by decide +kernel
theorem dX11_partOf_107 : decode cX11_partOf 107 = .ok (.aload_n 0, 1) := by decide +kernel
theorem dX11_partOf_108 : decode cX11_partOf 108 = .ok (.getfield 59, 3) := by decide +kernel
theorem dX11_partOf_111 : decode cX11_partOf 111 = .ok (.iload_n 2, 1) := by decide +kernel
theorem dX11_partOf_112 : decode cX11_partOf 112 = .ok (.aload_n 0, 1) := by decide +kernel
theorem dX11_partOf_113 : decode cX11_partOf 113 = .ok (.getfield 49, 3) := by decide +kernel
theorem dX11_partOf_116 : decode cX11_partOf 116 = .ok (.invokevirtual 257, 3) := by decide +kernel
theorem dX11_partOf_119 : decode cX11_partOf 119 = .ok (.ireturn, 1) := by decide +kernel
theorem dX11_partOf_120 : decode cX11_partOf 120 = .ok (.iconst (-1), 1) := by decide +kernel
theorem dX11_partOf_121 : decode cX11_partOf 121 = .ok (.ireturn, 1) := by decide +kernel
theorem dX11_settle_0 : decode cX11_settle 0 = .ok (.iload_n 1, 1) := by decide +kernel
theorem dX11_settle_1 : decode cX11_settle 1 = .ok (.invokestatic 102, 3) := by decide +kernel
theorem dX11_settle_4 : decode cX11_settle 4 = .ok (.ifCond .ne 5, 3) := by decide +kernel
theorem dX11_settle_7 : decode cX11_settle 7 = .ok (.iconst (-1), 1) := by decide +kernel
theorem dX11_settle_8 : decode cX11_settle 8 = .ok (.ireturn, 1) := by decide +kernel
theorem dX11_settle_9 : decode cX11_settle 9 = .ok (.aload_n 0, 1) := by decide +kernel
theorem dX11_settle_10 : decode cX11_settle 10 = .ok (.getfield 49, 3) := by decide +kernel
theorem dX11_settle_13 : decode cX11_settle 13 = .ok (.aload_n 0, 1) := by decide +kernel
theorem dX11_settle_14 : decode cX11_settle 14 = .ok (.getfield 32, 3) := by decide +kernel
theorem dX11_settle_17 : decode cX11_settle 17 = .ok (.iload_n 1, 1) := by decide +kernel
theorem dX11_settle_18 : decode cX11_settle 18 = .ok (.aaload, 1) := by decide +kernel
theorem dX11_settle_19 : decode cX11_settle 19 = .ok (.invokevirtual 261, 3) := by decide +kernel
theorem dX11_settle_22 : decode cX11_settle 22 = .ok (.aload_n 0, 1) := by decide +kernel
theorem dX11_settle_23 : decode cX11_settle 23 = .ok (.iconst 0, 1) := by decide +kernel
theorem dX11_settle_24 : decode cX11_settle 24 = .ok (.putfield 84, 3) := by decide +kernel
theorem dX11_settle_27 : decode cX11_settle 27 = .ok (.iconst 0, 1) := by decide +kernel
theorem dX11_settle_28 : decode cX11_settle 28 = .ok (.istore_n 2, 1) := by decide +kernel
theorem dX11_settle_29 : decode cX11_settle 29 = .ok (.iload_n 2, 1) := by decide +kernel
theorem dX11_settle_30 : decode cX11_settle 30 = .ok (.sipush 10000, 3) := by decide +kernel
theorem dX11_settle_33 : decode cX11_settle 33 = .ok (.if_icmp .ge 92, 3) := by decide +kernel
theorem dX11_settle_36 : decode cX11_settle 36 = .ok (.aload_n 0, 1) := by decide +kernel
theorem dX11_settle_37 : decode cX11_settle 37 = .ok (.getfield 59, 3) := by decide +kernel
theorem dX11_settle_40 : decode cX11_settle 40 = .ok (.aload_n 0, 1) := by decide +kernel
theorem dX11_settle_41 : decode cX11_settle 41 = .ok (.getfield 49, 3) := by decide +kernel
theorem dX11_settle_44 : decode cX11_settle 44 = .ok (.invokevirtual 264, 3) := by decide +kernel
theorem dX11_settle_47 : decode cX11_settle 47 = .ok (.aload_n 0, 1) := by decide +kernel
theorem dX11_settle_48 : decode cX11_settle 48 = .ok (.getfield 59, 3) := by decide +kernel
theorem dX11_settle_51 : decode cX11_settle 51 = .ok (.aload_n 0, 1) := by decide +kernel
theorem dX11_settle_52 : decode cX11_settle 52 = .ok (.getfield 49, 3) := by decide +kernel
theorem dX11_settle_55 : decode cX11_settle 55 = .ok (.aload_n 0, 1) := by decide +kernel
theorem dX11_settle_56 : decode cX11_settle 56 = .ok (.getfield 19, 3) := by decide +kernel
theorem dX11_settle_59 : decode cX11_settle 59 = .ok (.invokevirtual 268, 3) := by decide +kernel
theorem dX11_settle_62 : decode cX11_settle 62 = .ok (.istore_n 3, 1) := by decide +kernel
theorem dX11_settle_63 : decode cX11_settle 63 = .ok (.iload_n 3, 1) := by decide +kernel
theorem dX11_settle_64 : decode cX11_settle 64 = .ok (.iconst (-1), 1) := by decide +kernel
theorem dX11_settle_65 : decode cX11_settle 65 = .ok (.if_icmp .ne 6, 3) := by decide +kernel
theorem dX11_settle_68 : decode cX11_settle 68 = .ok (.goto 57, 3) := by decide +kernel
theorem dX11_settle_71 : decode cX11_settle 71 = .ok (.aload_n 0, 1) := by decide +kernel
theorem dX11_settle_72 : decode cX11_settle 72 = .ok (.getfield 59, 3) := by decide +kernel
theorem dX11_settle_75 : decode cX11_settle 75 = .ok (.iload_n 3, 1) := by decide +kernel
theorem dX11_settle_76 : decode cX11_settle 76 = .ok (.aload_n 0, 1) := by decide +kernel
theorem dX11_settle_77 : decode cX11_settle 77 = .ok (.getfield 49, 3) := by decide +kernel
theorem dX11_settle_80 : decode cX11_settle 80 = .ok (.invokevirtual 257, 3) := by decide +kernel
theorem dX11_settle_83 : decode cX11_settle 83 = .ok (.istore 4, 2) := by decide +kernel
theorem dX11_settle_85 : decode cX11_settle 85 = .ok (.aload_n 0, 1) := by decide +kernel
theorem dX11_settle_86 : decode cX11_settle 86 = .ok (.aload_n 0, 1) := by decide +kernel
theorem dX11_settle_87 : decode cX11_settle 87 = .ok (.getfield 59, 3) := by decide +kernel
theorem dX11_settle_90 : decode cX11_settle 90 = .ok (.iload_n 3, 1) := by decide +kernel
theorem dX11_settle_91 : decode cX11_settle 91 = .ok (.invokevirtual 254, 3) := by decide +kernel
theorem dX11_settle_94 : decode cX11_settle 94 = .ok (.iload 4, 2) := by decide +kernel
theorem dX11_settle_96 : decode cX11_settle 96 = .ok (.invokevirtual 272, 3) := by decide +kernel
theorem dX11_settle_99 : decode cX11_settle 99 = .ok (.aload_n 0, 1) := by decide +kernel
theorem dX11_settle_100 : decode cX11_settle 100 = .ok (.getfield 59, 3) := by decide +kernel
theorem dX11_settle_103 : decode cX11_settle 103 = .ok (.iload_n 3, 1) := by decide +kernel
theorem dX11_settle_104 : decode cX11_settle 104 = .ok (.iload 4, 2) := by decide +kernel
theorem dX11_settle_106 : decode cX11_settle 106 = .ok (.aload_n 0, 1) := by decide +kernel
theorem dX11_settle_107 : decode cX11_settle 107 = .ok (.getfield 49, 3) := by decide +kernel
theorem dX11_settle_110 : decode cX11_settle 110 = .ok (.aload_n 0, 1) := by decide +kernel
theorem dX11_settle_111 : decode cX11_settle 111 = .ok (.getfield 32, 3) := by decide +kernel
theorem dX11_settle_114 : decode cX11_settle 114 = .ok (.iload_n 1, 1) := by decide +kernel
theorem dX11_settle_115 : decode cX11_settle 115 = .ok (.aaload, 1) := by decide +kernel
theorem dX11_settle_116 : decode cX11_settle 116 = .ok (.invokevirtual 276, 3) := by decide +kernel
theorem dX11_settle_119 : decode cX11_settle 119 = .ok (.iinc 2 1, 3) := by decide +kernel
theorem dX11_settle_122 : decode cX11_settle 122 = .ok (.goto (-93), 3) := by decide +kernel
theorem dX11_settle_125 : decode cX11_settle 125 = .ok (.aload_n 0, 1) := by decide +kernel
theorem dX11_settle_126 : decode cX11_settle 126 = .ok (.getfield 84, 3) := by decide +kernel
theorem dX11_settle_129 : decode cX11_settle 129 = .ok (.ireturn, 1) := by decide +kernel
theorem dX11_fallen_0 : decode cX11_fallen 0 = .ok (.iload_n 1, 1) := by decide +kernel
theorem dX11_fallen_1 : decode cX11_fallen 1 = .ok (.ifCond .lt 26, 3) := by decide +kernel
theorem dX11_fallen_4 : decode cX11_fallen 4 = .ok (.iload_n 1, 1) := by decide +kernel
theorem dX11_fallen_5 : decode cX11_fallen 5 = .ok (.aload_n 0, 1) := by decide +kernel
theorem dX11_fallen_6 : decode cX11_fallen 6 = .ok (.getfield 84, 3) := by decide +kernel
theorem dX11_fallen_9 : decode cX11_fallen 9 = .ok (.if_icmp .ge 18, 3) := by decide +kernel
theorem dX11_fallen_12 : decode cX11_fallen 12 = .ok (.iload_n 1, 1) := by decide +kernel
theorem dX11_fallen_13 : decode cX11_fallen 13 = .ok (.bipush 60, 2) := by decide +kernel
theorem dX11_fallen_15 : decode cX11_fallen 15 = .ok (.if_icmp .ge 12, 3) := by decide +kernel
theorem dX11_fallen_18 : decode cX11_fallen 18 = .ok (.iload_n 2, 1) := by decide +kernel
theorem dX11_fallen_19 : decode cX11_fallen 19 = .ok (.ifCond .lt 8, 3) := by decide +kernel
theorem dX11_fallen_22 : decode cX11_fallen 22 = .ok (.iload_n 2, 1) := by decide +kernel
theorem dX11_fallen_23 : decode cX11_fallen 23 = .ok (.iconst 1, 1) := by decide +kernel
theorem dX11_fallen_24 : decode cX11_fallen 24 = .ok (.if_icmp .le 11, 3) := by decide +kernel
theorem dX11_fallen_27 : decode cX11_fallen 27 = .ok (.new 280, 3) := by decide +kernel
theorem dX11_fallen_30 : decode cX11_fallen 30 = .ok (.dup, 1) := by decide +kernel
theorem dX11_fallen_31 : decode cX11_fallen 31 = .ok (.invokespecial 282, 3) := by decide +kernel
theorem dX11_fallen_34 : decode cX11_fallen 34 = .ok (.athrow, 1) := by decide +kernel
theorem dX11_fallen_35 : decode cX11_fallen 35 = .ok (.iload_n 2, 1) := by decide +kernel
theorem dX11_fallen_36 : decode cX11_fallen 36 = .ok (.ifCond .ne 12, 3) := by decide +kernel
theorem dX11_fallen_39 : decode cX11_fallen 39 = .ok (.aload_n 0, 1) := by decide +kernel
theorem dX11_fallen_40 : decode cX11_fallen 40 = .ok (.getfield 77, 3) := by decide +kernel
theorem dX11_fallen_43 : decode cX11_fallen 43 = .ok (.iload_n 1, 1) := by decide +kernel
theorem dX11_fallen_44 : decode cX11_fallen 44 = .ok (.iaload, 1) := by decide +kernel
theorem dX11_fallen_45 : decode cX11_fallen 45 = .ok (.goto 9, 3) := by decide +kernel
theorem dX11_fallen_48 : decode cX11_fallen 48 = .ok (.aload_n 0, 1) := by decide +kernel
theorem dX11_fallen_49 : decode cX11_fallen 49 = .ok (.getfield 81, 3) := by decide +kernel
theorem dX11_fallen_52 : decode cX11_fallen 52 = .ok (.iload_n 1, 1) := by decide +kernel
theorem dX11_fallen_53 : decode cX11_fallen 53 = .ok (.iaload, 1) := by decide +kernel
theorem dX11_fallen_54 : decode cX11_fallen 54 = .ok (.ireturn, 1) := by decide +kernel
theorem dX11_load_0 : decode cX11_load 0 = .ok (.aload_n 0, 1) := by decide +kernel
theorem dX11_load_1 : decode cX11_load 1 = .ok (.iload_n 1, 1) := by decide +kernel
theorem dX11_load_2 : decode cX11_load 2 = .ok (.iload_n 2, 1) := by decide +kernel
theorem dX11_load_3 : decode cX11_load 3 = .ok (.iload_n 3, 1) := by decide +kernel
theorem dX11_load_4 : decode cX11_load 4 = .ok (.iload 4, 2) := by decide +kernel
theorem dX11_load_6 : decode cX11_load 6 = .ok (.invokevirtual 155, 3) := by decide +kernel
theorem dX11_load_9 : decode cX11_load 9 = .ok (.ifCond .gt 5, 3) := by decide +kernel
theorem dX11_load_12 : decode cX11_load 12 = .ok (.iconst (-1), 1) := by decide +kernel
theorem dX11_load_13 : decode cX11_load 13 = .ok (.ireturn, 1) := by decide +kernel
theorem dX11_load_14 : decode cX11_load 14 = .ok (.aload_n 0, 1) := by decide +kernel
theorem dX11_load_15 : decode cX11_load 15 = .ok (.getfield 49, 3) := by decide +kernel
theorem dX11_load_18 : decode cX11_load 18 = .ok (.aload_n 0, 1) := by decide +kernel
theorem dX11_load_19 : decode cX11_load 19 = .ok (.getfield 32, 3) := by decide +kernel
theorem dX11_load_22 : decode cX11_load 22 = .ok (.iload_n 1, 1) := by decide +kernel
theorem dX11_load_23 : decode cX11_load 23 = .ok (.aaload, 1) := by decide +kernel
theorem dX11_load_24 : decode cX11_load 24 = .ok (.invokevirtual 261, 3) := by decide +kernel
theorem dX11_load_27 : decode cX11_load 27 = .ok (.aload_n 0, 1) := by decide +kernel
theorem dX11_load_28 : decode cX11_load 28 = .ok (.getfield 19, 3) := by decide +kernel
theorem dX11_load_31 : decode cX11_load 31 = .ok (.iload_n 2, 1) := by decide +kernel
theorem dX11_load_32 : decode cX11_load 32 = .ok (.iload_n 3, 1) := by decide +kernel
theorem dX11_load_33 : decode cX11_load 33 = .ok (.iload 4, 2) := by decide +kernel
theorem dX11_load_35 : decode cX11_load 35 = .ok (.invokestatic 131, 3) := by decide +kernel
theorem dX11_load_38 : decode cX11_load 38 = .ok (.aload_n 0, 1) := by decide +kernel
theorem dX11_load_39 : decode cX11_load 39 = .ok (.getfield 49, 3) := by decide +kernel
theorem dX11_load_42 : decode cX11_load 42 = .ok (.invokevirtual 283, 3) := by decide +kernel
theorem dX11_load_45 : decode cX11_load 45 = .ok (.ireturn, 1) := by decide +kernel
theorem dX11_overloaded_0 : decode cX11_overloaded 0 = .ok (.iload_n 1, 1) := by decide +kernel
theorem dX11_overloaded_1 : decode cX11_overloaded 1 = .ok (.invokestatic 102, 3) := by decide +kernel
theorem dX11_overloaded_4 : decode cX11_overloaded 4 = .ok (.ifCond .ne 5, 3) := by decide +kernel
theorem dX11_overloaded_7 : decode cX11_overloaded 7 = .ok (.iconst (-1), 1) := by decide +kernel
theorem dX11_overloaded_8 : decode cX11_overloaded 8 = .ok (.ireturn, 1) := by decide +kernel
theorem dX11_overloaded_9 : decode cX11_overloaded 9 = .ok (.aload_n 0, 1) := by decide +kernel
theorem dX11_overloaded_10 : decode cX11_overloaded 10 = .ok (.getfield 49, 3) := by decide +kernel
theorem dX11_overloaded_13 : decode cX11_overloaded 13 = .ok (.aload_n 0, 1) := by decide +kernel
theorem dX11_overloaded_14 : decode cX11_overloaded 14 = .ok (.getfield 32, 3) := by decide +kernel
theorem dX11_overloaded_17 : decode cX11_overloaded 17 = .ok (.iload_n 1, 1) := by decide +kernel
theorem dX11_overloaded_18 : decode cX11_overloaded 18 = .ok (.aaload, 1) := by decide +kernel
theorem dX11_overloaded_19 : decode cX11_overloaded 19 = .ok (.invokevirtual 261, 3) := by decide +kernel
theorem dX11_overloaded_22 : decode cX11_overloaded 22 = .ok (.iconst 0, 1) := by decide +kernel
theorem dX11_overloaded_23 : decode cX11_overloaded 23 = .ok (.istore_n 2, 1) := by decide +kernel
theorem dX11_overloaded_24 : decode cX11_overloaded 24 = .ok (.iconst 0, 1) := by decide +kernel
theorem dX11_overloaded_25 : decode cX11_overloaded 25 = .ok (.istore_n 3, 1) := by decide +kernel
theorem dX11_overloaded_26 : decode cX11_overloaded 26 = .ok (.iload_n 3, 1) := by decide +kernel
theorem dX11_overloaded_27 : decode cX11_overloaded 27 = .ok (.aload_n 0, 1) := by decide +kernel
theorem dX11_overloaded_28 : decode cX11_overloaded 28 = .ok (.getfield 49, 3) := by decide +kernel
theorem dX11_overloaded_31 : decode cX11_overloaded 31 = .ok (.getfield 205, 3) := by decide +kernel
theorem dX11_overloaded_34 : decode cX11_overloaded 34 = .ok (.if_icmp .ge 58, 3) := by decide +kernel
theorem dX11_overloaded_37 : decode cX11_overloaded 37 = .ok (.aload_n 0, 1) := by decide +kernel
theorem dX11_overloaded_38 : decode cX11_overloaded 38 = .ok (.getfield 49, 3) := by decide +kernel
theorem dX11_overloaded_41 : decode cX11_overloaded 41 = .ok (.getfield 208, 3) := by decide +kernel
theorem dX11_overloaded_44 : decode cX11_overloaded 44 = .ok (.iload_n 3, 1) := by decide +kernel
theorem dX11_overloaded_45 : decode cX11_overloaded 45 = .ok (.iaload, 1) := by decide +kernel
theorem dX11_overloaded_46 : decode cX11_overloaded 46 = .ok (.istore 4, 2) := by decide +kernel
theorem dX11_overloaded_48 : decode cX11_overloaded 48 = .ok (.aload_n 0, 1) := by decide +kernel
theorem dX11_overloaded_49 : decode cX11_overloaded 49 = .ok (.getfield 19, 3) := by decide +kernel
theorem dX11_overloaded_52 : decode cX11_overloaded 52 = .ok (.iload 4, 2) := by decide +kernel
theorem dX11_overloaded_54 : decode cX11_overloaded 54 = .ok (.aload_n 0, 1) := by decide +kernel
theorem dX11_overloaded_55 : decode cX11_overloaded 55 = .ok (.getfield 49, 3) := by decide +kernel
theorem dX11_overloaded_58 : decode cX11_overloaded 58 = .ok (.invokevirtual 283, 3) := by decide +kernel
theorem dX11_overloaded_61 : decode cX11_overloaded 61 = .ok (.aload_n 0, 1) := by decide +kernel
theorem dX11_overloaded_62 : decode cX11_overloaded 62 = .ok (.getfield 19, 3) := by decide +kernel
theorem dX11_overloaded_65 : decode cX11_overloaded 65 = .ok (.aload_n 0, 1) := by decide +kernel
theorem dX11_overloaded_66 : decode cX11_overloaded 66 = .ok (.getfield 49, 3) := by decide +kernel
theorem dX11_overloaded_69 : decode cX11_overloaded 69 = .ok (.iload 4, 2) := by decide +kernel
theorem dX11_overloaded_71 : decode cX11_overloaded 71 = .ok (.invokevirtual 220, 3) := by decide +kernel
theorem dX11_overloaded_74 : decode cX11_overloaded 74 = .ok (.invokestatic 149, 3) := by decide +kernel
theorem dX11_overloaded_77 : decode cX11_overloaded 77 = .ok (.invokevirtual 286, 3) := by decide +kernel
theorem dX11_overloaded_80 : decode cX11_overloaded 80 = .ok (.if_icmp .le 6, 3) := by decide +kernel
theorem dX11_overloaded_83 : decode cX11_overloaded 83 = .ok (.iinc 2 1, 3) := by decide +kernel
theorem dX11_overloaded_86 : decode cX11_overloaded 86 = .ok (.iinc 3 1, 3) := by decide +kernel
theorem dX11_overloaded_89 : decode cX11_overloaded 89 = .ok (.goto (-63), 3) := by decide +kernel
theorem dX11_overloaded_92 : decode cX11_overloaded 92 = .ok (.iload_n 2, 1) := by decide +kernel
theorem dX11_overloaded_93 : decode cX11_overloaded 93 = .ok (.ireturn, 1) := by decide +kernel
theorem dX11_light_0 : decode cX11_light 0 = .ok (.aload_n 0, 1) := by decide +kernel
theorem dX11_light_1 : decode cX11_light 1 = .ok (.iload_n 1, 1) := by decide +kernel
theorem dX11_light_2 : decode cX11_light 2 = .ok (.iload_n 2, 1) := by decide +kernel
theorem dX11_light_3 : decode cX11_light 3 = .ok (.iload_n 3, 1) := by decide +kernel
theorem dX11_light_4 : decode cX11_light 4 = .ok (.iload 4, 2) := by decide +kernel
theorem dX11_light_6 : decode cX11_light 6 = .ok (.invokevirtual 155, 3) := by decide +kernel
theorem dX11_light_9 : decode cX11_light 9 = .ok (.iconst (-1), 1) := by decide +kernel
theorem dX11_light_10 : decode cX11_light 10 = .ok (.if_icmp .ne 5, 3) := by decide +kernel
theorem dX11_light_13 : decode cX11_light 13 = .ok (.iconst (-1), 1) := by decide +kernel
theorem dX11_light_14 : decode cX11_light 14 = .ok (.ireturn, 1) := by decide +kernel
theorem dX11_light_15 : decode cX11_light 15 = .ok (.aload_n 0, 1) := by decide +kernel
theorem dX11_light_16 : decode cX11_light 16 = .ok (.getfield 49, 3) := by decide +kernel
theorem dX11_light_19 : decode cX11_light 19 = .ok (.aload_n 0, 1) := by decide +kernel
theorem dX11_light_20 : decode cX11_light 20 = .ok (.getfield 32, 3) := by decide +kernel
theorem dX11_light_23 : decode cX11_light 23 = .ok (.iload_n 1, 1) := by decide +kernel
theorem dX11_light_24 : decode cX11_light 24 = .ok (.aaload, 1) := by decide +kernel
theorem dX11_light_25 : decode cX11_light 25 = .ok (.invokevirtual 261, 3) := by decide +kernel
theorem dX11_light_28 : decode cX11_light 28 = .ok (.aload_n 0, 1) := by decide +kernel
theorem dX11_light_29 : decode cX11_light 29 = .ok (.getfield 66, 3) := by decide +kernel
theorem dX11_light_32 : decode cX11_light 32 = .ok (.aload_n 0, 1) := by decide +kernel
theorem dX11_light_33 : decode cX11_light 33 = .ok (.getfield 49, 3) := by decide +kernel
theorem dX11_light_36 : decode cX11_light 36 = .ok (.aload_n 0, 1) := by decide +kernel
theorem dX11_light_37 : decode cX11_light 37 = .ok (.getfield 19, 3) := by decide +kernel
theorem dX11_light_40 : decode cX11_light 40 = .ok (.invokevirtual 289, 3) := by decide +kernel
theorem dX11_light_43 : decode cX11_light 43 = .ok (.aload_n 0, 1) := by decide +kernel
theorem dX11_light_44 : decode cX11_light 44 = .ok (.getfield 66, 3) := by decide +kernel
theorem dX11_light_47 : decode cX11_light 47 = .ok (.getfield 293, 3) := by decide +kernel
theorem dX11_light_50 : decode cX11_light 50 = .ok (.iload_n 2, 1) := by decide +kernel
theorem dX11_light_51 : decode cX11_light 51 = .ok (.iload_n 3, 1) := by decide +kernel
theorem dX11_light_52 : decode cX11_light 52 = .ok (.iload 4, 2) := by decide +kernel
theorem dX11_light_54 : decode cX11_light 54 = .ok (.invokestatic 131, 3) := by decide +kernel
theorem dX11_light_57 : decode cX11_light 57 = .ok (.iaload, 1) := by decide +kernel
theorem dX11_light_58 : decode cX11_light 58 = .ok (.ireturn, 1) := by decide +kernel
theorem dX11_dark_0 : decode cX11_dark 0 = .ok (.iload_n 1, 1) := by decide +kernel
theorem dX11_dark_1 : decode cX11_dark 1 = .ok (.invokestatic 102, 3) := by decide +kernel
theorem dX11_dark_4 : decode cX11_dark 4 = .ok (.ifCond .ne 5, 3) := by decide +kernel
theorem dX11_dark_7 : decode cX11_dark 7 = .ok (.iconst (-1), 1) := by decide +kernel
theorem dX11_dark_8 : decode cX11_dark 8 = .ok (.ireturn, 1) := by decide +kernel
theorem dX11_dark_9 : decode cX11_dark 9 = .ok (.aload_n 0, 1) := by decide +kernel
theorem dX11_dark_10 : decode cX11_dark 10 = .ok (.getfield 49, 3) := by decide +kernel
theorem dX11_dark_13 : decode cX11_dark 13 = .ok (.aload_n 0, 1) := by decide +kernel
theorem dX11_dark_14 : decode cX11_dark 14 = .ok (.getfield 32, 3) := by decide +kernel
theorem dX11_dark_17 : decode cX11_dark 17 = .ok (.iload_n 1, 1) := by decide +kernel
theorem dX11_dark_18 : decode cX11_dark 18 = .ok (.aaload, 1) := by decide +kernel
theorem dX11_dark_19 : decode cX11_dark 19 = .ok (.invokevirtual 261, 3) := by decide +kernel
theorem dX11_dark_22 : decode cX11_dark 22 = .ok (.aload_n 0, 1) := by decide +kernel
theorem dX11_dark_23 : decode cX11_dark 23 = .ok (.getfield 66, 3) := by decide +kernel
theorem dX11_dark_26 : decode cX11_dark 26 = .ok (.aload_n 0, 1) := by decide +kernel
theorem dX11_dark_27 : decode cX11_dark 27 = .ok (.getfield 49, 3) := by decide +kernel
theorem dX11_dark_30 : decode cX11_dark 30 = .ok (.aload_n 0, 1) := by decide +kernel
theorem dX11_dark_31 : decode cX11_dark 31 = .ok (.getfield 19, 3) := by decide +kernel
theorem dX11_dark_34 : decode cX11_dark 34 = .ok (.invokevirtual 289, 3) := by decide +kernel
theorem dX11_dark_37 : decode cX11_dark 37 = .ok (.iconst 0, 1) := by decide +kernel
theorem dX11_dark_38 : decode cX11_dark 38 = .ok (.istore_n 3, 1) := by decide +kernel
theorem dX11_dark_39 : decode cX11_dark 39 = .ok (.iconst 0, 1) := by decide +kernel
theorem dX11_dark_40 : decode cX11_dark 40 = .ok (.istore 4, 2) := by decide +kernel
theorem dX11_dark_42 : decode cX11_dark 42 = .ok (.iload 4, 2) := by decide +kernel
theorem dX11_dark_44 : decode cX11_dark 44 = .ok (.sipush 1000, 3) := by decide +kernel
theorem dX11_dark_47 : decode cX11_dark 47 = .ok (.if_icmp .ge 38, 3) := by decide +kernel
theorem dX11_dark_50 : decode cX11_dark 50 = .ok (.aload_n 0, 1) := by decide +kernel
theorem dX11_dark_51 : decode cX11_dark 51 = .ok (.getfield 49, 3) := by decide +kernel
theorem dX11_dark_54 : decode cX11_dark 54 = .ok (.iload 4, 2) := by decide +kernel
theorem dX11_dark_56 : decode cX11_dark 56 = .ok (.invokevirtual 220, 3) := by decide +kernel
theorem dX11_dark_59 : decode cX11_dark 59 = .ok (.ifCond .ne 20, 3) := by decide +kernel
theorem dX11_dark_62 : decode cX11_dark 62 = .ok (.aload_n 0, 1) := by decide +kernel
theorem dX11_dark_63 : decode cX11_dark 63 = .ok (.getfield 66, 3) := by decide +kernel
theorem dX11_dark_66 : decode cX11_dark 66 = .ok (.getfield 293, 3) := by decide +kernel
theorem dX11_dark_69 : decode cX11_dark 69 = .ok (.iload 4, 2) := by decide +kernel
theorem dX11_dark_71 : decode cX11_dark 71 = .ok (.iaload, 1) := by decide +kernel
theorem dX11_dark_72 : decode cX11_dark 72 = .ok (.iload_n 2, 1) := by decide +kernel
theorem dX11_dark_73 : decode cX11_dark 73 = .ok (.if_icmp .ge 6, 3) := by decide +kernel
theorem dX11_dark_76 : decode cX11_dark 76 = .ok (.iinc 3 1, 3) := by decide +kernel
theorem dX11_dark_79 : decode cX11_dark 79 = .ok (.iinc 4 1, 3) := by decide +kernel
theorem dX11_dark_82 : decode cX11_dark 82 = .ok (.goto (-40), 3) := by decide +kernel
theorem dX11_dark_85 : decode cX11_dark 85 = .ok (.iload_n 3, 1) := by decide +kernel
theorem dX11_dark_86 : decode cX11_dark 86 = .ok (.ireturn, 1) := by decide +kernel
theorem dX11_faces_0 : decode cX11_faces 0 = .ok (.iload_n 1, 1) := by decide +kernel
theorem dX11_faces_1 : decode cX11_faces 1 = .ok (.invokestatic 102, 3) := by decide +kernel
theorem dX11_faces_4 : decode cX11_faces 4 = .ok (.ifCond .ne 5, 3) := by decide +kernel
theorem dX11_faces_7 : decode cX11_faces 7 = .ok (.iconst (-1), 1) := by decide +kernel
theorem dX11_faces_8 : decode cX11_faces 8 = .ok (.ireturn, 1) := by decide +kernel
theorem dX11_faces_9 : decode cX11_faces 9 = .ok (.aload_n 0, 1) := by decide +kernel
theorem dX11_faces_10 : decode cX11_faces 10 = .ok (.getfield 49, 3) := by decide +kernel
theorem dX11_faces_13 : decode cX11_faces 13 = .ok (.aload_n 0, 1) := by decide +kernel
theorem dX11_faces_14 : decode cX11_faces 14 = .ok (.getfield 32, 3) := by decide +kernel
theorem dX11_faces_17 : decode cX11_faces 17 = .ok (.iload_n 1, 1) := by decide +kernel
theorem dX11_faces_18 : decode cX11_faces 18 = .ok (.aaload, 1) := by decide +kernel
theorem dX11_faces_19 : decode cX11_faces 19 = .ok (.invokevirtual 261, 3) := by decide +kernel
theorem dX11_faces_22 : decode cX11_faces 22 = .ok (.iconst 0, 1) := by decide +kernel
theorem dX11_faces_23 : decode cX11_faces 23 = .ok (.istore_n 2, 1) := by decide +kernel
theorem dX11_faces_24 : decode cX11_faces 24 = .ok (.iconst 0, 1) := by decide +kernel
theorem dX11_faces_25 : decode cX11_faces 25 = .ok (.istore_n 3, 1) := by decide +kernel
theorem dX11_faces_26 : decode cX11_faces 26 = .ok (.iload_n 3, 1) := by decide +kernel
theorem dX11_faces_27 : decode cX11_faces 27 = .ok (.aload_n 0, 1) := by decide +kernel
theorem dX11_faces_28 : decode cX11_faces 28 = .ok (.getfield 49, 3) := by decide +kernel
theorem dX11_faces_31 : decode cX11_faces 31 = .ok (.getfield 205, 3) := by decide +kernel
theorem dX11_faces_34 : decode cX11_faces 34 = .ok (.if_icmp .ge 28, 3) := by decide +kernel
theorem dX11_faces_37 : decode cX11_faces 37 = .ok (.iload_n 2, 1) := by decide +kernel
theorem dX11_faces_38 : decode cX11_faces 38 = .ok (.aload_n 0, 1) := by decide +kernel
theorem dX11_faces_39 : decode cX11_faces 39 = .ok (.getfield 49, 3) := by decide +kernel
theorem dX11_faces_42 : decode cX11_faces 42 = .ok (.aload_n 0, 1) := by decide +kernel
theorem dX11_faces_43 : decode cX11_faces 43 = .ok (.getfield 49, 3) := by decide +kernel
theorem dX11_faces_46 : decode cX11_faces 46 = .ok (.getfield 208, 3) := by decide +kernel
theorem dX11_faces_49 : decode cX11_faces 49 = .ok (.iload_n 3, 1) := by decide +kernel
theorem dX11_faces_50 : decode cX11_faces 50 = .ok (.iaload, 1) := by decide +kernel
theorem dX11_faces_51 : decode cX11_faces 51 = .ok (.invokevirtual 211, 3) := by decide +kernel
theorem dX11_faces_54 : decode cX11_faces 54 = .ok (.iadd, 1) := by decide +kernel
theorem dX11_faces_55 : decode cX11_faces 55 = .ok (.istore_n 2, 1) := by decide +kernel
theorem dX11_faces_56 : decode cX11_faces 56 = .ok (.iinc 3 1, 3) := by decide +kernel
theorem dX11_faces_59 : decode cX11_faces 59 = .ok (.goto (-33), 3) := by decide +kernel
theorem dX11_faces_62 : decode cX11_faces 62 = .ok (.iload_n 2, 1) := by decide +kernel
theorem dX11_faces_63 : decode cX11_faces 63 = .ok (.ireturn, 1) := by decide +kernel
theorem dX11_path_0 : decode cX11_path 0 = .ok (.iload_n 1, 1) := by decide +kernel
theorem dX11_path_1 : decode cX11_path 1 = .ok (.invokestatic 102, 3) := by decide +kernel
theorem dX11_path_4 : decode cX11_path 4 = .ok (.ifCond .ne 5, 3) := by decide +kernel
theorem dX11_path_7 : decode cX11_path 7 = .ok (.iconst (-1), 1) := by decide +kernel
theorem dX11_path_8 : decode cX11_path 8 = .ok (.ireturn, 1) := by decide +kernel
theorem dX11_path_9 : decode cX11_path 9 = .ok (.aload_n 0, 1) := by decide +kernel
theorem dX11_path_10 : decode cX11_path 10 = .ok (.getfield 49, 3) := by decide +kernel
theorem dX11_path_13 : decode cX11_path 13 = .ok (.aload_n 0, 1) := by decide +kernel
theorem dX11_path_14 : decode cX11_path 14 = .ok (.getfield 32, 3) := by decide +kernel
theorem dX11_path_17 : decode cX11_path 17 = .ok (.iload_n 1, 1) := by decide +kernel
theorem dX11_path_18 : decode cX11_path 18 = .ok (.aaload, 1) := by decide +kernel
theorem dX11_path_19 : decode cX11_path 19 = .ok (.invokevirtual 261, 3) := by decide +kernel
theorem dX11_path_22 : decode cX11_path 22 = .ok (.aload_n 0, 1) := by decide +kernel
theorem dX11_path_23 : decode cX11_path 23 = .ok (.getfield 73, 3) := by decide +kernel
theorem dX11_path_26 : decode cX11_path 26 = .ok (.aload_n 0, 1) := by decide +kernel
theorem dX11_path_27 : decode cX11_path 27 = .ok (.getfield 49, 3) := by decide +kernel
theorem dX11_path_30 : decode cX11_path 30 = .ok (.iload_n 2, 1) := by decide +kernel
theorem dX11_path_31 : decode cX11_path 31 = .ok (.iload_n 3, 1) := by decide +kernel
theorem dX11_path_32 : decode cX11_path 32 = .ok (.invokevirtual 296, 3) := by decide +kernel
theorem dX11_path_35 : decode cX11_path 35 = .ok (.ireturn, 1) := by decide +kernel
theorem dX11_places_0 : decode cX11_places 0 = .ok (.iload_n 1, 1) := by decide +kernel
theorem dX11_places_1 : decode cX11_places 1 = .ok (.invokestatic 102, 3) := by decide +kernel
theorem dX11_places_4 : decode cX11_places 4 = .ok (.ifCond .eq 10, 3) := by decide +kernel
theorem dX11_places_7 : decode cX11_places 7 = .ok (.iload_n 2, 1) := by decide +kernel
theorem dX11_places_8 : decode cX11_places 8 = .ok (.invokestatic 102, 3) := by decide +kernel
theorem dX11_places_11 : decode cX11_places 11 = .ok (.ifCond .ne 5, 3) := by decide +kernel
theorem dX11_places_14 : decode cX11_places 14 = .ok (.iconst (-1), 1) := by decide +kernel
theorem dX11_places_15 : decode cX11_places 15 = .ok (.ireturn, 1) := by decide +kernel
theorem dX11_places_16 : decode cX11_places 16 = .ok (.aload_n 0, 1) := by decide +kernel
theorem dX11_places_17 : decode cX11_places 17 = .ok (.iload_n 1, 1) := by decide +kernel
theorem dX11_places_18 : decode cX11_places 18 = .ok (.iload_n 2, 1) := by decide +kernel
theorem dX11_places_19 : decode cX11_places 19 = .ok (.iconst (-1), 1) := by decide +kernel
theorem dX11_places_20 : decode cX11_places 20 = .ok (.invokevirtual 300, 3) := by decide +kernel
theorem dX11_places_23 : decode cX11_places 23 = .ok (.ireturn, 1) := by decide +kernel
theorem dX11_place_0 : decode cX11_place 0 = .ok (.iload_n 1, 1) := by decide +kernel
theorem dX11_place_1 : decode cX11_place 1 = .ok (.invokestatic 102, 3) := by decide +kernel
theorem dX11_place_4 : decode cX11_place 4 = .ok (.ifCond .eq 14, 3) := by decide +kernel
theorem dX11_place_7 : decode cX11_place 7 = .ok (.iload_n 2, 1) := by decide +kernel
theorem dX11_place_8 : decode cX11_place 8 = .ok (.invokestatic 102, 3) := by decide +kernel
theorem dX11_place_11 : decode cX11_place 11 = .ok (.ifCond .eq 7, 3) := by decide +kernel
theorem dX11_place_14 : decode cX11_place 14 = .ok (.iload_n 3, 1) := by decide +kernel
theorem dX11_place_15 : decode cX11_place 15 = .ok (.ifCond .ge 5, 3) := by decide +kernel
theorem dX11_place_18 : decode cX11_place 18 = .ok (.iconst (-1), 1) := by decide +kernel
theorem dX11_place_19 : decode cX11_place 19 = .ok (.ireturn, 1) := by decide +kernel
theorem dX11_place_20 : decode cX11_place 20 = .ok (.aload_n 0, 1) := by decide +kernel
theorem dX11_place_21 : decode cX11_place 21 = .ok (.iload_n 1, 1) := by decide +kernel
theorem dX11_place_22 : decode cX11_place 22 = .ok (.iload_n 2, 1) := by decide +kernel
theorem dX11_place_23 : decode cX11_place 23 = .ok (.iload_n 3, 1) := by decide +kernel
theorem dX11_place_24 : decode cX11_place 24 = .ok (.invokevirtual 300, 3) := by decide +kernel
theorem dX11_place_27 : decode cX11_place 27 = .ok (.ireturn, 1) := by decide +kernel
theorem dX11_differs_0 : decode cX11_differs 0 = .ok (.iload_n 1, 1) := by decide +kernel
theorem dX11_differs_1 : decode cX11_differs 1 = .ok (.invokestatic 102, 3) := by decide +kernel
theorem dX11_differs_4 : decode cX11_differs 4 = .ok (.ifCond .eq 10, 3) := by decide +kernel
theorem dX11_differs_7 : decode cX11_differs 7 = .ok (.iload_n 2, 1) := by decide +kernel
theorem dX11_differs_8 : decode cX11_differs 8 = .ok (.invokestatic 102, 3) := by decide +kernel
theorem dX11_differs_11 : decode cX11_differs 11 = .ok (.ifCond .ne 5, 3) := by decide +kernel
theorem dX11_differs_14 : decode cX11_differs 14 = .ok (.iconst (-1), 1) := by decide +kernel
theorem dX11_differs_15 : decode cX11_differs 15 = .ok (.ireturn, 1) := by decide +kernel
theorem dX11_differs_16 : decode cX11_differs 16 = .ok (.iconst 0, 1) := by decide +kernel
theorem dX11_differs_17 : decode cX11_differs 17 = .ok (.istore_n 3, 1) := by decide +kernel
theorem dX11_differs_18 : decode cX11_differs 18 = .ok (.iconst 0, 1) := by decide +kernel
theorem dX11_differs_19 : decode cX11_differs 19 = .ok (.istore 4, 2) := by decide +kernel
theorem dX11_differs_21 : decode cX11_differs 21 = .ok (.iload 4, 2) := by decide +kernel
theorem dX11_differs_23 : decode cX11_differs 23 = .ok (.sipush 1000, 3) := by decide +kernel
theorem dX11_differs_26 : decode cX11_differs 26 = .ok (.if_icmp .ge 37, 3) := by decide +kernel
theorem dX11_differs_29 : decode cX11_differs 29 = .ok (.aload_n 0, 1) := by decide +kernel
theorem dX11_differs_30 : decode cX11_differs 30 = .ok (.getfield 32, 3) := by decide +kernel
theorem dX11_differs_33 : decode cX11_differs 33 = .ok (.iload_n 1, 1) := by decide +kernel
theorem dX11_differs_34 : decode cX11_differs 34 = .ok (.aaload, 1) := by decide +kernel
theorem dX11_differs_35 : decode cX11_differs 35 = .ok (.iload 4, 2) := by decide +kernel
theorem dX11_differs_37 : decode cX11_differs 37 = .ok (.invokevirtual 135, 3) := by decide +kernel
theorem dX11_differs_40 : decode cX11_differs 40 = .ok (.aload_n 0, 1) := by decide +kernel
theorem dX11_differs_41 : decode cX11_differs 41 = .ok (.getfield 32, 3) := by decide +kernel
theorem dX11_differs_44 : decode cX11_differs 44 = .ok (.iload_n 2, 1) := by decide +kernel
theorem dX11_differs_45 : decode cX11_differs 45 = .ok (.aaload, 1) := by decide +kernel
theorem dX11_differs_46 : decode cX11_differs 46 = .ok (.iload 4, 2) := by decide +kernel
theorem dX11_differs_48 : decode cX11_differs 48 = .ok (.invokevirtual 135, 3) := by decide +kernel
theorem dX11_differs_51 : decode cX11_differs 51 = .ok (.if_icmp .eq 6, 3) := by decide +kernel
theorem dX11_differs_54 : decode cX11_differs 54 = .ok (.iinc 3 1, 3) := by decide +kernel
theorem dX11_differs_57 : decode cX11_differs 57 = .ok (.iinc 4 1, 3) := by decide +kernel
theorem dX11_differs_60 : decode cX11_differs 60 = .ok (.goto (-39), 3) := by decide +kernel
theorem dX11_differs_63 : decode cX11_differs 63 = .ok (.iload_n 3, 1) := by decide +kernel
theorem dX11_differs_64 : decode cX11_differs 64 = .ok (.ireturn, 1) := by decide +kernel
theorem dX11_isYard_0 : decode cX11_isYard 0 = .ok (.iload_n 0, 1) := by decide +kernel
theorem dX11_isYard_1 : decode cX11_isYard 1 = .ok (.ifCond .lt 12, 3) := by decide +kernel
theorem dX11_isYard_4 : decode cX11_isYard 4 = .ok (.iload_n 0, 1) := by decide +kernel
theorem dX11_isYard_5 : decode cX11_isYard 5 = .ok (.iconst 4, 1) := by decide +kernel
theorem dX11_isYard_6 : decode cX11_isYard 6 = .ok (.if_icmp .ge 7, 3) := by decide +kernel
theorem dX11_isYard_9 : decode cX11_isYard 9 = .ok (.iconst 1, 1) := by decide +kernel
theorem dX11_isYard_10 : decode cX11_isYard 10 = .ok (.goto 4, 3) := by decide +kernel
theorem dX11_isYard_13 : decode cX11_isYard 13 = .ok (.iconst 0, 1) := by decide +kernel
theorem dX11_isYard_14 : decode cX11_isYard 14 = .ok (.ireturn, 1) := by decide +kernel
theorem dX11_isSlot_0 : decode cX11_isSlot 0 = .ok (.iload_n 0, 1) := by decide +kernel
theorem dX11_isSlot_1 : decode cX11_isSlot 1 = .ok (.ifCond .lt 13, 3) := by decide +kernel
theorem dX11_isSlot_4 : decode cX11_isSlot 4 = .ok (.iload_n 0, 1) := by decide +kernel
theorem dX11_isSlot_5 : decode cX11_isSlot 5 = .ok (.bipush 12, 2) := by decide +kernel
theorem dX11_isSlot_7 : decode cX11_isSlot 7 = .ok (.if_icmp .ge 7, 3) := by decide +kernel
theorem dX11_isSlot_10 : decode cX11_isSlot 10 = .ok (.iconst 1, 1) := by decide +kernel
theorem dX11_isSlot_11 : decode cX11_isSlot 11 = .ok (.goto 4, 3) := by decide +kernel
theorem dX11_isSlot_14 : decode cX11_isSlot 14 = .ok (.iconst 0, 1) := by decide +kernel
theorem dX11_isSlot_15 : decode cX11_isSlot 15 = .ok (.ireturn, 1) := by decide +kernel
theorem dX11_isPlace_0 : decode cX11_isPlace 0 = .ok (.iload_n 0, 1) := by decide +kernel
theorem dX11_isPlace_1 : decode cX11_isPlace 1 = .ok (.ifCond .lt 13, 3) := by decide +kernel
theorem dX11_isPlace_4 : decode cX11_isPlace 4 = .ok (.iload_n 0, 1) := by decide +kernel
theorem dX11_isPlace_5 : decode cX11_isPlace 5 = .ok (.bipush 10, 2) := by decide +kernel
theorem dX11_isPlace_7 : decode cX11_isPlace 7 = .ok (.if_icmp .ge 7, 3) := by decide +kernel
theorem dX11_isPlace_10 : decode cX11_isPlace 10 = .ok (.iconst 1, 1) := by decide +kernel
theorem dX11_isPlace_11 : decode cX11_isPlace 11 = .ok (.goto 4, 3) := by decide +kernel
theorem dX11_isPlace_14 : decode cX11_isPlace 14 = .ok (.iconst 0, 1) := by decide +kernel
theorem dX11_isPlace_15 : decode cX11_isPlace 15 = .ok (.ireturn, 1) := by decide +kernel
theorem dX11_isCell_0 : decode cX11_isCell 0 = .ok (.iload_n 0, 1) := by decide +kernel
theorem dX11_isCell_1 : decode cX11_isCell 1 = .ok (.ifCond .lt 14, 3) := by decide +kernel
theorem dX11_isCell_4 : decode cX11_isCell 4 = .ok (.iload_n 0, 1) := by decide +kernel
theorem dX11_isCell_5 : decode cX11_isCell 5 = .ok (.sipush 1000, 3) := by decide +kernel
theorem dX11_isCell_8 : decode cX11_isCell 8 = .ok (.if_icmp .ge 7, 3) := by decide +kernel
theorem dX11_isCell_11 : decode cX11_isCell 11 = .ok (.iconst 1, 1) := by decide +kernel
theorem dX11_isCell_12 : decode cX11_isCell 12 = .ok (.goto 4, 3) := by decide +kernel
theorem dX11_isCell_15 : decode cX11_isCell 15 = .ok (.iconst 0, 1) := by decide +kernel
theorem dX11_isCell_16 : decode cX11_isCell 16 = .ok (.ireturn, 1) := by decide +kernel
theorem dX11_cellOf_0 : decode cX11_cellOf 0 = .ok (.bipush 100, 2) := by decide +kernel
theorem dX11_cellOf_2 : decode cX11_cellOf 2 = .ok (.iload_n 0, 1) := by decide +kernel
theorem dX11_cellOf_3 : decode cX11_cellOf 3 = .ok (.imul, 1) := by decide +kernel
theorem dX11_cellOf_4 : decode cX11_cellOf 4 = .ok (.bipush 10, 2) := by decide +kernel
theorem dX11_cellOf_6 : decode cX11_cellOf 6 = .ok (.iload_n 1, 1) := by decide +kernel
theorem dX11_cellOf_7 : decode cX11_cellOf 7 = .ok (.imul, 1) := by decide +kernel
theorem dX11_cellOf_8 : decode cX11_cellOf 8 = .ok (.iadd, 1) := by decide +kernel
theorem dX11_cellOf_9 : decode cX11_cellOf 9 = .ok (.iload_n 2, 1) := by decide +kernel
theorem dX11_cellOf_10 : decode cX11_cellOf 10 = .ok (.iadd, 1) := by decide +kernel
theorem dX11_cellOf_11 : decode cX11_cellOf 11 = .ok (.ireturn, 1) := by decide +kernel
theorem dX11_zOf_0 : decode cX11_zOf 0 = .ok (.iload_n 0, 1) := by decide +kernel
theorem dX11_zOf_1 : decode cX11_zOf 1 = .ok (.bipush 100, 2) := by decide +kernel
theorem dX11_zOf_3 : decode cX11_zOf 3 = .ok (.idiv, 1) := by decide +kernel
theorem dX11_zOf_4 : decode cX11_zOf 4 = .ok (.ireturn, 1) := by decide +kernel
theorem dX11_xOf_0 : decode cX11_xOf 0 = .ok (.iload_n 0, 1) := by decide +kernel
theorem dX11_xOf_1 : decode cX11_xOf 1 = .ok (.bipush 10, 2) := by decide +kernel
theorem dX11_xOf_3 : decode cX11_xOf 3 = .ok (.idiv, 1) := by decide +kernel
theorem dX11_xOf_4 : decode cX11_xOf 4 = .ok (.bipush 10, 2) := by decide +kernel
theorem dX11_xOf_6 : decode cX11_xOf 6 = .ok (.irem, 1) := by decide +kernel
theorem dX11_xOf_7 : decode cX11_xOf 7 = .ok (.ireturn, 1) := by decide +kernel
theorem dX11_wOf_0 : decode cX11_wOf 0 = .ok (.iload_n 0, 1) := by decide +kernel
theorem dX11_wOf_1 : decode cX11_wOf 1 = .ok (.bipush 10, 2) := by decide +kernel
theorem dX11_wOf_3 : decode cX11_wOf 3 = .ok (.irem, 1) := by decide +kernel
theorem dX11_wOf_4 : decode cX11_wOf 4 = .ok (.ireturn, 1) := by decide +kernel
theorem dX11_strideOf_0 : decode cX11_strideOf 0 = .ok (.iload_n 0, 1) := by decide +kernel
theorem dX11_strideOf_1 : decode cX11_strideOf 1 = .ok (.ifCond .ne 8, 3) := by decide +kernel
theorem dX11_strideOf_4 : decode cX11_strideOf 4 = .ok (.bipush 100, 2) := by decide +kernel
theorem dX11_strideOf_6 : decode cX11_strideOf 6 = .ok (.goto 14, 3) := by decide +kernel
theorem dX11_strideOf_9 : decode cX11_strideOf 9 = .ok (.iload_n 0, 1) := by decide +kernel
theorem dX11_strideOf_10 : decode cX11_strideOf 10 = .ok (.iconst 1, 1) := by decide +kernel
theorem dX11_strideOf_11 : decode cX11_strideOf 11 = .ok (.if_icmp .ne 8, 3) := by decide +kernel
theorem dX11_strideOf_14 : decode cX11_strideOf 14 = .ok (.bipush 10, 2) := by decide +kernel
theorem dX11_strideOf_16 : decode cX11_strideOf 16 = .ok (.goto 4, 3) := by decide +kernel
theorem dX11_strideOf_19 : decode cX11_strideOf 19 = .ok (.iconst 1, 1) := by decide +kernel
theorem dX11_strideOf_20 : decode cX11_strideOf 20 = .ok (.ireturn, 1) := by decide +kernel
theorem dX11_along_0 : decode cX11_along 0 = .ok (.iload_n 0, 1) := by decide +kernel
theorem dX11_along_1 : decode cX11_along 1 = .ok (.ifCond .ne 10, 3) := by decide +kernel
theorem dX11_along_4 : decode cX11_along 4 = .ok (.iload_n 1, 1) := by decide +kernel
theorem dX11_along_5 : decode cX11_along 5 = .ok (.invokestatic 229, 3) := by decide +kernel
theorem dX11_along_8 : decode cX11_along 8 = .ok (.goto 19, 3) := by decide +kernel
theorem dX11_along_11 : decode cX11_along 11 = .ok (.iload_n 0, 1) := by decide +kernel
theorem dX11_along_12 : decode cX11_along 12 = .ok (.iconst 1, 1) := by decide +kernel
theorem dX11_along_13 : decode cX11_along 13 = .ok (.if_icmp .ne 10, 3) := by decide +kernel
theorem dX11_along_16 : decode cX11_along 16 = .ok (.iload_n 1, 1) := by decide +kernel
theorem dX11_along_17 : decode cX11_along 17 = .ok (.invokestatic 232, 3) := by decide +kernel
theorem dX11_along_20 : decode cX11_along 20 = .ok (.goto 7, 3) := by decide +kernel
theorem dX11_along_23 : decode cX11_along 23 = .ok (.iload_n 1, 1) := by decide +kernel
theorem dX11_along_24 : decode cX11_along 24 = .ok (.invokestatic 235, 3) := by decide +kernel
theorem dX11_along_27 : decode cX11_along 27 = .ok (.ireturn, 1) := by decide +kernel
theorem dX11_codeOf_0 : decode cX11_codeOf 0 = .ok (.iload_n 0, 1) := by decide +kernel
theorem dX11_codeOf_1 : decode cX11_codeOf 1 = .ok (.ifCond .ne 7, 3) := by decide +kernel
theorem dX11_codeOf_4 : decode cX11_codeOf 4 = .ok (.iconst 0, 1) := by decide +kernel
theorem dX11_codeOf_5 : decode cX11_codeOf 5 = .ok (.goto 9, 3) := by decide +kernel
theorem dX11_codeOf_8 : decode cX11_codeOf 8 = .ok (.bipush 24, 2) := by decide +kernel
theorem dX11_codeOf_10 : decode cX11_codeOf 10 = .ok (.iload_n 0, 1) := by decide +kernel
theorem dX11_codeOf_11 : decode cX11_codeOf 11 = .ok (.imul, 1) := by decide +kernel
theorem dX11_codeOf_12 : decode cX11_codeOf 12 = .ok (.iload_n 1, 1) := by decide +kernel
theorem dX11_codeOf_13 : decode cX11_codeOf 13 = .ok (.iadd, 1) := by decide +kernel
theorem dX11_codeOf_14 : decode cX11_codeOf 14 = .ok (.ireturn, 1) := by decide +kernel
theorem dX11_kindOf_0 : decode cX11_kindOf 0 = .ok (.iload_n 0, 1) := by decide +kernel
theorem dX11_kindOf_1 : decode cX11_kindOf 1 = .ok (.bipush 24, 2) := by decide +kernel
theorem dX11_kindOf_3 : decode cX11_kindOf 3 = .ok (.idiv, 1) := by decide +kernel
theorem dX11_kindOf_4 : decode cX11_kindOf 4 = .ok (.ireturn, 1) := by decide +kernel
theorem dX11_turnOf_0 : decode cX11_turnOf 0 = .ok (.iload_n 0, 1) := by decide +kernel
theorem dX11_turnOf_1 : decode cX11_turnOf 1 = .ok (.bipush 24, 2) := by decide +kernel
theorem dX11_turnOf_3 : decode cX11_turnOf 3 = .ok (.irem, 1) := by decide +kernel
theorem dX11_turnOf_4 : decode cX11_turnOf 4 = .ok (.ireturn, 1) := by decide +kernel
theorem dX11_tellShift_0 : decode cX11_tellShift 0 = .ok (.sipush 10000, 3) := by decide +kernel
theorem dX11_tellShift_3 : decode cX11_tellShift 3 = .ok (.iload_n 0, 1) := by decide +kernel
theorem dX11_tellShift_4 : decode cX11_tellShift 4 = .ok (.bipush 9, 2) := by decide +kernel
theorem dX11_tellShift_6 : decode cX11_tellShift 6 = .ok (.iadd, 1) := by decide +kernel
theorem dX11_tellShift_7 : decode cX11_tellShift 7 = .ok (.imul, 1) := by decide +kernel
theorem dX11_tellShift_8 : decode cX11_tellShift 8 = .ok (.bipush 100, 2) := by decide +kernel
theorem dX11_tellShift_10 : decode cX11_tellShift 10 = .ok (.iload_n 1, 1) := by decide +kernel
theorem dX11_tellShift_11 : decode cX11_tellShift 11 = .ok (.bipush 9, 2) := by decide +kernel
theorem dX11_tellShift_13 : decode cX11_tellShift 13 = .ok (.iadd, 1) := by decide +kernel
theorem dX11_tellShift_14 : decode cX11_tellShift 14 = .ok (.imul, 1) := by decide +kernel
theorem dX11_tellShift_15 : decode cX11_tellShift 15 = .ok (.iadd, 1) := by decide +kernel
theorem dX11_tellShift_16 : decode cX11_tellShift 16 = .ok (.iload_n 2, 1) := by decide +kernel
theorem dX11_tellShift_17 : decode cX11_tellShift 17 = .ok (.iadd, 1) := by decide +kernel
theorem dX11_tellShift_18 : decode cX11_tellShift 18 = .ok (.bipush 9, 2) := by decide +kernel
theorem dX11_tellShift_20 : decode cX11_tellShift 20 = .ok (.iadd, 1) := by decide +kernel
theorem dX11_tellShift_21 : decode cX11_tellShift 21 = .ok (.ireturn, 1) := by decide +kernel
theorem dX11_isShift_0 : decode cX11_isShift 0 = .ok (.iload_n 0, 1) := by decide +kernel
theorem dX11_isShift_1 : decode cX11_isShift 1 = .ok (.ifCond .lt 38, 3) := by decide +kernel
theorem dX11_isShift_4 : decode cX11_isShift 4 = .ok (.iload_n 0, 1) := by decide +kernel
theorem dX11_isShift_5 : decode cX11_isShift 5 = .ok (.sipush 10000, 3) := by decide +kernel
theorem dX11_isShift_8 : decode cX11_isShift 8 = .ok (.idiv, 1) := by decide +kernel
theorem dX11_isShift_9 : decode cX11_isShift 9 = .ok (.bipush 18, 2) := by decide +kernel
theorem dX11_isShift_11 : decode cX11_isShift 11 = .ok (.if_icmp .gt 28, 3) := by decide +kernel
theorem dX11_isShift_14 : decode cX11_isShift 14 = .ok (.iload_n 0, 1) := by decide +kernel
theorem dX11_isShift_15 : decode cX11_isShift 15 = .ok (.bipush 100, 2) := by decide +kernel
theorem dX11_isShift_17 : decode cX11_isShift 17 = .ok (.idiv, 1) := by decide +kernel
theorem dX11_isShift_18 : decode cX11_isShift 18 = .ok (.bipush 100, 2) := by decide +kernel
theorem dX11_isShift_20 : decode cX11_isShift 20 = .ok (.irem, 1) := by decide +kernel
theorem dX11_isShift_21 : decode cX11_isShift 21 = .ok (.bipush 18, 2) := by decide +kernel
theorem dX11_isShift_23 : decode cX11_isShift 23 = .ok (.if_icmp .gt 16, 3) := by decide +kernel
theorem dX11_isShift_26 : decode cX11_isShift 26 = .ok (.iload_n 0, 1) := by decide +kernel
theorem dX11_isShift_27 : decode cX11_isShift 27 = .ok (.bipush 100, 2) := by decide +kernel
theorem dX11_isShift_29 : decode cX11_isShift 29 = .ok (.irem, 1) := by decide +kernel
theorem dX11_isShift_30 : decode cX11_isShift 30 = .ok (.bipush 18, 2) := by decide +kernel
theorem dX11_isShift_32 : decode cX11_isShift 32 = .ok (.if_icmp .gt 7, 3) := by decide +kernel
theorem dX11_isShift_35 : decode cX11_isShift 35 = .ok (.iconst 1, 1) := by decide +kernel
theorem dX11_isShift_36 : decode cX11_isShift 36 = .ok (.goto 4, 3) := by decide +kernel
theorem dX11_isShift_39 : decode cX11_isShift 39 = .ok (.iconst 0, 1) := by decide +kernel
theorem dX11_isShift_40 : decode cX11_isShift 40 = .ok (.ireturn, 1) := by decide +kernel
theorem dX11_furtherBy_0 : decode cX11_furtherBy 0 = .ok (.iload_n 1, 1) := by decide +kernel
theorem dX11_furtherBy_1 : decode cX11_furtherBy 1 = .ok (.invokestatic 229, 3) := by decide +kernel
theorem dX11_furtherBy_4 : decode cX11_furtherBy 4 = .ok (.iload_n 0, 1) := by decide +kernel
theorem dX11_furtherBy_5 : decode cX11_furtherBy 5 = .ok (.sipush 10000, 3) := by decide +kernel
theorem dX11_furtherBy_8 : decode cX11_furtherBy 8 = .ok (.idiv, 1) := by decide +kernel
theorem dX11_furtherBy_9 : decode cX11_furtherBy 9 = .ok (.iadd, 1) := by decide +kernel
theorem dX11_furtherBy_10 : decode cX11_furtherBy 10 = .ok (.bipush 9, 2) := by decide +kernel
theorem dX11_furtherBy_12 : decode cX11_furtherBy 12 = .ok (.isub, 1) := by decide +kernel
theorem dX11_furtherBy_13 : decode cX11_furtherBy 13 = .ok (.istore_n 2, 1) := by decide +kernel
theorem dX11_furtherBy_14 : decode cX11_furtherBy 14 = .ok (.iload_n 1, 1) := by decide +kernel
theorem dX11_furtherBy_15 : decode cX11_furtherBy 15 = .ok (.invokestatic 232, 3) := by decide +kernel
theorem dX11_furtherBy_18 : decode cX11_furtherBy 18 = .ok (.iload_n 0, 1) := by decide +kernel
theorem dX11_furtherBy_19 : decode cX11_furtherBy 19 = .ok (.bipush 100, 2) := by decide +kernel
theorem dX11_furtherBy_21 : decode cX11_furtherBy 21 = .ok (.idiv, 1) := by decide +kernel
theorem dX11_furtherBy_22 : decode cX11_furtherBy 22 = .ok (.bipush 100, 2) := by decide +kernel
theorem dX11_furtherBy_24 : decode cX11_furtherBy 24 = .ok (.irem, 1) := by decide +kernel
theorem dX11_furtherBy_25 : decode cX11_furtherBy 25 = .ok (.iadd, 1) := by decide +kernel
theorem dX11_furtherBy_26 : decode cX11_furtherBy 26 = .ok (.bipush 9, 2) := by decide +kernel
theorem dX11_furtherBy_28 : decode cX11_furtherBy 28 = .ok (.isub, 1) := by decide +kernel
theorem dX11_furtherBy_29 : decode cX11_furtherBy 29 = .ok (.istore_n 3, 1) := by decide +kernel
theorem dX11_furtherBy_30 : decode cX11_furtherBy 30 = .ok (.iload_n 1, 1) := by decide +kernel
theorem dX11_furtherBy_31 : decode cX11_furtherBy 31 = .ok (.invokestatic 235, 3) := by decide +kernel
theorem dX11_furtherBy_34 : decode cX11_furtherBy 34 = .ok (.iload_n 0, 1) := by decide +kernel
theorem dX11_furtherBy_35 : decode cX11_furtherBy 35 = .ok (.bipush 100, 2) := by decide +kernel
theorem dX11_furtherBy_37 : decode cX11_furtherBy 37 = .ok (.irem, 1) := by decide +kernel
theorem dX11_furtherBy_38 : decode cX11_furtherBy 38 = .ok (.iadd, 1) := by decide +kernel
theorem dX11_furtherBy_39 : decode cX11_furtherBy 39 = .ok (.bipush 9, 2) := by decide +kernel
theorem dX11_furtherBy_41 : decode cX11_furtherBy 41 = .ok (.isub, 1) := by decide +kernel
theorem dX11_furtherBy_42 : decode cX11_furtherBy 42 = .ok (.istore 4, 2) := by decide +kernel
theorem dX11_furtherBy_44 : decode cX11_furtherBy 44 = .ok (.iload_n 2, 1) := by decide +kernel
theorem dX11_furtherBy_45 : decode cX11_furtherBy 45 = .ok (.invokestatic 105, 3) := by decide +kernel
theorem dX11_furtherBy_48 : decode cX11_furtherBy 48 = .ok (.ifCond .eq 28, 3) := by decide +kernel
theorem dX11_furtherBy_51 : decode cX11_furtherBy 51 = .ok (.iload_n 3, 1) := by decide +kernel
theorem dX11_furtherBy_52 : decode cX11_furtherBy 52 = .ok (.invokestatic 105, 3) := by decide +kernel
theorem dX11_furtherBy_55 : decode cX11_furtherBy 55 = .ok (.ifCond .eq 21, 3) := by decide +kernel
theorem dX11_furtherBy_58 : decode cX11_furtherBy 58 = .ok (.iload 4, 2) := by decide +kernel
theorem dX11_furtherBy_60 : decode cX11_furtherBy 60 = .ok (.invokestatic 105, 3) := by decide +kernel
theorem dX11_furtherBy_63 : decode cX11_furtherBy 63 = .ok (.ifCond .eq 13, 3) := by decide +kernel
theorem dX11_furtherBy_66 : decode cX11_furtherBy 66 = .ok (.iload_n 2, 1) := by decide +kernel
theorem dX11_furtherBy_67 : decode cX11_furtherBy 67 = .ok (.iload_n 3, 1) := by decide +kernel
theorem dX11_furtherBy_68 : decode cX11_furtherBy 68 = .ok (.iload 4, 2) := by decide +kernel
theorem dX11_furtherBy_70 : decode cX11_furtherBy 70 = .ok (.invokestatic 131, 3) := by decide +kernel
theorem dX11_furtherBy_73 : decode cX11_furtherBy 73 = .ok (.goto 4, 3) := by decide +kernel
theorem dX11_furtherBy_76 : decode cX11_furtherBy 76 = .ok (.iconst (-1), 1) := by decide +kernel
theorem dX11_furtherBy_77 : decode cX11_furtherBy 77 = .ok (.ireturn, 1) := by decide +kernel
theorem dX11_codeIn_0 : decode cX11_codeIn 0 = .ok (.aload_n 0, 1) := by decide +kernel
theorem dX11_codeIn_1 : decode cX11_codeIn 1 = .ok (.iload_n 1, 1) := by decide +kernel
theorem dX11_codeIn_2 : decode cX11_codeIn 2 = .ok (.iload_n 2, 1) := by decide +kernel
theorem dX11_codeIn_3 : decode cX11_codeIn 3 = .ok (.iload_n 3, 1) := by decide +kernel
theorem dX11_codeIn_4 : decode cX11_codeIn 4 = .ok (.iload 4, 2) := by decide +kernel
theorem dX11_codeIn_6 : decode cX11_codeIn 6 = .ok (.invokevirtual 124, 3) := by decide +kernel
theorem dX11_codeIn_9 : decode cX11_codeIn 9 = .ok (.ifCond .ne 22, 3) := by decide +kernel
theorem dX11_codeIn_12 : decode cX11_codeIn 12 = .ok (.aload_n 0, 1) := by decide +kernel
theorem dX11_codeIn_13 : decode cX11_codeIn 13 = .ok (.getfield 32, 3) := by decide +kernel
theorem dX11_codeIn_16 : decode cX11_codeIn 16 = .ok (.iload_n 1, 1) := by decide +kernel
theorem dX11_codeIn_17 : decode cX11_codeIn 17 = .ok (.aaload, 1) := by decide +kernel
theorem dX11_codeIn_18 : decode cX11_codeIn 18 = .ok (.iload_n 2, 1) := by decide +kernel
theorem dX11_codeIn_19 : decode cX11_codeIn 19 = .ok (.iload_n 3, 1) := by decide +kernel
theorem dX11_codeIn_20 : decode cX11_codeIn 20 = .ok (.iload 4, 2) := by decide +kernel
theorem dX11_codeIn_22 : decode cX11_codeIn 22 = .ok (.invokestatic 131, 3) := by decide +kernel
theorem dX11_codeIn_25 : decode cX11_codeIn 25 = .ok (.invokevirtual 135, 3) := by decide +kernel
theorem dX11_codeIn_28 : decode cX11_codeIn 28 = .ok (.goto 4, 3) := by decide +kernel
theorem dX11_codeIn_31 : decode cX11_codeIn 31 = .ok (.iconst (-1), 1) := by decide +kernel
theorem dX11_codeIn_32 : decode cX11_codeIn 32 = .ok (.ireturn, 1) := by decide +kernel
theorem dX11_slotsKeeping_0 : decode cX11_slotsKeeping 0 = .ok (.iconst 0, 1) := by decide +kernel
theorem dX11_slotsKeeping_1 : decode cX11_slotsKeeping 1 = .ok (.istore_n 1, 1) := by decide +kernel
theorem dX11_slotsKeeping_2 : decode cX11_slotsKeeping 2 = .ok (.iconst 0, 1) := by decide +kernel
theorem dX11_slotsKeeping_3 : decode cX11_slotsKeeping 3 = .ok (.istore_n 2, 1) := by decide +kernel
theorem dX11_slotsKeeping_4 : decode cX11_slotsKeeping 4 = .ok (.iload_n 2, 1) := by decide +kernel
theorem dX11_slotsKeeping_5 : decode cX11_slotsKeeping 5 = .ok (.bipush 12, 2) := by decide +kernel
theorem dX11_slotsKeeping_7 : decode cX11_slotsKeeping 7 = .ok (.if_icmp .ge 21, 3) := by decide +kernel
theorem dX11_slotsKeeping_10 : decode cX11_slotsKeeping 10 = .ok (.aload_n 0, 1) := by decide +kernel
theorem dX11_slotsKeeping_11 : decode cX11_slotsKeeping 11 = .ok (.getfield 42, 3) := by decide +kernel
theorem dX11_slotsKeeping_14 : decode cX11_slotsKeeping 14 = .ok (.iload_n 2, 1) := by decide +kernel
theorem dX11_slotsKeeping_15 : decode cX11_slotsKeeping 15 = .ok (.baload, 1) := by decide +kernel
theorem dX11_slotsKeeping_16 : decode cX11_slotsKeeping 16 = .ok (.ifCond .eq 6, 3) := by decide +kernel
theorem dX11_slotsKeeping_19 : decode cX11_slotsKeeping 19 = .ok (.iinc 1 1, 3) := by decide +kernel
theorem dX11_slotsKeeping_22 : decode cX11_slotsKeeping 22 = .ok (.iinc 2 1, 3) := by decide +kernel
theorem dX11_slotsKeeping_25 : decode cX11_slotsKeeping 25 = .ok (.goto (-21), 3) := by decide +kernel
theorem dX11_slotsKeeping_28 : decode cX11_slotsKeeping 28 = .ok (.iload_n 1, 1) := by decide +kernel
theorem dX11_slotsKeeping_29 : decode cX11_slotsKeeping 29 = .ok (.ireturn, 1) := by decide +kernel
theorem dX11_readBox_0 : decode cX11_readBox 0 = .ok (.aload_n 0, 1) := by decide +kernel
theorem dX11_readBox_1 : decode cX11_readBox 1 = .ok (.getfield 49, 3) := by decide +kernel
theorem dX11_readBox_4 : decode cX11_readBox 4 = .ok (.aload_n 0, 1) := by decide +kernel
theorem dX11_readBox_5 : decode cX11_readBox 5 = .ok (.getfield 32, 3) := by decide +kernel
theorem dX11_readBox_8 : decode cX11_readBox 8 = .ok (.iload_n 1, 1) := by decide +kernel
theorem dX11_readBox_9 : decode cX11_readBox 9 = .ok (.aaload, 1) := by decide +kernel
theorem dX11_readBox_10 : decode cX11_readBox 10 = .ok (.invokevirtual 261, 3) := by decide +kernel
theorem dX11_readBox_13 : decode cX11_readBox 13 = .ok (.aload_n 0, 1) := by decide +kernel
theorem dX11_readBox_14 : decode cX11_readBox 14 = .ok (.getfield 49, 3) := by decide +kernel
theorem dX11_readBox_17 : decode cX11_readBox 17 = .ok (.aload_n 0, 1) := by decide +kernel
theorem dX11_readBox_18 : decode cX11_readBox 18 = .ok (.getfield 26, 3) := by decide +kernel
theorem dX11_readBox_21 : decode cX11_readBox 21 = .ok (.invokevirtual 303, 3) := by decide +kernel
theorem dX11_readBox_24 : decode cX11_readBox 24 = .ok (.return_, 1) := by decide +kernel
theorem dX11_findParts_0 : decode cX11_findParts 0 = .ok (.aload_n 0, 1) := by decide +kernel
theorem dX11_findParts_1 : decode cX11_findParts 1 = .ok (.getfield 49, 3) := by decide +kernel
theorem dX11_findParts_4 : decode cX11_findParts 4 = .ok (.aload_n 0, 1) := by decide +kernel
theorem dX11_findParts_5 : decode cX11_findParts 5 = .ok (.getfield 32, 3) := by decide +kernel
theorem dX11_findParts_8 : decode cX11_findParts 8 = .ok (.iload_n 1, 1) := by decide +kernel
theorem dX11_findParts_9 : decode cX11_findParts 9 = .ok (.aaload, 1) := by decide +kernel
theorem dX11_findParts_10 : decode cX11_findParts 10 = .ok (.invokevirtual 261, 3) := by decide +kernel
theorem dX11_findParts_13 : decode cX11_findParts 13 = .ok (.aload_n 0, 1) := by decide +kernel
theorem dX11_findParts_14 : decode cX11_findParts 14 = .ok (.getfield 59, 3) := by decide +kernel
theorem dX11_findParts_17 : decode cX11_findParts 17 = .ok (.aload_n 0, 1) := by decide +kernel
theorem dX11_findParts_18 : decode cX11_findParts 18 = .ok (.getfield 49, 3) := by decide +kernel
theorem dX11_findParts_21 : decode cX11_findParts 21 = .ok (.invokevirtual 264, 3) := by decide +kernel
theorem dX11_findParts_24 : decode cX11_findParts 24 = .ok (.return_, 1) := by decide +kernel
theorem dX11_noteFall_0 : decode cX11_noteFall 0 = .ok (.aload_n 0, 1) := by decide +kernel
theorem dX11_noteFall_1 : decode cX11_noteFall 1 = .ok (.getfield 84, 3) := by decide +kernel
theorem dX11_noteFall_4 : decode cX11_noteFall 4 = .ok (.bipush 60, 2) := by decide +kernel
theorem dX11_noteFall_6 : decode cX11_noteFall 6 = .ok (.if_icmp .ge 23, 3) := by decide +kernel
theorem dX11_noteFall_9 : decode cX11_noteFall 9 = .ok (.aload_n 0, 1) := by decide +kernel
theorem dX11_noteFall_10 : decode cX11_noteFall 10 = .ok (.getfield 77, 3) := by decide +kernel
theorem dX11_noteFall_13 : decode cX11_noteFall 13 = .ok (.aload_n 0, 1) := by decide +kernel
theorem dX11_noteFall_14 : decode cX11_noteFall 14 = .ok (.getfield 84, 3) := by decide +kernel
theorem dX11_noteFall_17 : decode cX11_noteFall 17 = .ok (.iload_n 1, 1) := by decide +kernel
theorem dX11_noteFall_18 : decode cX11_noteFall 18 = .ok (.iastore, 1) := by decide +kernel
theorem dX11_noteFall_19 : decode cX11_noteFall 19 = .ok (.aload_n 0, 1) := by decide +kernel
theorem dX11_noteFall_20 : decode cX11_noteFall 20 = .ok (.getfield 81, 3) := by decide +kernel
theorem dX11_noteFall_23 : decode cX11_noteFall 23 = .ok (.aload_n 0, 1) := by decide +kernel
theorem dX11_noteFall_24 : decode cX11_noteFall 24 = .ok (.getfield 84, 3) := by decide +kernel
theorem dX11_noteFall_27 : decode cX11_noteFall 27 = .ok (.iload_n 2, 1) := by decide +kernel
theorem dX11_noteFall_28 : decode cX11_noteFall 28 = .ok (.iastore, 1) := by decide +kernel
theorem dX11_noteFall_29 : decode cX11_noteFall 29 = .ok (.aload_n 0, 1) := by decide +kernel
theorem dX11_noteFall_30 : decode cX11_noteFall 30 = .ok (.dup, 1) := by decide +kernel
theorem dX11_noteFall_31 : decode cX11_noteFall 31 = .ok (.getfield 84, 3) := by decide +kernel
theorem dX11_noteFall_34 : decode cX11_noteFall 34 = .ok (.iconst 1, 1) := by decide +kernel
theorem dX11_noteFall_35 : decode cX11_noteFall 35 = .ok (.iadd, 1) := by decide +kernel
theorem dX11_noteFall_36 : decode cX11_noteFall 36 = .ok (.putfield 84, 3) := by decide +kernel
theorem dX11_noteFall_39 : decode cX11_noteFall 39 = .ok (.return_, 1) := by decide +kernel
theorem dX11_seekWay_0 : decode cX11_seekWay 0 = .ok (.aload_n 0, 1) := by decide +kernel
theorem dX11_seekWay_1 : decode cX11_seekWay 1 = .ok (.getfield 49, 3) := by decide +kernel
theorem dX11_seekWay_4 : decode cX11_seekWay 4 = .ok (.aload_n 0, 1) := by decide +kernel
theorem dX11_seekWay_5 : decode cX11_seekWay 5 = .ok (.getfield 32, 3) := by decide +kernel
theorem dX11_seekWay_8 : decode cX11_seekWay 8 = .ok (.iload_n 1, 1) := by decide +kernel
theorem dX11_seekWay_9 : decode cX11_seekWay 9 = .ok (.aaload, 1) := by decide +kernel
theorem dX11_seekWay_10 : decode cX11_seekWay 10 = .ok (.invokevirtual 261, 3) := by decide +kernel
theorem dX11_seekWay_13 : decode cX11_seekWay 13 = .ok (.aload_n 0, 1) := by decide +kernel
theorem dX11_seekWay_14 : decode cX11_seekWay 14 = .ok (.getfield 53, 3) := by decide +kernel
theorem dX11_seekWay_17 : decode cX11_seekWay 17 = .ok (.aload_n 0, 1) := by decide +kernel
theorem dX11_seekWay_18 : decode cX11_seekWay 18 = .ok (.getfield 32, 3) := by decide +kernel
theorem dX11_seekWay_21 : decode cX11_seekWay 21 = .ok (.iload_n 2, 1) := by decide +kernel
theorem dX11_seekWay_22 : decode cX11_seekWay 22 = .ok (.aaload, 1) := by decide +kernel
theorem dX11_seekWay_23 : decode cX11_seekWay 23 = .ok (.invokevirtual 261, 3) := by decide +kernel
theorem dX11_seekWay_26 : decode cX11_seekWay 26 = .ok (.aload_n 0, 1) := by decide +kernel
theorem dX11_seekWay_27 : decode cX11_seekWay 27 = .ok (.getfield 53, 3) := by decide +kernel
theorem dX11_seekWay_30 : decode cX11_seekWay 30 = .ok (.getfield 205, 3) := by decide +kernel
theorem dX11_seekWay_33 : decode cX11_seekWay 33 = .ok (.ifCond .ne 14, 3) := by decide +kernel
theorem dX11_seekWay_36 : decode cX11_seekWay 36 = .ok (.iload_n 3, 1) := by decide +kernel
theorem dX11_seekWay_37 : decode cX11_seekWay 37 = .ok (.iconst (-1), 1) := by decide +kernel
theorem dX11_seekWay_38 : decode cX11_seekWay 38 = .ok (.if_icmp .ne 7, 3) := by decide +kernel
theorem dX11_seekWay_41 : decode cX11_seekWay 41 = .ok (.iconst 0, 1) := by decide +kernel
theorem dX11_seekWay_42 : decode cX11_seekWay 42 = .ok (.goto 4, 3) := by decide +kernel
theorem dX11_seekWay_45 : decode cX11_seekWay 45 = .ok (.iconst (-1), 1) := by decide +kernel
theorem dX11_seekWay_46 : decode cX11_seekWay 46 = .ok (.ireturn, 1) := by decide +kernel
theorem dX11_seekWay_47 : decode cX11_seekWay 47 = .ok (.bipush 9, 2) := by decide +kernel
theorem dX11_seekWay_49 : decode cX11_seekWay 49 = .ok (.aload_n 0, 1) := by decide +kernel
theorem dX11_seekWay_50 : decode cX11_seekWay 50 = .ok (.getfield 53, 3) := by decide +kernel
theorem dX11_seekWay_53 : decode cX11_seekWay 53 = .ok (.iconst 0, 1) := by decide +kernel
theorem dX11_seekWay_54 : decode cX11_seekWay 54 = .ok (.invokevirtual 307, 3) := by decide +kernel
theorem dX11_seekWay_57 : decode cX11_seekWay 57 = .ok (.isub, 1) := by decide +kernel
theorem dX11_seekWay_58 : decode cX11_seekWay 58 = .ok (.istore 4, 2) := by decide +kernel
theorem dX11_seekWay_60 : decode cX11_seekWay 60 = .ok (.bipush 9, 2) := by decide +kernel
theorem dX11_seekWay_62 : decode cX11_seekWay 62 = .ok (.aload_n 0, 1) := by decide +kernel
theorem dX11_seekWay_63 : decode cX11_seekWay 63 = .ok (.getfield 53, 3) := by decide +kernel
theorem dX11_seekWay_66 : decode cX11_seekWay 66 = .ok (.iconst 1, 1) := by decide +kernel
theorem dX11_seekWay_67 : decode cX11_seekWay 67 = .ok (.invokevirtual 307, 3) := by decide +kernel
theorem dX11_seekWay_70 : decode cX11_seekWay 70 = .ok (.isub, 1) := by decide +kernel
theorem dX11_seekWay_71 : decode cX11_seekWay 71 = .ok (.istore 5, 2) := by decide +kernel
theorem dX11_seekWay_73 : decode cX11_seekWay 73 = .ok (.bipush 9, 2) := by decide +kernel
theorem dX11_seekWay_75 : decode cX11_seekWay 75 = .ok (.aload_n 0, 1) := by decide +kernel
theorem dX11_seekWay_76 : decode cX11_seekWay 76 = .ok (.getfield 53, 3) := by decide +kernel
theorem dX11_seekWay_79 : decode cX11_seekWay 79 = .ok (.iconst 2, 1) := by decide +kernel
theorem dX11_seekWay_80 : decode cX11_seekWay 80 = .ok (.invokevirtual 307, 3) := by decide +kernel
theorem dX11_seekWay_83 : decode cX11_seekWay 83 = .ok (.isub, 1) := by decide +kernel
theorem dX11_seekWay_84 : decode cX11_seekWay 84 = .ok (.istore 6, 2) := by decide +kernel
theorem dX11_seekWay_86 : decode cX11_seekWay 86 = .ok (.iconst 0, 1) := by decide +kernel
theorem dX11_seekWay_87 : decode cX11_seekWay 87 = .ok (.istore 7, 2) := by decide +kernel
theorem dX11_seekWay_89 : decode cX11_seekWay 89 = .ok (.aload_n 0, 1) := by decide +kernel
theorem dX11_seekWay_90 : decode cX11_seekWay 90 = .ok (.getfield 53, 3) := by decide +kernel
theorem dX11_seekWay_93 : decode cX11_seekWay 93 = .ok (.iconst 0, 1) := by decide +kernel
theorem dX11_seekWay_94 : decode cX11_seekWay 94 = .ok (.invokevirtual 310, 3) := by decide +kernel
theorem dX11_seekWay_97 : decode cX11_seekWay 97 = .ok (.ineg, 1) := by decide +kernel
theorem dX11_seekWay_98 : decode cX11_seekWay 98 = .ok (.istore 8, 2) := by decide +kernel
theorem dX11_seekWay_100 : decode cX11_seekWay 100 = .ok (.iload 8, 2) := by decide +kernel
theorem dX11_seekWay_102 : decode cX11_seekWay 102 = .ok (.iload 4, 2) := by decide +kernel
theorem dX11_seekWay_104 : decode cX11_seekWay 104 = .ok (.if_icmp .gt 99, 3) := by decide +kernel
theorem dX11_seekWay_107 : decode cX11_seekWay 107 = .ok (.aload_n 0, 1) := by decide +kernel
theorem dX11_seekWay_108 : decode cX11_seekWay 108 = .ok (.getfield 53, 3) := by decide +kernel
theorem dX11_seekWay_111 : decode cX11_seekWay 111 = .ok (.iconst 1, 1) := by decide +kernel
theorem dX11_seekWay_112 : decode cX11_seekWay 112 = .ok (.invokevirtual 310, 3) := by decide +kernel
theorem dX11_seekWay_115 : decode cX11_seekWay 115 = .ok (.ineg, 1) := by decide +kernel
theorem dX11_seekWay_116 : decode cX11_seekWay 116 = .ok (.istore 9, 2) := by decide +kernel
theorem dX11_seekWay_118 : decode cX11_seekWay 118 = .ok (.iload 9, 2) := by decide +kernel
theorem dX11_seekWay_120 : decode cX11_seekWay 120 = .ok (.iload 5, 2) := by decide +kernel
theorem dX11_seekWay_122 : decode cX11_seekWay 122 = .ok (.if_icmp .gt 75, 3) := by decide +kernel
theorem dX11_seekWay_125 : decode cX11_seekWay 125 = .ok (.aload_n 0, 1) := by decide +kernel
theorem dX11_seekWay_126 : decode cX11_seekWay 126 = .ok (.getfield 53, 3) := by decide +kernel
theorem dX11_seekWay_129 : decode cX11_seekWay 129 = .ok (.iconst 2, 1) := by decide +kernel
theorem dX11_seekWay_130 : decode cX11_seekWay 130 = .ok (.invokevirtual 310, 3) := by decide +kernel
theorem dX11_seekWay_133 : decode cX11_seekWay 133 = .ok (.ineg, 1) := by decide +kernel
theorem dX11_seekWay_134 : decode cX11_seekWay 134 = .ok (.istore 10, 2) := by decide +kernel
theorem dX11_seekWay_136 : decode cX11_seekWay 136 = .ok (.iload 10, 2) := by decide +kernel
theorem dX11_seekWay_138 : decode cX11_seekWay 138 = .ok (.iload 6, 2) := by decide +kernel
theorem dX11_seekWay_140 : decode cX11_seekWay 140 = .ok (.if_icmp .gt 51, 3) := by decide +kernel
theorem dX11_seekWay_143 : decode cX11_seekWay 143 = .ok (.aload_n 0, 1) := by decide +kernel
theorem dX11_seekWay_144 : decode cX11_seekWay 144 = .ok (.getfield 49, 3) := by decide +kernel
theorem dX11_seekWay_147 : decode cX11_seekWay 147 = .ok (.aload_n 0, 1) := by decide +kernel
theorem dX11_seekWay_148 : decode cX11_seekWay 148 = .ok (.getfield 53, 3) := by decide +kernel
theorem dX11_seekWay_151 : decode cX11_seekWay 151 = .ok (.iload 8, 2) := by decide +kernel
theorem dX11_seekWay_153 : decode cX11_seekWay 153 = .ok (.iload 9, 2) := by decide +kernel
theorem dX11_seekWay_155 : decode cX11_seekWay 155 = .ok (.iload 10, 2) := by decide +kernel
theorem dX11_seekWay_157 : decode cX11_seekWay 157 = .ok (.invokestatic 131, 3) := by decide +kernel
theorem dX11_seekWay_160 : decode cX11_seekWay 160 = .ok (.invokevirtual 313, 3) := by decide +kernel
theorem dX11_seekWay_163 : decode cX11_seekWay 163 = .ok (.ifCond .eq 22, 3) := by decide +kernel
theorem dX11_seekWay_166 : decode cX11_seekWay 166 = .ok (.iload 7, 2) := by decide +kernel
theorem dX11_seekWay_168 : decode cX11_seekWay 168 = .ok (.iload_n 3, 1) := by decide +kernel
theorem dX11_seekWay_169 : decode cX11_seekWay 169 = .ok (.if_icmp .ne 13, 3) := by decide +kernel
theorem dX11_seekWay_172 : decode cX11_seekWay 172 = .ok (.iload 8, 2) := by decide +kernel
theorem dX11_seekWay_174 : decode cX11_seekWay 174 = .ok (.iload 9, 2) := by decide +kernel
theorem dX11_seekWay_176 : decode cX11_seekWay 176 = .ok (.iload 10, 2) := by decide +kernel
theorem dX11_seekWay_178 : decode cX11_seekWay 178 = .ok (.invokestatic 317, 3) := by decide +kernel
theorem dX11_seekWay_181 : decode cX11_seekWay 181 = .ok (.ireturn, 1) := by decide +kernel
theorem dX11_seekWay_182 : decode cX11_seekWay 182 = .ok (.iinc 7 1, 3) := by decide +kernel
theorem dX11_seekWay_185 : decode cX11_seekWay 185 = .ok (.iinc 10 1, 3) := by decide +kernel
theorem dX11_seekWay_188 : decode cX11_seekWay 188 = .ok (.goto (-52), 3) := by decide +kernel
theorem dX11_seekWay_191 : decode cX11_seekWay 191 = .ok (.iinc 9 1, 3) := by decide +kernel
theorem dX11_seekWay_194 : decode cX11_seekWay 194 = .ok (.goto (-76), 3) := by decide +kernel
theorem dX11_seekWay_197 : decode cX11_seekWay 197 = .ok (.iinc 8 1, 3) := by decide +kernel
theorem dX11_seekWay_200 : decode cX11_seekWay 200 = .ok (.goto (-100), 3) := by decide +kernel
theorem dX11_seekWay_203 : decode cX11_seekWay 203 = .ok (.iload_n 3, 1) := by decide +kernel
theorem dX11_seekWay_204 : decode cX11_seekWay 204 = .ok (.iconst (-1), 1) := by decide +kernel
theorem dX11_seekWay_205 : decode cX11_seekWay 205 = .ok (.if_icmp .ne 8, 3) := by decide +kernel
theorem dX11_seekWay_208 : decode cX11_seekWay 208 = .ok (.iload 7, 2) := by decide +kernel
theorem dX11_seekWay_210 : decode cX11_seekWay 210 = .ok (.goto 4, 3) := by decide +kernel
theorem dX11_seekWay_213 : decode cX11_seekWay 213 = .ok (.iconst (-1), 1) := by decide +kernel
theorem dX11_seekWay_214 : decode cX11_seekWay 214 = .ok (.ireturn, 1) := by decide +kernel

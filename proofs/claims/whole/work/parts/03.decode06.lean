set_option maxRecDepth 20000 in
theorem dX12_layHung_49 : decode cX12_layHung 49 = .ok (.iinc 1 1, 3) := by decide +kernel
set_option maxRecDepth 20000 in
theorem dX12_layHung_52 : decode cX12_layHung 52 = .ok (.goto (-46), 3) := by decide +kernel
set_option maxRecDepth 20000 in
theorem dX12_layHung_55 : decode cX12_layHung 55 = .ok (.return_, 1) := by decide +kernel
set_option maxRecDepth 20000 in
theorem dX12_layOrder_0 : decode cX12_layOrder 0 = .ok (.iload_n 1, 1) := by decide +kernel
set_option maxRecDepth 20000 in
theorem dX12_layOrder_1 : decode cX12_layOrder 1 = .ok (.istore_n 2, 1) := by decide +kernel
set_option maxRecDepth 20000 in
theorem dX12_layOrder_2 : decode cX12_layOrder 2 = .ok (.iconst 0, 1) := by decide +kernel
set_option maxRecDepth 20000 in
theorem dX12_layOrder_3 : decode cX12_layOrder 3 = .ok (.istore_n 3, 1) := by decide +kernel
set_option maxRecDepth 20000 in
theorem dX12_layOrder_4 : decode cX12_layOrder 4 = .ok (.aload_n 0, 1) := by decide +kernel
set_option maxRecDepth 20000 in
theorem dX12_layOrder_5 : decode cX12_layOrder 5 = .ok (.getfield 77, 3) := by decide +kernel
set_option maxRecDepth 20000 in
theorem dX12_layOrder_8 : decode cX12_layOrder 8 = .ok (.iconst 1, 1) := by decide +kernel
set_option maxRecDepth 20000 in
theorem dX12_layOrder_9 : decode cX12_layOrder 9 = .ok (.isub, 1) := by decide +kernel
set_option maxRecDepth 20000 in
theorem dX12_layOrder_10 : decode cX12_layOrder 10 = .ok (.istore 4, 2) := by decide +kernel
set_option maxRecDepth 20000 in
theorem dX12_layOrder_12 : decode cX12_layOrder 12 = .ok (.iload 4, 2) := by decide +kernel
set_option maxRecDepth 20000 in
theorem dX12_layOrder_14 : decode cX12_layOrder 14 = .ok (.ifCond .lt 41, 3) := by decide +kernel
set_option maxRecDepth 20000 in
theorem dX12_layOrder_17 : decode cX12_layOrder 17 = .ok (.aload_n 0, 1) := by decide +kernel
set_option maxRecDepth 20000 in
theorem dX12_layOrder_18 : decode cX12_layOrder 18 = .ok (.getfield 46, 3) := by decide +kernel
set_option maxRecDepth 20000 in
theorem dX12_layOrder_21 : decode cX12_layOrder 21 = .ok (.iload 4, 2) := by decide +kernel
set_option maxRecDepth 20000 in
theorem dX12_layOrder_23 : decode cX12_layOrder 23 = .ok (.iload_n 2, 1) := by decide +kernel
set_option maxRecDepth 20000 in
theorem dX12_layOrder_24 : decode cX12_layOrder 24 = .ok (.aload_n 0, 1) := by decide +kernel
set_option maxRecDepth 20000 in
theorem dX12_layOrder_25 : decode cX12_layOrder 25 = .ok (.getfield 77, 3) := by decide +kernel
set_option maxRecDepth 20000 in
theorem dX12_layOrder_28 : decode cX12_layOrder 28 = .ok (.irem, 1) := by decide +kernel
set_option maxRecDepth 20000 in
theorem dX12_layOrder_29 : decode cX12_layOrder 29 = .ok (.iastore, 1) := by decide +kernel
set_option maxRecDepth 20000 in
theorem dX12_layOrder_30 : decode cX12_layOrder 30 = .ok (.iload_n 3, 1) := by decide +kernel
set_option maxRecDepth 20000 in
theorem dX12_layOrder_31 : decode cX12_layOrder 31 = .ok (.iconst 1, 1) := by decide +kernel
set_option maxRecDepth 20000 in
theorem dX12_layOrder_32 : decode cX12_layOrder 32 = .ok (.aload_n 0, 1) := by decide +kernel
set_option maxRecDepth 20000 in
theorem dX12_layOrder_33 : decode cX12_layOrder 33 = .ok (.getfield 46, 3) := by decide +kernel
set_option maxRecDepth 20000 in
theorem dX12_layOrder_36 : decode cX12_layOrder 36 = .ok (.iload 4, 2) := by decide +kernel
set_option maxRecDepth 20000 in
theorem dX12_layOrder_38 : decode cX12_layOrder 38 = .ok (.iaload, 1) := by decide +kernel
set_option maxRecDepth 20000 in
theorem dX12_layOrder_39 : decode cX12_layOrder 39 = .ok (.ishl, 1) := by decide +kernel
set_option maxRecDepth 20000 in
theorem dX12_layOrder_40 : decode cX12_layOrder 40 = .ok (.ior, 1) := by decide +kernel
set_option maxRecDepth 20000 in
theorem dX12_layOrder_41 : decode cX12_layOrder 41 = .ok (.istore_n 3, 1) := by decide +kernel
set_option maxRecDepth 20000 in
theorem dX12_layOrder_42 : decode cX12_layOrder 42 = .ok (.iload_n 2, 1) := by decide +kernel
set_option maxRecDepth 20000 in
theorem dX12_layOrder_43 : decode cX12_layOrder 43 = .ok (.aload_n 0, 1) := by decide +kernel
set_option maxRecDepth 20000 in
theorem dX12_layOrder_44 : decode cX12_layOrder 44 = .ok (.getfield 77, 3) := by decide +kernel
set_option maxRecDepth 20000 in
theorem dX12_layOrder_47 : decode cX12_layOrder 47 = .ok (.idiv, 1) := by decide +kernel
set_option maxRecDepth 20000 in
theorem dX12_layOrder_48 : decode cX12_layOrder 48 = .ok (.istore_n 2, 1) := by decide +kernel
set_option maxRecDepth 20000 in
theorem dX12_layOrder_49 : decode cX12_layOrder 49 = .ok (.iinc 4 (-1), 3) := by decide +kernel
set_option maxRecDepth 20000 in
theorem dX12_layOrder_52 : decode cX12_layOrder 52 = .ok (.goto (-40), 3) := by decide +kernel
set_option maxRecDepth 20000 in
theorem dX12_layOrder_55 : decode cX12_layOrder 55 = .ok (.iload_n 3, 1) := by decide +kernel
set_option maxRecDepth 20000 in
theorem dX12_layOrder_56 : decode cX12_layOrder 56 = .ok (.aload_n 0, 1) := by decide +kernel
set_option maxRecDepth 20000 in
theorem dX12_layOrder_57 : decode cX12_layOrder 57 = .ok (.invokevirtual 154, 3) := by decide +kernel
set_option maxRecDepth 20000 in
theorem dX12_layOrder_60 : decode cX12_layOrder 60 = .ok (.if_icmp .ne 7, 3) := by decide +kernel
set_option maxRecDepth 20000 in
theorem dX12_layOrder_63 : decode cX12_layOrder 63 = .ok (.iconst 1, 1) := by decide +kernel
set_option maxRecDepth 20000 in
theorem dX12_layOrder_64 : decode cX12_layOrder 64 = .ok (.goto 4, 3) := by decide +kernel
set_option maxRecDepth 20000 in
theorem dX12_layOrder_67 : decode cX12_layOrder 67 = .ok (.iconst 0, 1) := by decide +kernel
set_option maxRecDepth 20000 in
theorem dX12_layOrder_68 : decode cX12_layOrder 68 = .ok (.ireturn, 1) := by decide +kernel
set_option maxRecDepth 20000 in
theorem dX12_hung_0 : decode cX12_hung 0 = .ok (.aload_n 0, 1) := by decide +kernel
set_option maxRecDepth 20000 in
theorem dX12_hung_1 : decode cX12_hung 1 = .ok (.getfield 77, 3) := by decide +kernel
set_option maxRecDepth 20000 in
theorem dX12_hung_4 : decode cX12_hung 4 = .ok (.bipush 6, 2) := by decide +kernel
set_option maxRecDepth 20000 in
theorem dX12_hung_6 : decode cX12_hung 6 = .ok (.if_icmp .le 6, 3) := by decide +kernel
set_option maxRecDepth 20000 in
theorem dX12_hung_9 : decode cX12_hung 9 = .ok (.bipush (-4), 2) := by decide +kernel
set_option maxRecDepth 20000 in
theorem dX12_hung_11 : decode cX12_hung 11 = .ok (.ireturn, 1) := by decide +kernel
set_option maxRecDepth 20000 in
theorem dX12_hung_12 : decode cX12_hung 12 = .ok (.iconst 1, 1) := by decide +kernel
set_option maxRecDepth 20000 in
theorem dX12_hung_13 : decode cX12_hung 13 = .ok (.istore_n 2, 1) := by decide +kernel
set_option maxRecDepth 20000 in
theorem dX12_hung_14 : decode cX12_hung 14 = .ok (.iconst 0, 1) := by decide +kernel
set_option maxRecDepth 20000 in
theorem dX12_hung_15 : decode cX12_hung 15 = .ok (.istore_n 3, 1) := by decide +kernel
set_option maxRecDepth 20000 in
theorem dX12_hung_16 : decode cX12_hung 16 = .ok (.iload_n 3, 1) := by decide +kernel
set_option maxRecDepth 20000 in
theorem dX12_hung_17 : decode cX12_hung 17 = .ok (.aload_n 0, 1) := by decide +kernel
set_option maxRecDepth 20000 in
theorem dX12_hung_18 : decode cX12_hung 18 = .ok (.getfield 77, 3) := by decide +kernel
set_option maxRecDepth 20000 in
theorem dX12_hung_21 : decode cX12_hung 21 = .ok (.if_icmp .ge 16, 3) := by decide +kernel
set_option maxRecDepth 20000 in
theorem dX12_hung_24 : decode cX12_hung 24 = .ok (.iload_n 2, 1) := by decide +kernel
set_option maxRecDepth 20000 in
theorem dX12_hung_25 : decode cX12_hung 25 = .ok (.aload_n 0, 1) := by decide +kernel
set_option maxRecDepth 20000 in
theorem dX12_hung_26 : decode cX12_hung 26 = .ok (.getfield 77, 3) := by decide +kernel
set_option maxRecDepth 20000 in
theorem dX12_hung_29 : decode cX12_hung 29 = .ok (.imul, 1) := by decide +kernel
set_option maxRecDepth 20000 in
theorem dX12_hung_30 : decode cX12_hung 30 = .ok (.istore_n 2, 1) := by decide +kernel
set_option maxRecDepth 20000 in
theorem dX12_hung_31 : decode cX12_hung 31 = .ok (.iinc 3 1, 3) := by decide +kernel
set_option maxRecDepth 20000 in
theorem dX12_hung_34 : decode cX12_hung 34 = .ok (.goto (-18), 3) := by decide +kernel
set_option maxRecDepth 20000 in
theorem dX12_hung_37 : decode cX12_hung 37 = .ok (.bipush (-6), 2) := by decide +kernel
set_option maxRecDepth 20000 in
theorem dX12_hung_39 : decode cX12_hung 39 = .ok (.istore_n 3, 1) := by decide +kernel
set_option maxRecDepth 20000 in
theorem dX12_hung_40 : decode cX12_hung 40 = .ok (.iconst 0, 1) := by decide +kernel
set_option maxRecDepth 20000 in
theorem dX12_hung_41 : decode cX12_hung 41 = .ok (.istore 4, 2) := by decide +kernel
set_option maxRecDepth 20000 in
theorem dX12_hung_43 : decode cX12_hung 43 = .ok (.iload 4, 2) := by decide +kernel
set_option maxRecDepth 20000 in
theorem dX12_hung_45 : decode cX12_hung 45 = .ok (.iload_n 2, 1) := by decide +kernel
set_option maxRecDepth 20000 in
theorem dX12_hung_46 : decode cX12_hung 46 = .ok (.if_icmp .ge 85, 3) := by decide +kernel
set_option maxRecDepth 20000 in
theorem dX12_hung_49 : decode cX12_hung 49 = .ok (.aload_n 0, 1) := by decide +kernel
set_option maxRecDepth 20000 in
theorem dX12_hung_50 : decode cX12_hung 50 = .ok (.iload 4, 2) := by decide +kernel
set_option maxRecDepth 20000 in
theorem dX12_hung_52 : decode cX12_hung 52 = .ok (.invokevirtual 164, 3) := by decide +kernel
set_option maxRecDepth 20000 in
theorem dX12_hung_55 : decode cX12_hung 55 = .ok (.ifCond .eq 70, 3) := by decide +kernel
set_option maxRecDepth 20000 in
theorem dX12_hung_58 : decode cX12_hung 58 = .ok (.iload_n 3, 1) := by decide +kernel
set_option maxRecDepth 20000 in
theorem dX12_hung_59 : decode cX12_hung 59 = .ok (.ifCond .ge 8, 3) := by decide +kernel
set_option maxRecDepth 20000 in
theorem dX12_hung_62 : decode cX12_hung 62 = .ok (.bipush 8, 2) := by decide +kernel
set_option maxRecDepth 20000 in
theorem dX12_hung_64 : decode cX12_hung 64 = .ok (.goto 6, 3) := by decide +kernel
set_option maxRecDepth 20000 in
theorem dX12_hung_67 : decode cX12_hung 67 = .ok (.iload_n 3, 1) := by decide +kernel
set_option maxRecDepth 20000 in
theorem dX12_hung_68 : decode cX12_hung 68 = .ok (.iconst 1, 1) := by decide +kernel
set_option maxRecDepth 20000 in
theorem dX12_hung_69 : decode cX12_hung 69 = .ok (.isub, 1) := by decide +kernel
set_option maxRecDepth 20000 in
theorem dX12_hung_70 : decode cX12_hung 70 = .ok (.istore 5, 2) := by decide +kernel
set_option maxRecDepth 20000 in
theorem dX12_hung_72 : decode cX12_hung 72 = .ok (.aload_n 0, 1) := by decide +kernel
set_option maxRecDepth 20000 in
theorem dX12_hung_73 : decode cX12_hung 73 = .ok (.aload_n 0, 1) := by decide +kernel
set_option maxRecDepth 20000 in
theorem dX12_hung_74 : decode cX12_hung 74 = .ok (.invokevirtual 154, 3) := by decide +kernel
set_option maxRecDepth 20000 in
theorem dX12_hung_77 : decode cX12_hung 77 = .ok (.iload 5, 2) := by decide +kernel
set_option maxRecDepth 20000 in
theorem dX12_hung_79 : decode cX12_hung 79 = .ok (.iconst 1, 1) := by decide +kernel
set_option maxRecDepth 20000 in
theorem dX12_hung_80 : decode cX12_hung 80 = .ok (.invokevirtual 157, 3) := by decide +kernel
set_option maxRecDepth 20000 in
theorem dX12_hung_83 : decode cX12_hung 83 = .ok (.istore 6, 2) := by decide +kernel
set_option maxRecDepth 20000 in
theorem dX12_hung_85 : decode cX12_hung 85 = .ok (.iload 6, 2) := by decide +kernel
set_option maxRecDepth 20000 in
theorem dX12_hung_87 : decode cX12_hung 87 = .ok (.ifCond .lt 38, 3) := by decide +kernel
set_option maxRecDepth 20000 in
theorem dX12_hung_90 : decode cX12_hung 90 = .ok (.iload 6, 2) := by decide +kernel
set_option maxRecDepth 20000 in
theorem dX12_hung_92 : decode cX12_hung 92 = .ok (.istore_n 3, 1) := by decide +kernel
set_option maxRecDepth 20000 in
theorem dX12_hung_93 : decode cX12_hung 93 = .ok (.iconst 0, 1) := by decide +kernel
set_option maxRecDepth 20000 in
theorem dX12_hung_94 : decode cX12_hung 94 = .ok (.istore 7, 2) := by decide +kernel
set_option maxRecDepth 20000 in
theorem dX12_hung_96 : decode cX12_hung 96 = .ok (.iload 7, 2) := by decide +kernel
set_option maxRecDepth 20000 in
theorem dX12_hung_98 : decode cX12_hung 98 = .ok (.aload_n 0, 1) := by decide +kernel
set_option maxRecDepth 20000 in
theorem dX12_hung_99 : decode cX12_hung 99 = .ok (.getfield 77, 3) := by decide +kernel
set_option maxRecDepth 20000 in
theorem dX12_hung_102 : decode cX12_hung 102 = .ok (.if_icmp .ge 23, 3) := by decide +kernel
set_option maxRecDepth 20000 in
theorem dX12_hung_105 : decode cX12_hung 105 = .ok (.aload_n 0, 1) := by decide +kernel
set_option maxRecDepth 20000 in
theorem dX12_hung_106 : decode cX12_hung 106 = .ok (.getfield 49, 3) := by decide +kernel
set_option maxRecDepth 20000 in
theorem dX12_hung_109 : decode cX12_hung 109 = .ok (.iload 7, 2) := by decide +kernel
set_option maxRecDepth 20000 in
theorem dX12_hung_111 : decode cX12_hung 111 = .ok (.aload_n 0, 1) := by decide +kernel
set_option maxRecDepth 20000 in
theorem dX12_hung_112 : decode cX12_hung 112 = .ok (.getfield 46, 3) := by decide +kernel
set_option maxRecDepth 20000 in
theorem dX12_hung_115 : decode cX12_hung 115 = .ok (.iload 7, 2) := by decide +kernel
set_option maxRecDepth 20000 in
theorem dX12_hung_117 : decode cX12_hung 117 = .ok (.iaload, 1) := by decide +kernel
set_option maxRecDepth 20000 in
theorem dX12_hung_118 : decode cX12_hung 118 = .ok (.iastore, 1) := by decide +kernel
set_option maxRecDepth 20000 in
theorem dX12_hung_119 : decode cX12_hung 119 = .ok (.iinc 7 1, 3) := by decide +kernel
set_option maxRecDepth 20000 in
theorem dX12_hung_122 : decode cX12_hung 122 = .ok (.goto (-26), 3) := by decide +kernel
set_option maxRecDepth 20000 in
theorem dX12_hung_125 : decode cX12_hung 125 = .ok (.iinc 4 1, 3) := by decide +kernel
set_option maxRecDepth 20000 in
theorem dX12_hung_128 : decode cX12_hung 128 = .ok (.goto (-85), 3) := by decide +kernel
set_option maxRecDepth 20000 in
theorem dX12_hung_131 : decode cX12_hung 131 = .ok (.iload_n 3, 1) := by decide +kernel
set_option maxRecDepth 20000 in
theorem dX12_hung_132 : decode cX12_hung 132 = .ok (.ifCond .lt 8, 3) := by decide +kernel
set_option maxRecDepth 20000 in
theorem dX12_hung_135 : decode cX12_hung 135 = .ok (.iload_n 1, 1) := by decide +kernel
set_option maxRecDepth 20000 in
theorem dX12_hung_136 : decode cX12_hung 136 = .ok (.iconst (-1), 1) := by decide +kernel
set_option maxRecDepth 20000 in
theorem dX12_hung_137 : decode cX12_hung 137 = .ok (.if_icmp .ne 7, 3) := by decide +kernel
set_option maxRecDepth 20000 in
theorem dX12_hung_140 : decode cX12_hung 140 = .ok (.iload_n 3, 1) := by decide +kernel
set_option maxRecDepth 20000 in
theorem dX12_hung_141 : decode cX12_hung 141 = .ok (.goto 30, 3) := by decide +kernel
set_option maxRecDepth 20000 in
theorem dX12_hung_144 : decode cX12_hung 144 = .ok (.iload_n 1, 1) := by decide +kernel
set_option maxRecDepth 20000 in
theorem dX12_hung_145 : decode cX12_hung 145 = .ok (.i2l, 1) := by decide +kernel
set_option maxRecDepth 20000 in
theorem dX12_hung_146 : decode cX12_hung 146 = .ok (.lconst 0, 1) := by decide +kernel
set_option maxRecDepth 20000 in
theorem dX12_hung_147 : decode cX12_hung 147 = .ok (.aload_n 0, 1) := by decide +kernel
set_option maxRecDepth 20000 in
theorem dX12_hung_148 : decode cX12_hung 148 = .ok (.getfield 77, 3) := by decide +kernel
set_option maxRecDepth 20000 in
theorem dX12_hung_151 : decode cX12_hung 151 = .ok (.iconst 1, 1) := by decide +kernel
set_option maxRecDepth 20000 in
theorem dX12_hung_152 : decode cX12_hung 152 = .ok (.isub, 1) := by decide +kernel
set_option maxRecDepth 20000 in
theorem dX12_hung_153 : decode cX12_hung 153 = .ok (.i2l, 1) := by decide +kernel
set_option maxRecDepth 20000 in
theorem dX12_hung_154 : decode cX12_hung 154 = .ok (.invokestatic 86, 3) := by decide +kernel
set_option maxRecDepth 20000 in
theorem dX12_hung_157 : decode cX12_hung 157 = .ok (.ifCond .eq 12, 3) := by decide +kernel
set_option maxRecDepth 20000 in
theorem dX12_hung_160 : decode cX12_hung 160 = .ok (.aload_n 0, 1) := by decide +kernel
set_option maxRecDepth 20000 in
theorem dX12_hung_161 : decode cX12_hung 161 = .ok (.getfield 49, 3) := by decide +kernel
set_option maxRecDepth 20000 in
theorem dX12_hung_164 : decode cX12_hung 164 = .ok (.iload_n 1, 1) := by decide +kernel
set_option maxRecDepth 20000 in
theorem dX12_hung_165 : decode cX12_hung 165 = .ok (.iaload, 1) := by decide +kernel
set_option maxRecDepth 20000 in
theorem dX12_hung_166 : decode cX12_hung 166 = .ok (.goto 5, 3) := by decide +kernel
set_option maxRecDepth 20000 in
theorem dX12_hung_169 : decode cX12_hung 169 = .ok (.bipush (-6), 2) := by decide +kernel
set_option maxRecDepth 20000 in
theorem dX12_hung_171 : decode cX12_hung 171 = .ok (.ireturn, 1) := by decide +kernel
set_option maxRecDepth 20000 in
theorem dX12_aheadBy_0 : decode cX12_aheadBy 0 = .ok (.aload_n 0, 1) := by decide +kernel
set_option maxRecDepth 20000 in
theorem dX12_aheadBy_1 : decode cX12_aheadBy 1 = .ok (.invokevirtual 120, 3) := by decide +kernel
set_option maxRecDepth 20000 in
theorem dX12_aheadBy_4 : decode cX12_aheadBy 4 = .ok (.iconst 1, 1) := by decide +kernel
set_option maxRecDepth 20000 in
theorem dX12_aheadBy_5 : decode cX12_aheadBy 5 = .ok (.istore 5, 2) := by decide +kernel
set_option maxRecDepth 20000 in
theorem dX12_aheadBy_7 : decode cX12_aheadBy 7 = .ok (.iconst 1, 1) := by decide +kernel
set_option maxRecDepth 20000 in
theorem dX12_aheadBy_8 : decode cX12_aheadBy 8 = .ok (.istore 6, 2) := by decide +kernel
set_option maxRecDepth 20000 in
theorem dX12_aheadBy_10 : decode cX12_aheadBy 10 = .ok (.iload 6, 2) := by decide +kernel
set_option maxRecDepth 20000 in
theorem dX12_aheadBy_12 : decode cX12_aheadBy 12 = .ok (.iload 4, 2) := by decide +kernel
set_option maxRecDepth 20000 in
theorem dX12_aheadBy_14 : decode cX12_aheadBy 14 = .ok (.if_icmp .ge 15, 3) := by decide +kernel
set_option maxRecDepth 20000 in
theorem dX12_aheadBy_17 : decode cX12_aheadBy 17 = .ok (.iload 5, 2) := by decide +kernel
set_option maxRecDepth 20000 in
theorem dX12_aheadBy_19 : decode cX12_aheadBy 19 = .ok (.iconst 3, 1) := by decide +kernel
set_option maxRecDepth 20000 in
theorem dX12_aheadBy_20 : decode cX12_aheadBy 20 = .ok (.imul, 1) := by decide +kernel
set_option maxRecDepth 20000 in
theorem dX12_aheadBy_21 : decode cX12_aheadBy 21 = .ok (.istore 5, 2) := by decide +kernel
set_option maxRecDepth 20000 in
theorem dX12_aheadBy_23 : decode cX12_aheadBy 23 = .ok (.iinc 6 1, 3) := by decide +kernel
set_option maxRecDepth 20000 in
theorem dX12_aheadBy_26 : decode cX12_aheadBy 26 = .ok (.goto (-16), 3) := by decide +kernel
set_option maxRecDepth 20000 in
theorem dX12_aheadBy_29 : decode cX12_aheadBy 29 = .ok (.iload_n 3, 1) := by decide +kernel
set_option maxRecDepth 20000 in
theorem dX12_aheadBy_30 : decode cX12_aheadBy 30 = .ok (.istore 6, 2) := by decide +kernel
set_option maxRecDepth 20000 in
theorem dX12_aheadBy_32 : decode cX12_aheadBy 32 = .ok (.iconst 0, 1) := by decide +kernel
set_option maxRecDepth 20000 in
theorem dX12_aheadBy_33 : decode cX12_aheadBy 33 = .ok (.istore 7, 2) := by decide +kernel
set_option maxRecDepth 20000 in
theorem dX12_aheadBy_35 : decode cX12_aheadBy 35 = .ok (.iload 7, 2) := by decide +kernel
set_option maxRecDepth 20000 in
theorem dX12_aheadBy_37 : decode cX12_aheadBy 37 = .ok (.iload 4, 2) := by decide +kernel
set_option maxRecDepth 20000 in
theorem dX12_aheadBy_39 : decode cX12_aheadBy 39 = .ok (.if_icmp .ge 84, 3) := by decide +kernel
set_option maxRecDepth 20000 in
theorem dX12_aheadBy_42 : decode cX12_aheadBy 42 = .ok (.aload_n 0, 1) := by decide +kernel
set_option maxRecDepth 20000 in
theorem dX12_aheadBy_43 : decode cX12_aheadBy 43 = .ok (.iload 6, 2) := by decide +kernel
set_option maxRecDepth 20000 in
theorem dX12_aheadBy_45 : decode cX12_aheadBy 45 = .ok (.iload 5, 2) := by decide +kernel
set_option maxRecDepth 20000 in
theorem dX12_aheadBy_47 : decode cX12_aheadBy 47 = .ok (.idiv, 1) := by decide +kernel
set_option maxRecDepth 20000 in
theorem dX12_aheadBy_48 : decode cX12_aheadBy 48 = .ok (.invokevirtual 127, 3) := by decide +kernel
set_option maxRecDepth 20000 in
theorem dX12_aheadBy_51 : decode cX12_aheadBy 51 = .ok (.iload 6, 2) := by decide +kernel
set_option maxRecDepth 20000 in
theorem dX12_aheadBy_53 : decode cX12_aheadBy 53 = .ok (.iload 5, 2) := by decide +kernel
set_option maxRecDepth 20000 in
theorem dX12_aheadBy_55 : decode cX12_aheadBy 55 = .ok (.irem, 1) := by decide +kernel
set_option maxRecDepth 20000 in
theorem dX12_aheadBy_56 : decode cX12_aheadBy 56 = .ok (.istore 6, 2) := by decide +kernel
set_option maxRecDepth 20000 in
theorem dX12_aheadBy_58 : decode cX12_aheadBy 58 = .ok (.iload 5, 2) := by decide +kernel
set_option maxRecDepth 20000 in
theorem dX12_aheadBy_60 : decode cX12_aheadBy 60 = .ok (.iconst 3, 1) := by decide +kernel
set_option maxRecDepth 20000 in
theorem dX12_aheadBy_61 : decode cX12_aheadBy 61 = .ok (.idiv, 1) := by decide +kernel
set_option maxRecDepth 20000 in
theorem dX12_aheadBy_62 : decode cX12_aheadBy 62 = .ok (.istore 5, 2) := by decide +kernel
set_option maxRecDepth 20000 in
theorem dX12_aheadBy_64 : decode cX12_aheadBy 64 = .ok (.aload_n 0, 1) := by decide +kernel
set_option maxRecDepth 20000 in
theorem dX12_aheadBy_65 : decode cX12_aheadBy 65 = .ok (.getfield 105, 3) := by decide +kernel
set_option maxRecDepth 20000 in
theorem dX12_aheadBy_68 : decode cX12_aheadBy 68 = .ok (.iload_n 1, 1) := by decide +kernel
set_option maxRecDepth 20000 in
theorem dX12_aheadBy_69 : decode cX12_aheadBy 69 = .ok (.ishr, 1) := by decide +kernel
set_option maxRecDepth 20000 in
theorem dX12_aheadBy_70 : decode cX12_aheadBy 70 = .ok (.iconst 1, 1) := by decide +kernel
set_option maxRecDepth 20000 in
theorem dX12_aheadBy_71 : decode cX12_aheadBy 71 = .ok (.iand, 1) := by decide +kernel
set_option maxRecDepth 20000 in
theorem dX12_aheadBy_72 : decode cX12_aheadBy 72 = .ok (.istore 8, 2) := by decide +kernel
set_option maxRecDepth 20000 in
theorem dX12_aheadBy_74 : decode cX12_aheadBy 74 = .ok (.aload_n 0, 1) := by decide +kernel
set_option maxRecDepth 20000 in
theorem dX12_aheadBy_75 : decode cX12_aheadBy 75 = .ok (.getfield 105, 3) := by decide +kernel
set_option maxRecDepth 20000 in
theorem dX12_aheadBy_78 : decode cX12_aheadBy 78 = .ok (.iload_n 2, 1) := by decide +kernel
set_option maxRecDepth 20000 in
theorem dX12_aheadBy_79 : decode cX12_aheadBy 79 = .ok (.ishr, 1) := by decide +kernel
set_option maxRecDepth 20000 in
theorem dX12_aheadBy_80 : decode cX12_aheadBy 80 = .ok (.iconst 1, 1) := by decide +kernel
set_option maxRecDepth 20000 in
theorem dX12_aheadBy_81 : decode cX12_aheadBy 81 = .ok (.iand, 1) := by decide +kernel
set_option maxRecDepth 20000 in
theorem dX12_aheadBy_82 : decode cX12_aheadBy 82 = .ok (.istore 9, 2) := by decide +kernel
set_option maxRecDepth 20000 in
theorem dX12_aheadBy_84 : decode cX12_aheadBy 84 = .ok (.iload 8, 2) := by decide +kernel
set_option maxRecDepth 20000 in
theorem dX12_aheadBy_86 : decode cX12_aheadBy 86 = .ok (.iload 9, 2) := by decide +kernel
set_option maxRecDepth 20000 in
theorem dX12_aheadBy_88 : decode cX12_aheadBy 88 = .ok (.iadd, 1) := by decide +kernel
set_option maxRecDepth 20000 in
theorem dX12_aheadBy_89 : decode cX12_aheadBy 89 = .ok (.ifCond .le 28, 3) := by decide +kernel
set_option maxRecDepth 20000 in
theorem dX12_aheadBy_92 : decode cX12_aheadBy 92 = .ok (.iload 8, 2) := by decide +kernel
set_option maxRecDepth 20000 in
theorem dX12_aheadBy_94 : decode cX12_aheadBy 94 = .ok (.iload 9, 2) := by decide +kernel
set_option maxRecDepth 20000 in
theorem dX12_aheadBy_96 : decode cX12_aheadBy 96 = .ok (.iadd, 1) := by decide +kernel
set_option maxRecDepth 20000 in
theorem dX12_aheadBy_97 : decode cX12_aheadBy 97 = .ok (.iconst 2, 1) := by decide +kernel
set_option maxRecDepth 20000 in
theorem dX12_aheadBy_98 : decode cX12_aheadBy 98 = .ok (.if_icmp .ne 7, 3) := by decide +kernel
set_option maxRecDepth 20000 in
theorem dX12_aheadBy_101 : decode cX12_aheadBy 101 = .ok (.iconst 2, 1) := by decide +kernel
set_option maxRecDepth 20000 in
theorem dX12_aheadBy_102 : decode cX12_aheadBy 102 = .ok (.goto 14, 3) := by decide +kernel
set_option maxRecDepth 20000 in
theorem dX12_aheadBy_105 : decode cX12_aheadBy 105 = .ok (.iload 8, 2) := by decide +kernel
set_option maxRecDepth 20000 in
theorem dX12_aheadBy_107 : decode cX12_aheadBy 107 = .ok (.iconst 1, 1) := by decide +kernel
set_option maxRecDepth 20000 in
theorem dX12_aheadBy_108 : decode cX12_aheadBy 108 = .ok (.if_icmp .ne 7, 3) := by decide +kernel
set_option maxRecDepth 20000 in
theorem dX12_aheadBy_111 : decode cX12_aheadBy 111 = .ok (.iconst 0, 1) := by decide +kernel
set_option maxRecDepth 20000 in
theorem dX12_aheadBy_112 : decode cX12_aheadBy 112 = .ok (.goto 4, 3) := by decide +kernel
set_option maxRecDepth 20000 in
theorem dX12_aheadBy_115 : decode cX12_aheadBy 115 = .ok (.iconst 1, 1) := by decide +kernel
set_option maxRecDepth 20000 in
theorem dX12_aheadBy_116 : decode cX12_aheadBy 116 = .ok (.ireturn, 1) := by decide +kernel
set_option maxRecDepth 20000 in
theorem dX12_aheadBy_117 : decode cX12_aheadBy 117 = .ok (.iinc 7 1, 3) := by decide +kernel
set_option maxRecDepth 20000 in
theorem dX12_aheadBy_120 : decode cX12_aheadBy 120 = .ok (.goto (-85), 3) := by decide +kernel
set_option maxRecDepth 20000 in
theorem dX12_aheadBy_123 : decode cX12_aheadBy 123 = .ok (.bipush (-6), 2) := by decide +kernel
set_option maxRecDepth 20000 in
theorem dX12_aheadBy_125 : decode cX12_aheadBy 125 = .ok (.ireturn, 1) := by decide +kernel
set_option maxRecDepth 20000 in
theorem dX12_bestOf_0 : decode cX12_bestOf 0 = .ok (.iload_n 2, 1) := by decide +kernel
set_option maxRecDepth 20000 in
theorem dX12_bestOf_1 : decode cX12_bestOf 1 = .ok (.iload_n 1, 1) := by decide +kernel
set_option maxRecDepth 20000 in
theorem dX12_bestOf_2 : decode cX12_bestOf 2 = .ok (.if_icmp .eq 14, 3) := by decide +kernel
set_option maxRecDepth 20000 in
theorem dX12_bestOf_5 : decode cX12_bestOf 5 = .ok (.iload_n 3, 1) := by decide +kernel
set_option maxRecDepth 20000 in
theorem dX12_bestOf_6 : decode cX12_bestOf 6 = .ok (.iload_n 1, 1) := by decide +kernel
set_option maxRecDepth 20000 in
theorem dX12_bestOf_7 : decode cX12_bestOf 7 = .ok (.if_icmp .eq 9, 3) := by decide +kernel
set_option maxRecDepth 20000 in
theorem dX12_bestOf_10 : decode cX12_bestOf 10 = .ok (.iload 4, 2) := by decide +kernel
set_option maxRecDepth 20000 in
theorem dX12_bestOf_12 : decode cX12_bestOf 12 = .ok (.iload_n 1, 1) := by decide +kernel
set_option maxRecDepth 20000 in
theorem dX12_bestOf_13 : decode cX12_bestOf 13 = .ok (.if_icmp .ne 5, 3) := by decide +kernel
set_option maxRecDepth 20000 in
theorem dX12_bestOf_16 : decode cX12_bestOf 16 = .ok (.iload_n 1, 1) := by decide +kernel
set_option maxRecDepth 20000 in
theorem dX12_bestOf_17 : decode cX12_bestOf 17 = .ok (.ireturn, 1) := by decide +kernel
set_option maxRecDepth 20000 in
theorem dX12_bestOf_18 : decode cX12_bestOf 18 = .ok (.iload_n 2, 1) := by decide +kernel
set_option maxRecDepth 20000 in
theorem dX12_bestOf_19 : decode cX12_bestOf 19 = .ok (.iconst 2, 1) := by decide +kernel
set_option maxRecDepth 20000 in
theorem dX12_bestOf_20 : decode cX12_bestOf 20 = .ok (.if_icmp .eq 14, 3) := by decide +kernel
set_option maxRecDepth 20000 in
theorem dX12_bestOf_23 : decode cX12_bestOf 23 = .ok (.iload_n 3, 1) := by decide +kernel
set_option maxRecDepth 20000 in
theorem dX12_bestOf_24 : decode cX12_bestOf 24 = .ok (.iconst 2, 1) := by decide +kernel
set_option maxRecDepth 20000 in
theorem dX12_bestOf_25 : decode cX12_bestOf 25 = .ok (.if_icmp .eq 9, 3) := by decide +kernel
set_option maxRecDepth 20000 in
theorem dX12_bestOf_28 : decode cX12_bestOf 28 = .ok (.iload 4, 2) := by decide +kernel
set_option maxRecDepth 20000 in
theorem dX12_bestOf_30 : decode cX12_bestOf 30 = .ok (.iconst 2, 1) := by decide +kernel
set_option maxRecDepth 20000 in
theorem dX12_bestOf_31 : decode cX12_bestOf 31 = .ok (.if_icmp .ne 7, 3) := by decide +kernel
set_option maxRecDepth 20000 in
theorem dX12_bestOf_34 : decode cX12_bestOf 34 = .ok (.iconst 2, 1) := by decide +kernel
set_option maxRecDepth 20000 in
theorem dX12_bestOf_35 : decode cX12_bestOf 35 = .ok (.goto 6, 3) := by decide +kernel
set_option maxRecDepth 20000 in
theorem dX12_bestOf_38 : decode cX12_bestOf 38 = .ok (.iconst 1, 1) := by decide +kernel
set_option maxRecDepth 20000 in
theorem dX12_bestOf_39 : decode cX12_bestOf 39 = .ok (.iload_n 1, 1) := by decide +kernel
set_option maxRecDepth 20000 in
theorem dX12_bestOf_40 : decode cX12_bestOf 40 = .ok (.isub, 1) := by decide +kernel
set_option maxRecDepth 20000 in
theorem dX12_bestOf_41 : decode cX12_bestOf 41 = .ok (.ireturn, 1) := by decide +kernel
set_option maxRecDepth 20000 in
theorem dX12_race_0 : decode cX12_race 0 = .ok (.aload_n 0, 1) := by decide +kernel
set_option maxRecDepth 20000 in
theorem dX12_race_1 : decode cX12_race 1 = .ok (.iload_n 1, 1) := by decide +kernel
set_option maxRecDepth 20000 in
theorem dX12_race_2 : decode cX12_race 2 = .ok (.invokevirtual 94, 3) := by decide +kernel
set_option maxRecDepth 20000 in
theorem dX12_race_5 : decode cX12_race 5 = .ok (.ifCond .eq 16, 3) := by decide +kernel
set_option maxRecDepth 20000 in
theorem dX12_race_8 : decode cX12_race 8 = .ok (.aload_n 0, 1) := by decide +kernel
set_option maxRecDepth 20000 in
theorem dX12_race_9 : decode cX12_race 9 = .ok (.iload_n 2, 1) := by decide +kernel
set_option maxRecDepth 20000 in
theorem dX12_race_10 : decode cX12_race 10 = .ok (.invokevirtual 94, 3) := by decide +kernel
set_option maxRecDepth 20000 in
theorem dX12_race_13 : decode cX12_race 13 = .ok (.ifCond .eq 8, 3) := by decide +kernel
set_option maxRecDepth 20000 in
theorem dX12_race_16 : decode cX12_race 16 = .ok (.iload_n 1, 1) := by decide +kernel
set_option maxRecDepth 20000 in
theorem dX12_race_17 : decode cX12_race 17 = .ok (.iload_n 2, 1) := by decide +kernel
set_option maxRecDepth 20000 in
theorem dX12_race_18 : decode cX12_race 18 = .ok (.if_icmp .ne 5, 3) := by decide +kernel
set_option maxRecDepth 20000 in
theorem dX12_race_21 : decode cX12_race 21 = .ok (.iconst (-1), 1) := by decide +kernel
set_option maxRecDepth 20000 in
theorem dX12_race_22 : decode cX12_race 22 = .ok (.ireturn, 1) := by decide +kernel
set_option maxRecDepth 20000 in
theorem dX12_race_23 : decode cX12_race 23 = .ok (.iload_n 3, 1) := by decide +kernel
set_option maxRecDepth 20000 in
theorem dX12_race_24 : decode cX12_race 24 = .ok (.i2l, 1) := by decide +kernel
set_option maxRecDepth 20000 in
theorem dX12_race_25 : decode cX12_race 25 = .ok (.lconst 1, 1) := by decide +kernel
set_option maxRecDepth 20000 in
theorem dX12_race_26 : decode cX12_race 26 = .ok (.ldc2_w 167, 3) := by decide +kernel
set_option maxRecDepth 20000 in
theorem dX12_race_29 : decode cX12_race 29 = .ok (.invokestatic 86, 3) := by decide +kernel
set_option maxRecDepth 20000 in
theorem dX12_race_32 : decode cX12_race 32 = .ok (.ifCond .ne 6, 3) := by decide +kernel
set_option maxRecDepth 20000 in
theorem dX12_race_35 : decode cX12_race 35 = .ok (.bipush (-2), 2) := by decide +kernel
set_option maxRecDepth 20000 in
theorem dX12_race_37 : decode cX12_race 37 = .ok (.ireturn, 1) := by decide +kernel
set_option maxRecDepth 20000 in
theorem dX12_race_38 : decode cX12_race 38 = .ok (.aload_n 0, 1) := by decide +kernel
set_option maxRecDepth 20000 in
theorem dX12_race_39 : decode cX12_race 39 = .ok (.getfield 80, 3) := by decide +kernel
set_option maxRecDepth 20000 in
theorem dX12_race_42 : decode cX12_race 42 = .ok (.iload_n 1, 1) := by decide +kernel
set_option maxRecDepth 20000 in
theorem dX12_race_43 : decode cX12_race 43 = .ok (.ishr, 1) := by decide +kernel
set_option maxRecDepth 20000 in
theorem dX12_race_44 : decode cX12_race 44 = .ok (.iconst 1, 1) := by decide +kernel
set_option maxRecDepth 20000 in
theorem dX12_race_45 : decode cX12_race 45 = .ok (.iand, 1) := by decide +kernel
set_option maxRecDepth 20000 in
theorem dX12_race_46 : decode cX12_race 46 = .ok (.iconst 1, 1) := by decide +kernel
set_option maxRecDepth 20000 in
theorem dX12_race_47 : decode cX12_race 47 = .ok (.if_icmp .eq 15, 3) := by decide +kernel
set_option maxRecDepth 20000 in
theorem dX12_race_50 : decode cX12_race 50 = .ok (.aload_n 0, 1) := by decide +kernel
set_option maxRecDepth 20000 in
theorem dX12_race_51 : decode cX12_race 51 = .ok (.getfield 80, 3) := by decide +kernel
set_option maxRecDepth 20000 in
theorem dX12_race_54 : decode cX12_race 54 = .ok (.iload_n 2, 1) := by decide +kernel
set_option maxRecDepth 20000 in
theorem dX12_race_55 : decode cX12_race 55 = .ok (.ishr, 1) := by decide +kernel
set_option maxRecDepth 20000 in
theorem dX12_race_56 : decode cX12_race 56 = .ok (.iconst 1, 1) := by decide +kernel
set_option maxRecDepth 20000 in
theorem dX12_race_57 : decode cX12_race 57 = .ok (.iand, 1) := by decide +kernel
set_option maxRecDepth 20000 in
theorem dX12_race_58 : decode cX12_race 58 = .ok (.iconst 1, 1) := by decide +kernel
set_option maxRecDepth 20000 in
theorem dX12_race_59 : decode cX12_race 59 = .ok (.if_icmp .ne 6, 3) := by decide +kernel
set_option maxRecDepth 20000 in
theorem dX12_race_62 : decode cX12_race 62 = .ok (.bipush (-3), 2) := by decide +kernel
set_option maxRecDepth 20000 in
theorem dX12_race_64 : decode cX12_race 64 = .ok (.ireturn, 1) := by decide +kernel
set_option maxRecDepth 20000 in
theorem dX12_race_65 : decode cX12_race 65 = .ok (.iconst 1, 1) := by decide +kernel
set_option maxRecDepth 20000 in
theorem dX12_race_66 : decode cX12_race 66 = .ok (.istore 4, 2) := by decide +kernel
set_option maxRecDepth 20000 in
theorem dX12_race_68 : decode cX12_race 68 = .ok (.iconst 0, 1) := by decide +kernel
set_option maxRecDepth 20000 in
theorem dX12_race_69 : decode cX12_race 69 = .ok (.istore 5, 2) := by decide +kernel
set_option maxRecDepth 20000 in
theorem dX12_race_71 : decode cX12_race 71 = .ok (.iload 5, 2) := by decide +kernel
set_option maxRecDepth 20000 in
theorem dX12_race_73 : decode cX12_race 73 = .ok (.iload_n 3, 1) := by decide +kernel
set_option maxRecDepth 20000 in
theorem dX12_race_74 : decode cX12_race 74 = .ok (.if_icmp .ge 15, 3) := by decide +kernel
set_option maxRecDepth 20000 in
theorem dX12_race_77 : decode cX12_race 77 = .ok (.iload 4, 2) := by decide +kernel
set_option maxRecDepth 20000 in
theorem dX12_race_79 : decode cX12_race 79 = .ok (.iconst 3, 1) := by decide +kernel
set_option maxRecDepth 20000 in
theorem dX12_race_80 : decode cX12_race 80 = .ok (.imul, 1) := by decide +kernel
set_option maxRecDepth 20000 in
theorem dX12_race_81 : decode cX12_race 81 = .ok (.istore 4, 2) := by decide +kernel
set_option maxRecDepth 20000 in
theorem dX12_race_83 : decode cX12_race 83 = .ok (.iinc 5 1, 3) := by decide +kernel
set_option maxRecDepth 20000 in
theorem dX12_race_86 : decode cX12_race 86 = .ok (.goto (-15), 3) := by decide +kernel
set_option maxRecDepth 20000 in
theorem dX12_race_89 : decode cX12_race 89 = .ok (.iload_n 3, 1) := by decide +kernel
set_option maxRecDepth 20000 in
theorem dX12_race_90 : decode cX12_race 90 = .ok (.istore 5, 2) := by decide +kernel
set_option maxRecDepth 20000 in
theorem dX12_race_92 : decode cX12_race 92 = .ok (.iload 5, 2) := by decide +kernel
set_option maxRecDepth 20000 in
theorem dX12_race_94 : decode cX12_race 94 = .ok (.ifCond .lt 138, 3) := by decide +kernel
set_option maxRecDepth 20000 in
theorem dX12_race_97 : decode cX12_race 97 = .ok (.iconst 0, 1) := by decide +kernel
set_option maxRecDepth 20000 in
theorem dX12_race_98 : decode cX12_race 98 = .ok (.istore 6, 2) := by decide +kernel
set_option maxRecDepth 20000 in
theorem dX12_race_100 : decode cX12_race 100 = .ok (.iload 6, 2) := by decide +kernel
set_option maxRecDepth 20000 in
theorem dX12_race_102 : decode cX12_race 102 = .ok (.iload 4, 2) := by decide +kernel
set_option maxRecDepth 20000 in
theorem dX12_race_104 : decode cX12_race 104 = .ok (.if_icmp .ge 86, 3) := by decide +kernel
set_option maxRecDepth 20000 in
theorem dX12_race_107 : decode cX12_race 107 = .ok (.aload_n 0, 1) := by decide +kernel
set_option maxRecDepth 20000 in
theorem dX12_race_108 : decode cX12_race 108 = .ok (.iload_n 1, 1) := by decide +kernel
set_option maxRecDepth 20000 in
theorem dX12_race_109 : decode cX12_race 109 = .ok (.iload_n 2, 1) := by decide +kernel
set_option maxRecDepth 20000 in
theorem dX12_race_110 : decode cX12_race 110 = .ok (.iload 6, 2) := by decide +kernel
set_option maxRecDepth 20000 in
theorem dX12_race_112 : decode cX12_race 112 = .ok (.iload 5, 2) := by decide +kernel
set_option maxRecDepth 20000 in
theorem dX12_race_114 : decode cX12_race 114 = .ok (.invokevirtual 169, 3) := by decide +kernel
set_option maxRecDepth 20000 in
theorem dX12_race_117 : decode cX12_race 117 = .ok (.istore 7, 2) := by decide +kernel
set_option maxRecDepth 20000 in
theorem dX12_race_119 : decode cX12_race 119 = .ok (.iload 7, 2) := by decide +kernel
set_option maxRecDepth 20000 in
theorem dX12_race_121 : decode cX12_race 121 = .ok (.ifCond .ge 54, 3) := by decide +kernel
set_option maxRecDepth 20000 in
theorem dX12_race_124 : decode cX12_race 124 = .ok (.iload 5, 2) := by decide +kernel
set_option maxRecDepth 20000 in
theorem dX12_race_126 : decode cX12_race 126 = .ok (.iload_n 3, 1) := by decide +kernel
set_option maxRecDepth 20000 in
theorem dX12_race_127 : decode cX12_race 127 = .ok (.if_icmp .ne 7, 3) := by decide +kernel
set_option maxRecDepth 20000 in
theorem dX12_race_130 : decode cX12_race 130 = .ok (.iconst 2, 1) := by decide +kernel
set_option maxRecDepth 20000 in
theorem dX12_race_131 : decode cX12_race 131 = .ok (.goto 42, 3) := by decide +kernel
set_option maxRecDepth 20000 in
theorem dX12_race_134 : decode cX12_race 134 = .ok (.aload_n 0, 1) := by decide +kernel
set_option maxRecDepth 20000 in
theorem dX12_race_135 : decode cX12_race 135 = .ok (.iload 5, 2) := by decide +kernel
set_option maxRecDepth 20000 in
theorem dX12_race_137 : decode cX12_race 137 = .ok (.iconst 2, 1) := by decide +kernel
set_option maxRecDepth 20000 in
theorem dX12_race_138 : decode cX12_race 138 = .ok (.irem, 1) := by decide +kernel
set_option maxRecDepth 20000 in
theorem dX12_race_139 : decode cX12_race 139 = .ok (.aload_n 0, 1) := by decide +kernel
set_option maxRecDepth 20000 in
theorem dX12_race_140 : decode cX12_race 140 = .ok (.getfield 56, 3) := by decide +kernel
set_option maxRecDepth 20000 in
theorem dX12_race_143 : decode cX12_race 143 = .ok (.iconst 3, 1) := by decide +kernel
set_option maxRecDepth 20000 in
theorem dX12_race_144 : decode cX12_race 144 = .ok (.iload 6, 2) := by decide +kernel
set_option maxRecDepth 20000 in
theorem dX12_race_146 : decode cX12_race 146 = .ok (.imul, 1) := by decide +kernel
set_option maxRecDepth 20000 in
theorem dX12_race_147 : decode cX12_race 147 = .ok (.iaload, 1) := by decide +kernel
set_option maxRecDepth 20000 in
theorem dX12_race_148 : decode cX12_race 148 = .ok (.aload_n 0, 1) := by decide +kernel
set_option maxRecDepth 20000 in
theorem dX12_race_149 : decode cX12_race 149 = .ok (.getfield 56, 3) := by decide +kernel
set_option maxRecDepth 20000 in
theorem dX12_race_152 : decode cX12_race 152 = .ok (.iconst 3, 1) := by decide +kernel
set_option maxRecDepth 20000 in
theorem dX12_race_153 : decode cX12_race 153 = .ok (.iload 6, 2) := by decide +kernel
set_option maxRecDepth 20000 in
theorem dX12_race_155 : decode cX12_race 155 = .ok (.imul, 1) := by decide +kernel
set_option maxRecDepth 20000 in
theorem dX12_race_156 : decode cX12_race 156 = .ok (.iconst 1, 1) := by decide +kernel
set_option maxRecDepth 20000 in
theorem dX12_race_157 : decode cX12_race 157 = .ok (.iadd, 1) := by decide +kernel
set_option maxRecDepth 20000 in
theorem dX12_race_158 : decode cX12_race 158 = .ok (.iaload, 1) := by decide +kernel
set_option maxRecDepth 20000 in
theorem dX12_race_159 : decode cX12_race 159 = .ok (.aload_n 0, 1) := by decide +kernel
set_option maxRecDepth 20000 in
theorem dX12_race_160 : decode cX12_race 160 = .ok (.getfield 56, 3) := by decide +kernel
set_option maxRecDepth 20000 in
theorem dX12_race_163 : decode cX12_race 163 = .ok (.iconst 3, 1) := by decide +kernel
set_option maxRecDepth 20000 in
theorem dX12_race_164 : decode cX12_race 164 = .ok (.iload 6, 2) := by decide +kernel
set_option maxRecDepth 20000 in
theorem dX12_race_166 : decode cX12_race 166 = .ok (.imul, 1) := by decide +kernel
set_option maxRecDepth 20000 in
theorem dX12_race_167 : decode cX12_race 167 = .ok (.iconst 2, 1) := by decide +kernel
set_option maxRecDepth 20000 in
theorem dX12_race_168 : decode cX12_race 168 = .ok (.iadd, 1) := by decide +kernel
set_option maxRecDepth 20000 in
theorem dX12_race_169 : decode cX12_race 169 = .ok (.iaload, 1) := by decide +kernel
set_option maxRecDepth 20000 in
theorem dX12_race_170 : decode cX12_race 170 = .ok (.invokevirtual 173, 3) := by decide +kernel
set_option maxRecDepth 20000 in
theorem dX12_race_173 : decode cX12_race 173 = .ok (.istore 7, 2) := by decide +kernel
set_option maxRecDepth 20000 in
theorem dX12_race_175 : decode cX12_race 175 = .ok (.aload_n 0, 1) := by decide +kernel
set_option maxRecDepth 20000 in
theorem dX12_race_176 : decode cX12_race 176 = .ok (.getfield 53, 3) := by decide +kernel
set_option maxRecDepth 20000 in
theorem dX12_race_179 : decode cX12_race 179 = .ok (.iload 6, 2) := by decide +kernel
set_option maxRecDepth 20000 in
theorem dX12_race_181 : decode cX12_race 181 = .ok (.iload 7, 2) := by decide +kernel
set_option maxRecDepth 20000 in
theorem dX12_race_183 : decode cX12_race 183 = .ok (.iastore, 1) := by decide +kernel
set_option maxRecDepth 20000 in
theorem dX12_race_184 : decode cX12_race 184 = .ok (.iinc 6 1, 3) := by decide +kernel
set_option maxRecDepth 20000 in
theorem dX12_race_187 : decode cX12_race 187 = .ok (.goto (-87), 3) := by decide +kernel
set_option maxRecDepth 20000 in
theorem dX12_race_190 : decode cX12_race 190 = .ok (.iconst 0, 1) := by decide +kernel
set_option maxRecDepth 20000 in
theorem dX12_race_191 : decode cX12_race 191 = .ok (.istore 6, 2) := by decide +kernel
set_option maxRecDepth 20000 in
theorem dX12_race_193 : decode cX12_race 193 = .ok (.iload 6, 2) := by decide +kernel
set_option maxRecDepth 20000 in
theorem dX12_race_195 : decode cX12_race 195 = .ok (.iload 4, 2) := by decide +kernel
set_option maxRecDepth 20000 in
theorem dX12_race_197 : decode cX12_race 197 = .ok (.if_icmp .ge 23, 3) := by decide +kernel
set_option maxRecDepth 20000 in
theorem dX12_race_200 : decode cX12_race 200 = .ok (.aload_n 0, 1) := by decide +kernel
set_option maxRecDepth 20000 in
theorem dX12_race_201 : decode cX12_race 201 = .ok (.getfield 56, 3) := by decide +kernel
set_option maxRecDepth 20000 in
theorem dX12_race_204 : decode cX12_race 204 = .ok (.iload 6, 2) := by decide +kernel
set_option maxRecDepth 20000 in
theorem dX12_race_206 : decode cX12_race 206 = .ok (.aload_n 0, 1) := by decide +kernel
set_option maxRecDepth 20000 in
theorem dX12_race_207 : decode cX12_race 207 = .ok (.getfield 53, 3) := by decide +kernel
set_option maxRecDepth 20000 in
theorem dX12_race_210 : decode cX12_race 210 = .ok (.iload 6, 2) := by decide +kernel
set_option maxRecDepth 20000 in
theorem dX12_race_212 : decode cX12_race 212 = .ok (.iaload, 1) := by decide +kernel
set_option maxRecDepth 20000 in
theorem dX12_race_213 : decode cX12_race 213 = .ok (.iastore, 1) := by decide +kernel
set_option maxRecDepth 20000 in
theorem dX12_race_214 : decode cX12_race 214 = .ok (.iinc 6 1, 3) := by decide +kernel
set_option maxRecDepth 20000 in
theorem dX12_race_217 : decode cX12_race 217 = .ok (.goto (-24), 3) := by decide +kernel
set_option maxRecDepth 20000 in
theorem dX12_race_220 : decode cX12_race 220 = .ok (.iload 4, 2) := by decide +kernel
set_option maxRecDepth 20000 in
theorem dX12_race_222 : decode cX12_race 222 = .ok (.iconst 3, 1) := by decide +kernel
set_option maxRecDepth 20000 in
theorem dX12_race_223 : decode cX12_race 223 = .ok (.idiv, 1) := by decide +kernel
set_option maxRecDepth 20000 in
theorem dX12_race_224 : decode cX12_race 224 = .ok (.istore 4, 2) := by decide +kernel
set_option maxRecDepth 20000 in
theorem dX12_race_226 : decode cX12_race 226 = .ok (.iinc 5 (-1), 3) := by decide +kernel
set_option maxRecDepth 20000 in
theorem dX12_race_229 : decode cX12_race 229 = .ok (.goto (-137), 3) := by decide +kernel
set_option maxRecDepth 20000 in
theorem dX12_race_232 : decode cX12_race 232 = .ok (.aload_n 0, 1) := by decide +kernel
set_option maxRecDepth 20000 in
theorem dX12_race_233 : decode cX12_race 233 = .ok (.getfield 53, 3) := by decide +kernel
set_option maxRecDepth 20000 in
theorem dX12_race_236 : decode cX12_race 236 = .ok (.iconst 0, 1) := by decide +kernel
set_option maxRecDepth 20000 in
theorem dX12_race_237 : decode cX12_race 237 = .ok (.iaload, 1) := by decide +kernel
set_option maxRecDepth 20000 in
theorem dX12_race_238 : decode cX12_race 238 = .ok (.ireturn, 1) := by decide +kernel
set_option maxRecDepth 20000 in
theorem dX12_widow_0 : decode cX12_widow 0 = .ok (.iload 4, 2) := by decide +kernel
set_option maxRecDepth 20000 in
theorem dX12_widow_2 : decode cX12_widow 2 = .ok (.iconst (-1), 1) := by decide +kernel
set_option maxRecDepth 20000 in
theorem dX12_widow_3 : decode cX12_widow 3 = .ok (.if_icmp .eq 16, 3) := by decide +kernel
set_option maxRecDepth 20000 in
theorem dX12_widow_6 : decode cX12_widow 6 = .ok (.aload_n 0, 1) := by decide +kernel
set_option maxRecDepth 20000 in
theorem dX12_widow_7 : decode cX12_widow 7 = .ok (.iload 4, 2) := by decide +kernel
set_option maxRecDepth 20000 in
theorem dX12_widow_9 : decode cX12_widow 9 = .ok (.invokevirtual 94, 3) := by decide +kernel
set_option maxRecDepth 20000 in
theorem dX12_widow_12 : decode cX12_widow 12 = .ok (.ifCond .ne 7, 3) := by decide +kernel
set_option maxRecDepth 20000 in
theorem dX12_widow_15 : decode cX12_widow 15 = .ok (.ldc2_w 176, 3) := by decide +kernel
set_option maxRecDepth 20000 in
theorem dX12_widow_18 : decode cX12_widow 18 = .ok (.lreturn, 1) := by decide +kernel
set_option maxRecDepth 20000 in
theorem dX12_widow_19 : decode cX12_widow 19 = .ok (.iload_n 1, 1) := by decide +kernel
set_option maxRecDepth 20000 in
theorem dX12_widow_20 : decode cX12_widow 20 = .ok (.i2l, 1) := by decide +kernel
set_option maxRecDepth 20000 in
theorem dX12_widow_21 : decode cX12_widow 21 = .ok (.lconst 0, 1) := by decide +kernel
set_option maxRecDepth 20000 in
theorem dX12_widow_22 : decode cX12_widow 22 = .ok (.ldc2_w 178, 3) := by decide +kernel
set_option maxRecDepth 20000 in
theorem dX12_widow_25 : decode cX12_widow 25 = .ok (.invokestatic 86, 3) := by decide +kernel
set_option maxRecDepth 20000 in
theorem dX12_widow_28 : decode cX12_widow 28 = .ok (.ifCond .eq 37, 3) := by decide +kernel
set_option maxRecDepth 20000 in
theorem dX12_widow_31 : decode cX12_widow 31 = .ok (.iload_n 3, 1) := by decide +kernel
set_option maxRecDepth 20000 in
theorem dX12_widow_32 : decode cX12_widow 32 = .ok (.i2l, 1) := by decide +kernel
set_option maxRecDepth 20000 in
theorem dX12_widow_33 : decode cX12_widow 33 = .ok (.lconst 1, 1) := by decide +kernel
set_option maxRecDepth 20000 in
theorem dX12_widow_34 : decode cX12_widow 34 = .ok (.ldc2_w 167, 3) := by decide +kernel
set_option maxRecDepth 20000 in
theorem dX12_widow_37 : decode cX12_widow 37 = .ok (.invokestatic 86, 3) := by decide +kernel
set_option maxRecDepth 20000 in
theorem dX12_widow_40 : decode cX12_widow 40 = .ok (.ifCond .eq 25, 3) := by decide +kernel
set_option maxRecDepth 20000 in
theorem dX12_widow_43 : decode cX12_widow 43 = .ok (.iload_n 2, 1) := by decide +kernel
set_option maxRecDepth 20000 in
theorem dX12_widow_44 : decode cX12_widow 44 = .ok (.i2l, 1) := by decide +kernel
set_option maxRecDepth 20000 in
theorem dX12_widow_45 : decode cX12_widow 45 = .ok (.lconst 0, 1) := by decide +kernel
set_option maxRecDepth 20000 in
theorem dX12_widow_46 : decode cX12_widow 46 = .ok (.iload_n 3, 1) := by decide +kernel
set_option maxRecDepth 20000 in
theorem dX12_widow_47 : decode cX12_widow 47 = .ok (.i2l, 1) := by decide +kernel
set_option maxRecDepth 20000 in
theorem dX12_widow_48 : decode cX12_widow 48 = .ok (.invokestatic 86, 3) := by decide +kernel
set_option maxRecDepth 20000 in
theorem dX12_widow_51 : decode cX12_widow 51 = .ok (.ifCond .eq 14, 3) := by decide +kernel
set_option maxRecDepth 20000 in
theorem dX12_widow_54 : decode cX12_widow 54 = .ok (.iload 5, 2) := by decide +kernel
set_option maxRecDepth 20000 in
theorem dX12_widow_56 : decode cX12_widow 56 = .ok (.i2l, 1) := by decide +kernel
set_option maxRecDepth 20000 in
theorem dX12_widow_57 : decode cX12_widow 57 = .ok (.lconst 0, 1) := by decide +kernel
set_option maxRecDepth 20000 in
theorem dX12_widow_58 : decode cX12_widow 58 = .ok (.lconst 1, 1) := by decide +kernel
set_option maxRecDepth 20000 in
theorem dX12_widow_59 : decode cX12_widow 59 = .ok (.invokestatic 86, 3) := by decide +kernel
set_option maxRecDepth 20000 in
theorem dX12_widow_62 : decode cX12_widow 62 = .ok (.ifCond .ne 7, 3) := by decide +kernel
set_option maxRecDepth 20000 in
theorem dX12_widow_65 : decode cX12_widow 65 = .ok (.ldc2_w 180, 3) := by decide +kernel
set_option maxRecDepth 20000 in
theorem dX12_widow_68 : decode cX12_widow 68 = .ok (.lreturn, 1) := by decide +kernel
set_option maxRecDepth 20000 in
theorem dX12_widow_69 : decode cX12_widow 69 = .ok (.iload 4, 2) := by decide +kernel
set_option maxRecDepth 20000 in
theorem dX12_widow_71 : decode cX12_widow 71 = .ok (.iconst (-1), 1) := by decide +kernel
set_option maxRecDepth 20000 in
theorem dX12_widow_72 : decode cX12_widow 72 = .ok (.if_icmp .ne 10, 3) := by decide +kernel
set_option maxRecDepth 20000 in
theorem dX12_widow_75 : decode cX12_widow 75 = .ok (.aload_n 0, 1) := by decide +kernel
set_option maxRecDepth 20000 in
theorem dX12_widow_76 : decode cX12_widow 76 = .ok (.invokevirtual 154, 3) := by decide +kernel
set_option maxRecDepth 20000 in
theorem dX12_widow_79 : decode cX12_widow 79 = .ok (.goto 7, 3) := by decide +kernel
set_option maxRecDepth 20000 in
theorem dX12_widow_82 : decode cX12_widow 82 = .ok (.iconst 1, 1) := by decide +kernel
set_option maxRecDepth 20000 in
theorem dX12_widow_83 : decode cX12_widow 83 = .ok (.iload 4, 2) := by decide +kernel
set_option maxRecDepth 20000 in
theorem dX12_widow_85 : decode cX12_widow 85 = .ok (.ishl, 1) := by decide +kernel
set_option maxRecDepth 20000 in
theorem dX12_widow_86 : decode cX12_widow 86 = .ok (.istore 6, 2) := by decide +kernel
set_option maxRecDepth 20000 in
theorem dX12_widow_88 : decode cX12_widow 88 = .ok (.lconst 0, 1) := by decide +kernel
set_option maxRecDepth 20000 in
theorem dX12_widow_89 : decode cX12_widow 89 = .ok (.lstore 7, 2) := by decide +kernel
set_option maxRecDepth 20000 in
theorem dX12_widow_91 : decode cX12_widow 91 = .ok (.lconst 0, 1) := by decide +kernel
set_option maxRecDepth 20000 in
theorem dX12_widow_92 : decode cX12_widow 92 = .ok (.lstore 9, 2) := by decide +kernel
set_option maxRecDepth 20000 in
theorem dX12_widow_94 : decode cX12_widow 94 = .ok (.iconst 0, 1) := by decide +kernel
set_option maxRecDepth 20000 in
theorem dX12_widow_95 : decode cX12_widow 95 = .ok (.istore 11, 2) := by decide +kernel
set_option maxRecDepth 20000 in
theorem dX12_widow_97 : decode cX12_widow 97 = .ok (.iload 11, 2) := by decide +kernel
set_option maxRecDepth 20000 in
theorem dX12_widow_99 : decode cX12_widow 99 = .ok (.iconst 1, 1) := by decide +kernel
set_option maxRecDepth 20000 in
theorem dX12_widow_100 : decode cX12_widow 100 = .ok (.iload_n 1, 1) := by decide +kernel
set_option maxRecDepth 20000 in
theorem dX12_widow_101 : decode cX12_widow 101 = .ok (.ishl, 1) := by decide +kernel
set_option maxRecDepth 20000 in
theorem dX12_widow_102 : decode cX12_widow 102 = .ok (.if_icmp .ge 92, 3) := by decide +kernel
set_option maxRecDepth 20000 in
theorem dX12_widow_105 : decode cX12_widow 105 = .ok (.lconst 1, 1) := by decide +kernel
set_option maxRecDepth 20000 in
theorem dX12_widow_106 : decode cX12_widow 106 = .ok (.lstore 12, 2) := by decide +kernel
set_option maxRecDepth 20000 in
theorem dX12_widow_108 : decode cX12_widow 108 = .ok (.iconst 0, 1) := by decide +kernel
set_option maxRecDepth 20000 in
theorem dX12_widow_109 : decode cX12_widow 109 = .ok (.istore 14, 2) := by decide +kernel
set_option maxRecDepth 20000 in
theorem dX12_widow_111 : decode cX12_widow 111 = .ok (.iload 14, 2) := by decide +kernel
set_option maxRecDepth 20000 in
theorem dX12_widow_113 : decode cX12_widow 113 = .ok (.iload_n 1, 1) := by decide +kernel
set_option maxRecDepth 20000 in
theorem dX12_widow_114 : decode cX12_widow 114 = .ok (.if_icmp .ge 33, 3) := by decide +kernel
set_option maxRecDepth 20000 in
theorem dX12_widow_117 : decode cX12_widow 117 = .ok (.lload 12, 2) := by decide +kernel
set_option maxRecDepth 20000 in
theorem dX12_widow_119 : decode cX12_widow 119 = .ok (.iload 11, 2) := by decide +kernel
set_option maxRecDepth 20000 in
theorem dX12_widow_121 : decode cX12_widow 121 = .ok (.iload 14, 2) := by decide +kernel
set_option maxRecDepth 20000 in
theorem dX12_widow_123 : decode cX12_widow 123 = .ok (.ishr, 1) := by decide +kernel
set_option maxRecDepth 20000 in
theorem dX12_widow_124 : decode cX12_widow 124 = .ok (.iconst 1, 1) := by decide +kernel
set_option maxRecDepth 20000 in
theorem dX12_widow_125 : decode cX12_widow 125 = .ok (.iand, 1) := by decide +kernel
set_option maxRecDepth 20000 in
theorem dX12_widow_126 : decode cX12_widow 126 = .ok (.ifCond .ne 8, 3) := by decide +kernel
set_option maxRecDepth 20000 in
theorem dX12_widow_129 : decode cX12_widow 129 = .ok (.iload_n 2, 1) := by decide +kernel
set_option maxRecDepth 20000 in
theorem dX12_widow_130 : decode cX12_widow 130 = .ok (.i2l, 1) := by decide +kernel
set_option maxRecDepth 20000 in
theorem dX12_widow_131 : decode cX12_widow 131 = .ok (.goto 7, 3) := by decide +kernel
set_option maxRecDepth 20000 in
theorem dX12_widow_134 : decode cX12_widow 134 = .ok (.iload_n 3, 1) := by decide +kernel
set_option maxRecDepth 20000 in
theorem dX12_widow_135 : decode cX12_widow 135 = .ok (.iload_n 2, 1) := by decide +kernel
set_option maxRecDepth 20000 in
theorem dX12_widow_136 : decode cX12_widow 136 = .ok (.isub, 1) := by decide +kernel
set_option maxRecDepth 20000 in
theorem dX12_widow_137 : decode cX12_widow 137 = .ok (.i2l, 1) := by decide +kernel
set_option maxRecDepth 20000 in
theorem dX12_widow_138 : decode cX12_widow 138 = .ok (.lmul, 1) := by decide +kernel
set_option maxRecDepth 20000 in
theorem dX12_widow_139 : decode cX12_widow 139 = .ok (.lstore 12, 2) := by decide +kernel
set_option maxRecDepth 20000 in
theorem dX12_widow_141 : decode cX12_widow 141 = .ok (.iinc 14 1, 3) := by decide +kernel
set_option maxRecDepth 20000 in
theorem dX12_widow_144 : decode cX12_widow 144 = .ok (.goto (-33), 3) := by decide +kernel
set_option maxRecDepth 20000 in
theorem dX12_widow_147 : decode cX12_widow 147 = .ok (.aload_n 0, 1) := by decide +kernel
set_option maxRecDepth 20000 in
theorem dX12_widow_148 : decode cX12_widow 148 = .ok (.invokevirtual 120, 3) := by decide +kernel
set_option maxRecDepth 20000 in
theorem dX12_widow_151 : decode cX12_widow 151 = .ok (.aload_n 0, 1) := by decide +kernel
set_option maxRecDepth 20000 in
theorem dX12_widow_152 : decode cX12_widow 152 = .ok (.iload 11, 2) := by decide +kernel
set_option maxRecDepth 20000 in
theorem dX12_widow_154 : decode cX12_widow 154 = .ok (.iload_n 1, 1) := by decide +kernel
set_option maxRecDepth 20000 in
theorem dX12_widow_155 : decode cX12_widow 155 = .ok (.invokevirtual 147, 3) := by decide +kernel
set_option maxRecDepth 20000 in
theorem dX12_widow_158 : decode cX12_widow 158 = .ok (.lload 9, 2) := by decide +kernel
set_option maxRecDepth 20000 in
theorem dX12_widow_160 : decode cX12_widow 160 = .ok (.lload 12, 2) := by decide +kernel
set_option maxRecDepth 20000 in
theorem dX12_widow_162 : decode cX12_widow 162 = .ok (.ladd, 1) := by decide +kernel
set_option maxRecDepth 20000 in
theorem dX12_widow_163 : decode cX12_widow 163 = .ok (.lstore 9, 2) := by decide +kernel
set_option maxRecDepth 20000 in
theorem dX12_widow_165 : decode cX12_widow 165 = .ok (.lload 7, 2) := by decide +kernel
set_option maxRecDepth 20000 in
theorem dX12_widow_167 : decode cX12_widow 167 = .ok (.aload_n 0, 1) := by decide +kernel
set_option maxRecDepth 20000 in
theorem dX12_widow_168 : decode cX12_widow 168 = .ok (.getfield 105, 3) := by decide +kernel
set_option maxRecDepth 20000 in
theorem dX12_widow_171 : decode cX12_widow 171 = .ok (.iload 6, 2) := by decide +kernel
set_option maxRecDepth 20000 in
theorem dX12_widow_173 : decode cX12_widow 173 = .ok (.iand, 1) := by decide +kernel
set_option maxRecDepth 20000 in
theorem dX12_widow_174 : decode cX12_widow 174 = .ok (.iload 6, 2) := by decide +kernel
set_option maxRecDepth 20000 in
theorem dX12_widow_176 : decode cX12_widow 176 = .ok (.if_icmp .ne 8, 3) := by decide +kernel
set_option maxRecDepth 20000 in
theorem dX12_widow_179 : decode cX12_widow 179 = .ok (.lload 12, 2) := by decide +kernel
set_option maxRecDepth 20000 in
theorem dX12_widow_181 : decode cX12_widow 181 = .ok (.goto 4, 3) := by decide +kernel
set_option maxRecDepth 20000 in
theorem dX12_widow_184 : decode cX12_widow 184 = .ok (.lconst 0, 1) := by decide +kernel
set_option maxRecDepth 20000 in
theorem dX12_widow_185 : decode cX12_widow 185 = .ok (.ladd, 1) := by decide +kernel
set_option maxRecDepth 20000 in
theorem dX12_widow_186 : decode cX12_widow 186 = .ok (.lstore 7, 2) := by decide +kernel
set_option maxRecDepth 20000 in
theorem dX12_widow_188 : decode cX12_widow 188 = .ok (.iinc 11 1, 3) := by decide +kernel
set_option maxRecDepth 20000 in
theorem dX12_widow_191 : decode cX12_widow 191 = .ok (.goto (-94), 3) := by decide +kernel
set_option maxRecDepth 20000 in
theorem dX12_widow_194 : decode cX12_widow 194 = .ok (.lload 7, 2) := by decide +kernel
set_option maxRecDepth 20000 in
theorem dX12_widow_196 : decode cX12_widow 196 = .ok (.lstore 11, 2) := by decide +kernel
set_option maxRecDepth 20000 in
theorem dX12_widow_198 : decode cX12_widow 198 = .ok (.lload 9, 2) := by decide +kernel
set_option maxRecDepth 20000 in
theorem dX12_widow_200 : decode cX12_widow 200 = .ok (.lstore 13, 2) := by decide +kernel
set_option maxRecDepth 20000 in
theorem dX12_widow_202 : decode cX12_widow 202 = .ok (.lload 13, 2) := by decide +kernel
set_option maxRecDepth 20000 in
theorem dX12_widow_204 : decode cX12_widow 204 = .ok (.lconst 0, 1) := by decide +kernel
set_option maxRecDepth 20000 in
theorem dX12_widow_205 : decode cX12_widow 205 = .ok (.lcmp, 1) := by decide +kernel
set_option maxRecDepth 20000 in
theorem dX12_widow_206 : decode cX12_widow 206 = .ok (.ifCond .eq 21, 3) := by decide +kernel
set_option maxRecDepth 20000 in
theorem dX12_widow_209 : decode cX12_widow 209 = .ok (.lload 11, 2) := by decide +kernel
set_option maxRecDepth 20000 in
theorem dX12_widow_211 : decode cX12_widow 211 = .ok (.lload 13, 2) := by decide +kernel
set_option maxRecDepth 20000 in
theorem dX12_widow_213 : decode cX12_widow 213 = .ok (.lrem, 1) := by decide +kernel
set_option maxRecDepth 20000 in
theorem dX12_widow_214 : decode cX12_widow 214 = .ok (.lstore 15, 2) := by decide +kernel
set_option maxRecDepth 20000 in
theorem dX12_widow_216 : decode cX12_widow 216 = .ok (.lload 13, 2) := by decide +kernel
set_option maxRecDepth 20000 in
theorem dX12_widow_218 : decode cX12_widow 218 = .ok (.lstore 11, 2) := by decide +kernel
set_option maxRecDepth 20000 in
theorem dX12_widow_220 : decode cX12_widow 220 = .ok (.lload 15, 2) := by decide +kernel
set_option maxRecDepth 20000 in
theorem dX12_widow_222 : decode cX12_widow 222 = .ok (.lstore 13, 2) := by decide +kernel
set_option maxRecDepth 20000 in
theorem dX12_widow_224 : decode cX12_widow 224 = .ok (.goto (-22), 3) := by decide +kernel
set_option maxRecDepth 20000 in
theorem dX12_widow_227 : decode cX12_widow 227 = .ok (.iload 5, 2) := by decide +kernel
set_option maxRecDepth 20000 in
theorem dX12_widow_229 : decode cX12_widow 229 = .ok (.ifCond .ne 11, 3) := by decide +kernel
set_option maxRecDepth 20000 in
theorem dX12_widow_232 : decode cX12_widow 232 = .ok (.lload 7, 2) := by decide +kernel
set_option maxRecDepth 20000 in
theorem dX12_widow_234 : decode cX12_widow 234 = .ok (.lload 11, 2) := by decide +kernel
set_option maxRecDepth 20000 in
theorem dX12_widow_236 : decode cX12_widow 236 = .ok (.ldiv, 1) := by decide +kernel
set_option maxRecDepth 20000 in
theorem dX12_widow_237 : decode cX12_widow 237 = .ok (.goto 8, 3) := by decide +kernel
set_option maxRecDepth 20000 in
theorem dX12_widow_240 : decode cX12_widow 240 = .ok (.lload 9, 2) := by decide +kernel
set_option maxRecDepth 20000 in
theorem dX12_widow_242 : decode cX12_widow 242 = .ok (.lload 11, 2) := by decide +kernel
set_option maxRecDepth 20000 in
theorem dX12_widow_244 : decode cX12_widow 244 = .ok (.ldiv, 1) := by decide +kernel
set_option maxRecDepth 20000 in
theorem dX12_widow_245 : decode cX12_widow 245 = .ok (.lreturn, 1) := by decide +kernel
set_option maxRecDepth 20000 in
theorem dX12_padWord_0 : decode cX12_padWord 0 = .ok (.iconst 1, 1) := by decide +kernel
set_option maxRecDepth 20000 in
theorem dX12_padWord_1 : decode cX12_padWord 1 = .ok (.istore_n 1, 1) := by decide +kernel
set_option maxRecDepth 20000 in
theorem dX12_padWord_2 : decode cX12_padWord 2 = .ok (.iconst 0, 1) := by decide +kernel
set_option maxRecDepth 20000 in
theorem dX12_padWord_3 : decode cX12_padWord 3 = .ok (.istore_n 2, 1) := by decide +kernel
set_option maxRecDepth 20000 in
theorem dX12_padWord_4 : decode cX12_padWord 4 = .ok (.iload_n 2, 1) := by decide +kernel
set_option maxRecDepth 20000 in
theorem dX12_padWord_5 : decode cX12_padWord 5 = .ok (.aload_n 0, 1) := by decide +kernel
set_option maxRecDepth 20000 in
theorem dX12_padWord_6 : decode cX12_padWord 6 = .ok (.getfield 102, 3) := by decide +kernel
set_option maxRecDepth 20000 in
theorem dX12_padWord_9 : decode cX12_padWord 9 = .ok (.if_icmp .ge 55, 3) := by decide +kernel
set_option maxRecDepth 20000 in
theorem dX12_padWord_12 : decode cX12_padWord 12 = .ok (.aload_n 0, 1) := by decide +kernel
set_option maxRecDepth 20000 in
theorem dX12_padWord_13 : decode cX12_padWord 13 = .ok (.getfield 34, 3) := by decide +kernel
set_option maxRecDepth 20000 in
theorem dX12_padWord_16 : decode cX12_padWord 16 = .ok (.iload_n 2, 1) := by decide +kernel
set_option maxRecDepth 20000 in
theorem dX12_padWord_17 : decode cX12_padWord 17 = .ok (.iaload, 1) := by decide +kernel
set_option maxRecDepth 20000 in
theorem dX12_padWord_18 : decode cX12_padWord 18 = .ok (.bipush 43, 2) := by decide +kernel
set_option maxRecDepth 20000 in
theorem dX12_padWord_20 : decode cX12_padWord 20 = .ok (.if_icmp .eq 17, 3) := by decide +kernel
set_option maxRecDepth 20000 in
theorem dX12_padWord_23 : decode cX12_padWord 23 = .ok (.aload_n 0, 1) := by decide +kernel
set_option maxRecDepth 20000 in
theorem dX12_padWord_24 : decode cX12_padWord 24 = .ok (.getfield 34, 3) := by decide +kernel
set_option maxRecDepth 20000 in
theorem dX12_padWord_27 : decode cX12_padWord 27 = .ok (.iload_n 2, 1) := by decide +kernel
set_option maxRecDepth 20000 in
theorem dX12_padWord_28 : decode cX12_padWord 28 = .ok (.iaload, 1) := by decide +kernel
set_option maxRecDepth 20000 in
theorem dX12_padWord_29 : decode cX12_padWord 29 = .ok (.bipush 45, 2) := by decide +kernel
set_option maxRecDepth 20000 in
theorem dX12_padWord_31 : decode cX12_padWord 31 = .ok (.if_icmp .eq 6, 3) := by decide +kernel
set_option maxRecDepth 20000 in
theorem dX12_padWord_34 : decode cX12_padWord 34 = .ok (.bipush (-6), 2) := by decide +kernel
set_option maxRecDepth 20000 in
theorem dX12_padWord_36 : decode cX12_padWord 36 = .ok (.ireturn, 1) := by decide +kernel
set_option maxRecDepth 20000 in
theorem dX12_padWord_37 : decode cX12_padWord 37 = .ok (.iconst 2, 1) := by decide +kernel
set_option maxRecDepth 20000 in
theorem dX12_padWord_38 : decode cX12_padWord 38 = .ok (.iload_n 1, 1) := by decide +kernel
set_option maxRecDepth 20000 in
theorem dX12_padWord_39 : decode cX12_padWord 39 = .ok (.imul, 1) := by decide +kernel
set_option maxRecDepth 20000 in
theorem dX12_padWord_40 : decode cX12_padWord 40 = .ok (.aload_n 0, 1) := by decide +kernel
set_option maxRecDepth 20000 in
theorem dX12_padWord_41 : decode cX12_padWord 41 = .ok (.getfield 34, 3) := by decide +kernel
set_option maxRecDepth 20000 in
theorem dX12_padWord_44 : decode cX12_padWord 44 = .ok (.iload_n 2, 1) := by decide +kernel
set_option maxRecDepth 20000 in
theorem dX12_padWord_45 : decode cX12_padWord 45 = .ok (.iaload, 1) := by decide +kernel
set_option maxRecDepth 20000 in
theorem dX12_padWord_46 : decode cX12_padWord 46 = .ok (.bipush 45, 2) := by decide +kernel
set_option maxRecDepth 20000 in
theorem dX12_padWord_48 : decode cX12_padWord 48 = .ok (.if_icmp .ne 7, 3) := by decide +kernel
set_option maxRecDepth 20000 in
theorem dX12_padWord_51 : decode cX12_padWord 51 = .ok (.iconst 1, 1) := by decide +kernel
set_option maxRecDepth 20000 in
theorem dX12_padWord_52 : decode cX12_padWord 52 = .ok (.goto 4, 3) := by decide +kernel
set_option maxRecDepth 20000 in
theorem dX12_padWord_55 : decode cX12_padWord 55 = .ok (.iconst 0, 1) := by decide +kernel
set_option maxRecDepth 20000 in
theorem dX12_padWord_56 : decode cX12_padWord 56 = .ok (.iadd, 1) := by decide +kernel
set_option maxRecDepth 20000 in
theorem dX12_padWord_57 : decode cX12_padWord 57 = .ok (.istore_n 1, 1) := by decide +kernel
set_option maxRecDepth 20000 in
theorem dX12_padWord_58 : decode cX12_padWord 58 = .ok (.iinc 2 1, 3) := by decide +kernel
set_option maxRecDepth 20000 in
theorem dX12_padWord_61 : decode cX12_padWord 61 = .ok (.goto (-57), 3) := by decide +kernel
set_option maxRecDepth 20000 in
theorem dX12_padWord_64 : decode cX12_padWord 64 = .ok (.aload_n 0, 1) := by decide +kernel
set_option maxRecDepth 20000 in
theorem dX12_padWord_65 : decode cX12_padWord 65 = .ok (.getfield 102, 3) := by decide +kernel
set_option maxRecDepth 20000 in
theorem dX12_padWord_68 : decode cX12_padWord 68 = .ok (.i2l, 1) := by decide +kernel
set_option maxRecDepth 20000 in
theorem dX12_padWord_69 : decode cX12_padWord 69 = .ok (.lconst 1, 1) := by decide +kernel
set_option maxRecDepth 20000 in
theorem dX12_padWord_70 : decode cX12_padWord 70 = .ok (.ldc2_w 182, 3) := by decide +kernel
set_option maxRecDepth 20000 in
theorem dX12_padWord_73 : decode cX12_padWord 73 = .ok (.invokestatic 86, 3) := by decide +kernel
set_option maxRecDepth 20000 in
theorem dX12_padWord_76 : decode cX12_padWord 76 = .ok (.ifCond .eq 7, 3) := by decide +kernel
set_option maxRecDepth 20000 in
theorem dX12_padWord_79 : decode cX12_padWord 79 = .ok (.iload_n 1, 1) := by decide +kernel
set_option maxRecDepth 20000 in
theorem dX12_padWord_80 : decode cX12_padWord 80 = .ok (.goto 5, 3) := by decide +kernel
set_option maxRecDepth 20000 in
theorem dX12_padWord_83 : decode cX12_padWord 83 = .ok (.bipush (-6), 2) := by decide +kernel
set_option maxRecDepth 20000 in
theorem dX12_padWord_85 : decode cX12_padWord 85 = .ok (.ireturn, 1) := by decide +kernel
set_option maxRecDepth 20000 in
theorem dX12_word_0 : decode cX12_word 0 = .ok (.aload_n 0, 1) := by decide +kernel
set_option maxRecDepth 20000 in
theorem dX12_word_1 : decode cX12_word 1 = .ok (.getfield 102, 3) := by decide +kernel
set_option maxRecDepth 20000 in
theorem dX12_word_4 : decode cX12_word 4 = .ok (.bipush 8, 2) := by decide +kernel
set_option maxRecDepth 20000 in
theorem dX12_word_6 : decode cX12_word 6 = .ok (.if_icmp .le 8, 3) := by decide +kernel
set_option maxRecDepth 20000 in
theorem dX12_word_9 : decode cX12_word 9 = .ok (.bipush (-6), 2) := by decide +kernel
set_option maxRecDepth 20000 in
theorem dX12_word_11 : decode cX12_word 11 = .ok (.goto 7, 3) := by decide +kernel
set_option maxRecDepth 20000 in
theorem dX12_word_14 : decode cX12_word 14 = .ok (.aload_n 0, 1) := by decide +kernel
set_option maxRecDepth 20000 in
theorem dX12_word_15 : decode cX12_word 15 = .ok (.invokevirtual 184, 3) := by decide +kernel
set_option maxRecDepth 20000 in
theorem dX12_word_18 : decode cX12_word 18 = .ok (.istore_n 1, 1) := by decide +kernel
set_option maxRecDepth 20000 in
theorem dX12_word_19 : decode cX12_word 19 = .ok (.iconst 0, 1) := by decide +kernel
set_option maxRecDepth 20000 in
theorem dX12_word_20 : decode cX12_word 20 = .ok (.istore_n 2, 1) := by decide +kernel
set_option maxRecDepth 20000 in
theorem dX12_word_21 : decode cX12_word 21 = .ok (.iload_n 2, 1) := by decide +kernel
set_option maxRecDepth 20000 in
theorem dX12_word_22 : decode cX12_word 22 = .ok (.aload_n 0, 1) := by decide +kernel
set_option maxRecDepth 20000 in
theorem dX12_word_23 : decode cX12_word 23 = .ok (.getfield 187, 3) := by decide +kernel
set_option maxRecDepth 20000 in
theorem dX12_word_26 : decode cX12_word 26 = .ok (.if_icmp .ge 26, 3) := by decide +kernel
set_option maxRecDepth 20000 in
theorem dX12_word_29 : decode cX12_word 29 = .ok (.aload_n 0, 1) := by decide +kernel
set_option maxRecDepth 20000 in
theorem dX12_word_30 : decode cX12_word 30 = .ok (.getfield 22, 3) := by decide +kernel
set_option maxRecDepth 20000 in
theorem dX12_word_33 : decode cX12_word 33 = .ok (.iload_n 2, 1) := by decide +kernel
set_option maxRecDepth 20000 in
theorem dX12_word_34 : decode cX12_word 34 = .ok (.iaload, 1) := by decide +kernel
set_option maxRecDepth 20000 in
theorem dX12_word_35 : decode cX12_word 35 = .ok (.iload_n 1, 1) := by decide +kernel
set_option maxRecDepth 20000 in
theorem dX12_word_36 : decode cX12_word 36 = .ok (.if_icmp .ne 8, 3) := by decide +kernel
set_option maxRecDepth 20000 in
theorem dX12_word_39 : decode cX12_word 39 = .ok (.bipush (-6), 2) := by decide +kernel
set_option maxRecDepth 20000 in
theorem dX12_word_41 : decode cX12_word 41 = .ok (.goto 4, 3) := by decide +kernel
set_option maxRecDepth 20000 in
theorem dX12_word_44 : decode cX12_word 44 = .ok (.iload_n 1, 1) := by decide +kernel
set_option maxRecDepth 20000 in
theorem dX12_word_45 : decode cX12_word 45 = .ok (.istore_n 1, 1) := by decide +kernel
set_option maxRecDepth 20000 in
theorem dX12_word_46 : decode cX12_word 46 = .ok (.iinc 2 1, 3) := by decide +kernel
set_option maxRecDepth 20000 in
theorem dX12_word_49 : decode cX12_word 49 = .ok (.goto (-28), 3) := by decide +kernel
set_option maxRecDepth 20000 in
theorem dX12_word_52 : decode cX12_word 52 = .ok (.iload_n 1, 1) := by decide +kernel
set_option maxRecDepth 20000 in
theorem dX12_word_53 : decode cX12_word 53 = .ok (.ifCond .ge 6, 3) := by decide +kernel
set_option maxRecDepth 20000 in
theorem dX12_word_56 : decode cX12_word 56 = .ok (.bipush (-5), 2) := by decide +kernel
set_option maxRecDepth 20000 in
theorem dX12_word_58 : decode cX12_word 58 = .ok (.ireturn, 1) := by decide +kernel
set_option maxRecDepth 20000 in
theorem dX12_word_59 : decode cX12_word 59 = .ok (.aload_n 0, 1) := by decide +kernel
set_option maxRecDepth 20000 in
theorem dX12_word_60 : decode cX12_word 60 = .ok (.getfield 187, 3) := by decide +kernel
set_option maxRecDepth 20000 in
theorem dX12_word_63 : decode cX12_word 63 = .ok (.bipush 8, 2) := by decide +kernel
set_option maxRecDepth 20000 in
theorem dX12_word_65 : decode cX12_word 65 = .ok (.if_icmp .ne 6, 3) := by decide +kernel
set_option maxRecDepth 20000 in
theorem dX12_word_68 : decode cX12_word 68 = .ok (.bipush (-4), 2) := by decide +kernel
set_option maxRecDepth 20000 in
theorem dX12_word_70 : decode cX12_word 70 = .ok (.ireturn, 1) := by decide +kernel
set_option maxRecDepth 20000 in
theorem dX12_word_71 : decode cX12_word 71 = .ok (.aload_n 0, 1) := by decide +kernel
set_option maxRecDepth 20000 in
theorem dX12_word_72 : decode cX12_word 72 = .ok (.getfield 22, 3) := by decide +kernel
set_option maxRecDepth 20000 in
theorem dX12_word_75 : decode cX12_word 75 = .ok (.aload_n 0, 1) := by decide +kernel
set_option maxRecDepth 20000 in
theorem dX12_word_76 : decode cX12_word 76 = .ok (.getfield 187, 3) := by decide +kernel
set_option maxRecDepth 20000 in
theorem dX12_word_79 : decode cX12_word 79 = .ok (.iload_n 1, 1) := by decide +kernel
set_option maxRecDepth 20000 in
theorem dX12_word_80 : decode cX12_word 80 = .ok (.iastore, 1) := by decide +kernel
set_option maxRecDepth 20000 in
theorem dX12_word_81 : decode cX12_word 81 = .ok (.aload_n 0, 1) := by decide +kernel
set_option maxRecDepth 20000 in
theorem dX12_word_82 : decode cX12_word 82 = .ok (.dup, 1) := by decide +kernel
set_option maxRecDepth 20000 in
theorem dX12_word_83 : decode cX12_word 83 = .ok (.getfield 187, 3) := by decide +kernel
set_option maxRecDepth 20000 in
theorem dX12_word_86 : decode cX12_word 86 = .ok (.iconst 1, 1) := by decide +kernel
set_option maxRecDepth 20000 in
theorem dX12_word_87 : decode cX12_word 87 = .ok (.iadd, 1) := by decide +kernel
set_option maxRecDepth 20000 in
theorem dX12_word_88 : decode cX12_word 88 = .ok (.putfield 187, 3) := by decide +kernel
set_option maxRecDepth 20000 in
theorem dX12_word_91 : decode cX12_word 91 = .ok (.aload_n 0, 1) := by decide +kernel
set_option maxRecDepth 20000 in
theorem dX12_word_92 : decode cX12_word 92 = .ok (.iconst 0, 1) := by decide +kernel
set_option maxRecDepth 20000 in
theorem dX12_word_93 : decode cX12_word 93 = .ok (.putfield 102, 3) := by decide +kernel
set_option maxRecDepth 20000 in
theorem dX12_word_96 : decode cX12_word 96 = .ok (.aload_n 0, 1) := by decide +kernel
set_option maxRecDepth 20000 in
theorem dX12_word_97 : decode cX12_word 97 = .ok (.getfield 187, 3) := by decide +kernel
set_option maxRecDepth 20000 in
theorem dX12_word_100 : decode cX12_word 100 = .ok (.ireturn, 1) := by decide +kernel
set_option maxRecDepth 20000 in
theorem dX12_drop_0 : decode cX12_drop 0 = .ok (.aload_n 0, 1) := by decide +kernel
set_option maxRecDepth 20000 in
theorem dX12_drop_1 : decode cX12_drop 1 = .ok (.getfield 187, 3) := by decide +kernel
set_option maxRecDepth 20000 in
theorem dX12_drop_4 : decode cX12_drop 4 = .ok (.istore_n 1, 1) := by decide +kernel
set_option maxRecDepth 20000 in
theorem dX12_drop_5 : decode cX12_drop 5 = .ok (.aload_n 0, 1) := by decide +kernel
set_option maxRecDepth 20000 in
theorem dX12_drop_6 : decode cX12_drop 6 = .ok (.iconst 0, 1) := by decide +kernel
set_option maxRecDepth 20000 in
theorem dX12_drop_7 : decode cX12_drop 7 = .ok (.putfield 187, 3) := by decide +kernel
set_option maxRecDepth 20000 in
theorem dX12_drop_10 : decode cX12_drop 10 = .ok (.iload_n 1, 1) := by decide +kernel
set_option maxRecDepth 20000 in
theorem dX12_drop_11 : decode cX12_drop 11 = .ok (.ireturn, 1) := by decide +kernel
set_option maxRecDepth 20000 in
theorem dX12_longOf_0 : decode cX12_longOf 0 = .ok (.iconst 0, 1) := by decide +kernel
set_option maxRecDepth 20000 in
theorem dX12_longOf_1 : decode cX12_longOf 1 = .ok (.istore_n 1, 1) := by decide +kernel
set_option maxRecDepth 20000 in
theorem dX12_longOf_2 : decode cX12_longOf 2 = .ok (.iload_n 0, 1) := by decide +kernel
set_option maxRecDepth 20000 in
theorem dX12_longOf_3 : decode cX12_longOf 3 = .ok (.istore_n 2, 1) := by decide +kernel
set_option maxRecDepth 20000 in
theorem dX12_longOf_4 : decode cX12_longOf 4 = .ok (.iload_n 2, 1) := by decide +kernel
set_option maxRecDepth 20000 in
theorem dX12_longOf_5 : decode cX12_longOf 5 = .ok (.iconst 1, 1) := by decide +kernel
set_option maxRecDepth 20000 in
theorem dX12_longOf_6 : decode cX12_longOf 6 = .ok (.if_icmp .le 13, 3) := by decide +kernel
set_option maxRecDepth 20000 in
theorem dX12_longOf_9 : decode cX12_longOf 9 = .ok (.iinc 1 1, 3) := by decide +kernel
set_option maxRecDepth 20000 in
theorem dX12_longOf_12 : decode cX12_longOf 12 = .ok (.iload_n 2, 1) := by decide +kernel
set_option maxRecDepth 20000 in
theorem dX12_longOf_13 : decode cX12_longOf 13 = .ok (.iconst 2, 1) := by decide +kernel
set_option maxRecDepth 20000 in
theorem dX12_longOf_14 : decode cX12_longOf 14 = .ok (.idiv, 1) := by decide +kernel
set_option maxRecDepth 20000 in
theorem dX12_longOf_15 : decode cX12_longOf 15 = .ok (.istore_n 2, 1) := by decide +kernel
set_option maxRecDepth 20000 in
theorem dX12_longOf_16 : decode cX12_longOf 16 = .ok (.goto (-12), 3) := by decide +kernel
set_option maxRecDepth 20000 in
theorem dX12_longOf_19 : decode cX12_longOf 19 = .ok (.iload_n 1, 1) := by decide +kernel
set_option maxRecDepth 20000 in
theorem dX12_longOf_20 : decode cX12_longOf 20 = .ok (.ireturn, 1) := by decide +kernel
set_option maxRecDepth 20000 in
theorem dX12_leftOf_0 : decode cX12_leftOf 0 = .ok (.iload_n 0, 1) := by decide +kernel
set_option maxRecDepth 20000 in
theorem dX12_leftOf_1 : decode cX12_leftOf 1 = .ok (.invokestatic 190, 3) := by decide +kernel
set_option maxRecDepth 20000 in
theorem dX12_leftOf_4 : decode cX12_leftOf 4 = .ok (.iload_n 1, 1) := by decide +kernel
set_option maxRecDepth 20000 in
theorem dX12_leftOf_5 : decode cX12_leftOf 5 = .ok (.invokestatic 190, 3) := by decide +kernel
set_option maxRecDepth 20000 in
theorem dX12_leftOf_8 : decode cX12_leftOf 8 = .ok (.isub, 1) := by decide +kernel
set_option maxRecDepth 20000 in
theorem dX12_leftOf_9 : decode cX12_leftOf 9 = .ok (.istore_n 2, 1) := by decide +kernel
set_option maxRecDepth 20000 in
theorem dX12_leftOf_10 : decode cX12_leftOf 10 = .ok (.iload_n 2, 1) := by decide +kernel
set_option maxRecDepth 20000 in
theorem dX12_leftOf_11 : decode cX12_leftOf 11 = .ok (.ifCond .lt 24, 3) := by decide +kernel
set_option maxRecDepth 20000 in
theorem dX12_leftOf_14 : decode cX12_leftOf 14 = .ok (.iload_n 0, 1) := by decide +kernel
set_option maxRecDepth 20000 in
theorem dX12_leftOf_15 : decode cX12_leftOf 15 = .ok (.iload_n 2, 1) := by decide +kernel
set_option maxRecDepth 20000 in
theorem dX12_leftOf_16 : decode cX12_leftOf 16 = .ok (.ishr, 1) := by decide +kernel
set_option maxRecDepth 20000 in
theorem dX12_leftOf_17 : decode cX12_leftOf 17 = .ok (.iload_n 1, 1) := by decide +kernel
set_option maxRecDepth 20000 in
theorem dX12_leftOf_18 : decode cX12_leftOf 18 = .ok (.if_icmp .ne 17, 3) := by decide +kernel
set_option maxRecDepth 20000 in
theorem dX12_leftOf_21 : decode cX12_leftOf 21 = .ok (.iconst 1, 1) := by decide +kernel
set_option maxRecDepth 20000 in
theorem dX12_leftOf_22 : decode cX12_leftOf 22 = .ok (.iload_n 2, 1) := by decide +kernel
set_option maxRecDepth 20000 in
theorem dX12_leftOf_23 : decode cX12_leftOf 23 = .ok (.ishl, 1) := by decide +kernel
set_option maxRecDepth 20000 in
theorem dX12_leftOf_24 : decode cX12_leftOf 24 = .ok (.iload_n 0, 1) := by decide +kernel
set_option maxRecDepth 20000 in
theorem dX12_leftOf_25 : decode cX12_leftOf 25 = .ok (.iconst 1, 1) := by decide +kernel
set_option maxRecDepth 20000 in
theorem dX12_leftOf_26 : decode cX12_leftOf 26 = .ok (.iload_n 2, 1) := by decide +kernel
set_option maxRecDepth 20000 in
theorem dX12_leftOf_27 : decode cX12_leftOf 27 = .ok (.ishl, 1) := by decide +kernel
set_option maxRecDepth 20000 in
theorem dX12_leftOf_28 : decode cX12_leftOf 28 = .ok (.iconst 1, 1) := by decide +kernel
set_option maxRecDepth 20000 in
theorem dX12_leftOf_29 : decode cX12_leftOf 29 = .ok (.isub, 1) := by decide +kernel
set_option maxRecDepth 20000 in
theorem dX12_leftOf_30 : decode cX12_leftOf 30 = .ok (.iand, 1) := by decide +kernel
set_option maxRecDepth 20000 in
theorem dX12_leftOf_31 : decode cX12_leftOf 31 = .ok (.ior, 1) := by decide +kernel
set_option maxRecDepth 20000 in
theorem dX12_leftOf_32 : decode cX12_leftOf 32 = .ok (.goto 5, 3) := by decide +kernel
set_option maxRecDepth 20000 in
theorem dX12_leftOf_35 : decode cX12_leftOf 35 = .ok (.bipush (-6), 2) := by decide +kernel
set_option maxRecDepth 20000 in
theorem dX12_leftOf_37 : decode cX12_leftOf 37 = .ok (.ireturn, 1) := by decide +kernel
set_option maxRecDepth 20000 in
theorem dX12_areApart_0 : decode cX12_areApart 0 = .ok (.iconst 1, 1) := by decide +kernel
set_option maxRecDepth 20000 in
theorem dX12_areApart_1 : decode cX12_areApart 1 = .ok (.istore_n 1, 1) := by decide +kernel
set_option maxRecDepth 20000 in
theorem dX12_areApart_2 : decode cX12_areApart 2 = .ok (.iconst 0, 1) := by decide +kernel
set_option maxRecDepth 20000 in
theorem dX12_areApart_3 : decode cX12_areApart 3 = .ok (.istore_n 2, 1) := by decide +kernel
set_option maxRecDepth 20000 in
theorem dX12_areApart_4 : decode cX12_areApart 4 = .ok (.iload_n 2, 1) := by decide +kernel
set_option maxRecDepth 20000 in
theorem dX12_areApart_5 : decode cX12_areApart 5 = .ok (.aload_n 0, 1) := by decide +kernel
set_option maxRecDepth 20000 in
theorem dX12_areApart_6 : decode cX12_areApart 6 = .ok (.getfield 187, 3) := by decide +kernel
set_option maxRecDepth 20000 in
theorem dX12_areApart_9 : decode cX12_areApart 9 = .ok (.if_icmp .ge 58, 3) := by decide +kernel
set_option maxRecDepth 20000 in
theorem dX12_areApart_12 : decode cX12_areApart 12 = .ok (.iconst 0, 1) := by decide +kernel
set_option maxRecDepth 20000 in
theorem dX12_areApart_13 : decode cX12_areApart 13 = .ok (.istore_n 3, 1) := by decide +kernel
set_option maxRecDepth 20000 in
theorem dX12_areApart_14 : decode cX12_areApart 14 = .ok (.iload_n 3, 1) := by decide +kernel
set_option maxRecDepth 20000 in
theorem dX12_areApart_15 : decode cX12_areApart 15 = .ok (.aload_n 0, 1) := by decide +kernel
set_option maxRecDepth 20000 in
theorem dX12_areApart_16 : decode cX12_areApart 16 = .ok (.getfield 187, 3) := by decide +kernel
set_option maxRecDepth 20000 in
theorem dX12_areApart_19 : decode cX12_areApart 19 = .ok (.if_icmp .ge 42, 3) := by decide +kernel
set_option maxRecDepth 20000 in
theorem dX12_areApart_22 : decode cX12_areApart 22 = .ok (.iload_n 1, 1) := by decide +kernel
set_option maxRecDepth 20000 in
theorem dX12_areApart_23 : decode cX12_areApart 23 = .ok (.ifCond .eq 30, 3) := by decide +kernel
set_option maxRecDepth 20000 in
theorem dX12_areApart_26 : decode cX12_areApart 26 = .ok (.iload_n 2, 1) := by decide +kernel
set_option maxRecDepth 20000 in
theorem dX12_areApart_27 : decode cX12_areApart 27 = .ok (.iload_n 3, 1) := by decide +kernel
set_option maxRecDepth 20000 in
theorem dX12_areApart_28 : decode cX12_areApart 28 = .ok (.if_icmp .eq 21, 3) := by decide +kernel
set_option maxRecDepth 20000 in
theorem dX12_areApart_31 : decode cX12_areApart 31 = .ok (.aload_n 0, 1) := by decide +kernel
set_option maxRecDepth 20000 in
theorem dX12_areApart_32 : decode cX12_areApart 32 = .ok (.getfield 22, 3) := by decide +kernel
set_option maxRecDepth 20000 in
theorem dX12_areApart_35 : decode cX12_areApart 35 = .ok (.iload_n 2, 1) := by decide +kernel
set_option maxRecDepth 20000 in
theorem dX12_areApart_36 : decode cX12_areApart 36 = .ok (.iaload, 1) := by decide +kernel
set_option maxRecDepth 20000 in
theorem dX12_areApart_37 : decode cX12_areApart 37 = .ok (.aload_n 0, 1) := by decide +kernel
set_option maxRecDepth 20000 in
theorem dX12_areApart_38 : decode cX12_areApart 38 = .ok (.getfield 22, 3) := by decide +kernel
set_option maxRecDepth 20000 in
theorem dX12_areApart_41 : decode cX12_areApart 41 = .ok (.iload_n 3, 1) := by decide +kernel
set_option maxRecDepth 20000 in
theorem dX12_areApart_42 : decode cX12_areApart 42 = .ok (.iaload, 1) := by decide +kernel
set_option maxRecDepth 20000 in
theorem dX12_areApart_43 : decode cX12_areApart 43 = .ok (.invokestatic 193, 3) := by decide +kernel
set_option maxRecDepth 20000 in
theorem dX12_areApart_46 : decode cX12_areApart 46 = .ok (.ifCond .ge 7, 3) := by decide +kernel
set_option maxRecDepth 20000 in
theorem dX12_areApart_49 : decode cX12_areApart 49 = .ok (.iconst 1, 1) := by decide +kernel
set_option maxRecDepth 20000 in
theorem dX12_areApart_50 : decode cX12_areApart 50 = .ok (.goto 4, 3) := by decide +kernel
set_option maxRecDepth 20000 in
theorem dX12_areApart_53 : decode cX12_areApart 53 = .ok (.iconst 0, 1) := by decide +kernel
set_option maxRecDepth 20000 in
theorem dX12_areApart_54 : decode cX12_areApart 54 = .ok (.istore_n 1, 1) := by decide +kernel
set_option maxRecDepth 20000 in
theorem dX12_areApart_55 : decode cX12_areApart 55 = .ok (.iinc 3 1, 3) := by decide +kernel
set_option maxRecDepth 20000 in
theorem dX12_areApart_58 : decode cX12_areApart 58 = .ok (.goto (-44), 3) := by decide +kernel
set_option maxRecDepth 20000 in
theorem dX12_areApart_61 : decode cX12_areApart 61 = .ok (.iinc 2 1, 3) := by decide +kernel
set_option maxRecDepth 20000 in
theorem dX12_areApart_64 : decode cX12_areApart 64 = .ok (.goto (-60), 3) := by decide +kernel
set_option maxRecDepth 20000 in
theorem dX12_areApart_67 : decode cX12_areApart 67 = .ok (.iload_n 1, 1) := by decide +kernel
set_option maxRecDepth 20000 in
theorem dX12_areApart_68 : decode cX12_areApart 68 = .ok (.ireturn, 1) := by decide +kernel
set_option maxRecDepth 20000 in
theorem dX12_fewer_0 : decode cX12_fewer 0 = .ok (.iload_n 1, 1) := by decide +kernel
set_option maxRecDepth 20000 in
theorem dX12_fewer_1 : decode cX12_fewer 1 = .ok (.ifCond .lt 17, 3) := by decide +kernel
set_option maxRecDepth 20000 in
theorem dX12_fewer_4 : decode cX12_fewer 4 = .ok (.iload_n 2, 1) := by decide +kernel
set_option maxRecDepth 20000 in
theorem dX12_fewer_5 : decode cX12_fewer 5 = .ok (.aload_n 0, 1) := by decide +kernel
set_option maxRecDepth 20000 in
theorem dX12_fewer_6 : decode cX12_fewer 6 = .ok (.getfield 59, 3) := by decide +kernel
set_option maxRecDepth 20000 in
theorem dX12_fewer_9 : decode cX12_fewer 9 = .ok (.iload_n 1, 1) := by decide +kernel
set_option maxRecDepth 20000 in
theorem dX12_fewer_10 : decode cX12_fewer 10 = .ok (.iaload, 1) := by decide +kernel
set_option maxRecDepth 20000 in
theorem dX12_fewer_11 : decode cX12_fewer 11 = .ok (.if_icmp .ge 7, 3) := by decide +kernel
set_option maxRecDepth 20000 in
theorem dX12_fewer_14 : decode cX12_fewer 14 = .ok (.iconst 1, 1) := by decide +kernel
set_option maxRecDepth 20000 in
theorem dX12_fewer_15 : decode cX12_fewer 15 = .ok (.goto 4, 3) := by decide +kernel
set_option maxRecDepth 20000 in
theorem dX12_fewer_18 : decode cX12_fewer 18 = .ok (.iconst 0, 1) := by decide +kernel
set_option maxRecDepth 20000 in
theorem dX12_fewer_19 : decode cX12_fewer 19 = .ok (.istore_n 3, 1) := by decide +kernel
set_option maxRecDepth 20000 in
theorem dX12_fewer_20 : decode cX12_fewer 20 = .ok (.iload_n 3, 1) := by decide +kernel
set_option maxRecDepth 20000 in
theorem dX12_fewer_21 : decode cX12_fewer 21 = .ok (.ifCond .eq 10, 3) := by decide +kernel
set_option maxRecDepth 20000 in
theorem dX12_fewer_24 : decode cX12_fewer 24 = .ok (.aload_n 0, 1) := by decide +kernel
set_option maxRecDepth 20000 in
theorem dX12_fewer_25 : decode cX12_fewer 25 = .ok (.getfield 59, 3) := by decide +kernel
set_option maxRecDepth 20000 in
theorem dX12_fewer_28 : decode cX12_fewer 28 = .ok (.iload_n 1, 1) := by decide +kernel
set_option maxRecDepth 20000 in
theorem dX12_fewer_29 : decode cX12_fewer 29 = .ok (.iload_n 2, 1) := by decide +kernel
set_option maxRecDepth 20000 in
theorem dX12_fewer_30 : decode cX12_fewer 30 = .ok (.iastore, 1) := by decide +kernel
set_option maxRecDepth 20000 in
theorem dX12_fewer_31 : decode cX12_fewer 31 = .ok (.iload_n 3, 1) := by decide +kernel
set_option maxRecDepth 20000 in
theorem dX12_fewer_32 : decode cX12_fewer 32 = .ok (.ireturn, 1) := by decide +kernel
set_option maxRecDepth 20000 in
theorem dX12_doubt_0 : decode cX12_doubt 0 = .ok (.iconst 0, 1) := by decide +kernel
set_option maxRecDepth 20000 in
theorem dX12_doubt_1 : decode cX12_doubt 1 = .ok (.istore_n 1, 1) := by decide +kernel
set_option maxRecDepth 20000 in
theorem dX12_doubt_2 : decode cX12_doubt 2 = .ok (.iload_n 1, 1) := by decide +kernel
set_option maxRecDepth 20000 in
theorem dX12_doubt_3 : decode cX12_doubt 3 = .ok (.sipush 512, 3) := by decide +kernel
set_option maxRecDepth 20000 in
theorem dX12_doubt_6 : decode cX12_doubt 6 = .ok (.if_icmp .ge 18, 3) := by decide +kernel
set_option maxRecDepth 20000 in
theorem dX12_doubt_9 : decode cX12_doubt 9 = .ok (.aload_n 0, 1) := by decide +kernel
set_option maxRecDepth 20000 in
theorem dX12_doubt_10 : decode cX12_doubt 10 = .ok (.getfield 59, 3) := by decide +kernel
set_option maxRecDepth 20000 in
theorem dX12_doubt_13 : decode cX12_doubt 13 = .ok (.iload_n 1, 1) := by decide +kernel
set_option maxRecDepth 20000 in
theorem dX12_doubt_14 : decode cX12_doubt 14 = .ok (.sipush 1000, 3) := by decide +kernel
set_option maxRecDepth 20000 in
theorem dX12_doubt_17 : decode cX12_doubt 17 = .ok (.iastore, 1) := by decide +kernel
set_option maxRecDepth 20000 in
theorem dX12_doubt_18 : decode cX12_doubt 18 = .ok (.iinc 1 1, 3) := by decide +kernel
set_option maxRecDepth 20000 in
theorem dX12_doubt_21 : decode cX12_doubt 21 = .ok (.goto (-19), 3) := by decide +kernel
set_option maxRecDepth 20000 in
theorem dX12_doubt_24 : decode cX12_doubt 24 = .ok (.iconst 0, 1) := by decide +kernel
set_option maxRecDepth 20000 in
theorem dX12_doubt_25 : decode cX12_doubt 25 = .ok (.istore_n 1, 1) := by decide +kernel
set_option maxRecDepth 20000 in
theorem dX12_doubt_26 : decode cX12_doubt 26 = .ok (.iload_n 1, 1) := by decide +kernel
set_option maxRecDepth 20000 in
theorem dX12_doubt_27 : decode cX12_doubt 27 = .ok (.aload_n 0, 1) := by decide +kernel
set_option maxRecDepth 20000 in
theorem dX12_doubt_28 : decode cX12_doubt 28 = .ok (.getfield 187, 3) := by decide +kernel
set_option maxRecDepth 20000 in
theorem dX12_doubt_31 : decode cX12_doubt 31 = .ok (.if_icmp .ge 59, 3) := by decide +kernel
set_option maxRecDepth 20000 in
theorem dX12_doubt_34 : decode cX12_doubt 34 = .ok (.iconst 0, 1) := by decide +kernel
set_option maxRecDepth 20000 in
theorem dX12_doubt_35 : decode cX12_doubt 35 = .ok (.istore_n 2, 1) := by decide +kernel
set_option maxRecDepth 20000 in
theorem dX12_doubt_36 : decode cX12_doubt 36 = .ok (.iload_n 2, 1) := by decide +kernel
set_option maxRecDepth 20000 in
theorem dX12_doubt_37 : decode cX12_doubt 37 = .ok (.aload_n 0, 1) := by decide +kernel
set_option maxRecDepth 20000 in
theorem dX12_doubt_38 : decode cX12_doubt 38 = .ok (.getfield 187, 3) := by decide +kernel
set_option maxRecDepth 20000 in
theorem dX12_doubt_41 : decode cX12_doubt 41 = .ok (.if_icmp .ge 43, 3) := by decide +kernel
set_option maxRecDepth 20000 in
theorem dX12_doubt_44 : decode cX12_doubt 44 = .ok (.iload_n 1, 1) := by decide +kernel
set_option maxRecDepth 20000 in
theorem dX12_doubt_45 : decode cX12_doubt 45 = .ok (.iload_n 2, 1) := by decide +kernel
set_option maxRecDepth 20000 in
theorem dX12_doubt_46 : decode cX12_doubt 46 = .ok (.if_icmp .eq 32, 3) := by decide +kernel
set_option maxRecDepth 20000 in
theorem dX12_doubt_49 : decode cX12_doubt 49 = .ok (.aload_n 0, 1) := by decide +kernel
set_option maxRecDepth 20000 in
theorem dX12_doubt_50 : decode cX12_doubt 50 = .ok (.aload_n 0, 1) := by decide +kernel
set_option maxRecDepth 20000 in
theorem dX12_doubt_51 : decode cX12_doubt 51 = .ok (.getfield 22, 3) := by decide +kernel
set_option maxRecDepth 20000 in
theorem dX12_doubt_54 : decode cX12_doubt 54 = .ok (.iload_n 1, 1) := by decide +kernel
set_option maxRecDepth 20000 in
theorem dX12_doubt_55 : decode cX12_doubt 55 = .ok (.iaload, 1) := by decide +kernel
set_option maxRecDepth 20000 in
theorem dX12_doubt_56 : decode cX12_doubt 56 = .ok (.aload_n 0, 1) := by decide +kernel
set_option maxRecDepth 20000 in
theorem dX12_doubt_57 : decode cX12_doubt 57 = .ok (.getfield 22, 3) := by decide +kernel
set_option maxRecDepth 20000 in
theorem dX12_doubt_60 : decode cX12_doubt 60 = .ok (.iload_n 2, 1) := by decide +kernel
set_option maxRecDepth 20000 in
theorem dX12_doubt_61 : decode cX12_doubt 61 = .ok (.iaload, 1) := by decide +kernel
set_option maxRecDepth 20000 in
theorem dX12_doubt_62 : decode cX12_doubt 62 = .ok (.invokestatic 193, 3) := by decide +kernel
set_option maxRecDepth 20000 in
theorem dX12_doubt_65 : decode cX12_doubt 65 = .ok (.aload_n 0, 1) := by decide +kernel
set_option maxRecDepth 20000 in
theorem dX12_doubt_66 : decode cX12_doubt 66 = .ok (.getfield 22, 3) := by decide +kernel
set_option maxRecDepth 20000 in
theorem dX12_doubt_69 : decode cX12_doubt 69 = .ok (.iload_n 1, 1) := by decide +kernel
set_option maxRecDepth 20000 in
theorem dX12_doubt_70 : decode cX12_doubt 70 = .ok (.iaload, 1) := by decide +kernel
set_option maxRecDepth 20000 in
theorem dX12_doubt_71 : decode cX12_doubt 71 = .ok (.invokestatic 190, 3) := by decide +kernel
set_option maxRecDepth 20000 in
theorem dX12_doubt_74 : decode cX12_doubt 74 = .ok (.invokevirtual 197, 3) := by decide +kernel
set_option maxRecDepth 20000 in
theorem dX12_doubt_77 : decode cX12_doubt 77 = .ok (.pop, 1) := by decide +kernel
set_option maxRecDepth 20000 in
theorem dX12_doubt_78 : decode cX12_doubt 78 = .ok (.iinc 2 1, 3) := by decide +kernel
set_option maxRecDepth 20000 in
theorem dX12_doubt_81 : decode cX12_doubt 81 = .ok (.goto (-45), 3) := by decide +kernel
set_option maxRecDepth 20000 in
theorem dX12_doubt_84 : decode cX12_doubt 84 = .ok (.iinc 1 1, 3) := by decide +kernel
set_option maxRecDepth 20000 in
theorem dX12_doubt_87 : decode cX12_doubt 87 = .ok (.goto (-61), 3) := by decide +kernel
set_option maxRecDepth 20000 in
theorem dX12_doubt_90 : decode cX12_doubt 90 = .ok (.iconst 1, 1) := by decide +kernel
set_option maxRecDepth 20000 in
theorem dX12_doubt_91 : decode cX12_doubt 91 = .ok (.istore_n 1, 1) := by decide +kernel
set_option maxRecDepth 20000 in
theorem dX12_doubt_92 : decode cX12_doubt 92 = .ok (.iload_n 1, 1) := by decide +kernel
set_option maxRecDepth 20000 in
theorem dX12_doubt_93 : decode cX12_doubt 93 = .ok (.ifCond .eq 140, 3) := by decide +kernel
set_option maxRecDepth 20000 in
theorem dX12_doubt_96 : decode cX12_doubt 96 = .ok (.iconst 0, 1) := by decide +kernel
set_option maxRecDepth 20000 in
theorem dX12_doubt_97 : decode cX12_doubt 97 = .ok (.istore_n 1, 1) := by decide +kernel
set_option maxRecDepth 20000 in
theorem dX12_doubt_98 : decode cX12_doubt 98 = .ok (.iconst 2, 1) := by decide +kernel
set_option maxRecDepth 20000 in
theorem dX12_doubt_99 : decode cX12_doubt 99 = .ok (.istore_n 2, 1) := by decide +kernel
set_option maxRecDepth 20000 in
theorem dX12_doubt_100 : decode cX12_doubt 100 = .ok (.iload_n 2, 1) := by decide +kernel
set_option maxRecDepth 20000 in
theorem dX12_doubt_101 : decode cX12_doubt 101 = .ok (.sipush 512, 3) := by decide +kernel
set_option maxRecDepth 20000 in
theorem dX12_doubt_104 : decode cX12_doubt 104 = .ok (.if_icmp .ge 126, 3) := by decide +kernel
set_option maxRecDepth 20000 in
theorem dX12_doubt_107 : decode cX12_doubt 107 = .ok (.iconst 0, 1) := by decide +kernel
set_option maxRecDepth 20000 in
theorem dX12_doubt_108 : decode cX12_doubt 108 = .ok (.istore_n 3, 1) := by decide +kernel
set_option maxRecDepth 20000 in
theorem dX12_doubt_109 : decode cX12_doubt 109 = .ok (.iload_n 3, 1) := by decide +kernel
set_option maxRecDepth 20000 in
theorem dX12_doubt_110 : decode cX12_doubt 110 = .ok (.aload_n 0, 1) := by decide +kernel
set_option maxRecDepth 20000 in
theorem dX12_doubt_111 : decode cX12_doubt 111 = .ok (.getfield 187, 3) := by decide +kernel
set_option maxRecDepth 20000 in
theorem dX12_doubt_114 : decode cX12_doubt 114 = .ok (.if_icmp .ge 110, 3) := by decide +kernel
set_option maxRecDepth 20000 in
theorem dX12_doubt_117 : decode cX12_doubt 117 = .ok (.aload_n 0, 1) := by decide +kernel
set_option maxRecDepth 20000 in
theorem dX12_doubt_118 : decode cX12_doubt 118 = .ok (.getfield 59, 3) := by decide +kernel
set_option maxRecDepth 20000 in
theorem dX12_doubt_121 : decode cX12_doubt 121 = .ok (.iload_n 2, 1) := by decide +kernel
set_option maxRecDepth 20000 in
theorem dX12_doubt_122 : decode cX12_doubt 122 = .ok (.iaload, 1) := by decide +kernel
set_option maxRecDepth 20000 in
theorem dX12_doubt_123 : decode cX12_doubt 123 = .ok (.sipush 1000, 3) := by decide +kernel
set_option maxRecDepth 20000 in
theorem dX12_doubt_126 : decode cX12_doubt 126 = .ok (.if_icmp .ge 98, 3) := by decide +kernel
set_option maxRecDepth 20000 in
theorem dX12_doubt_129 : decode cX12_doubt 129 = .ok (.aload_n 0, 1) := by decide +kernel
set_option maxRecDepth 20000 in
theorem dX12_doubt_130 : decode cX12_doubt 130 = .ok (.getfield 22, 3) := by decide +kernel
set_option maxRecDepth 20000 in
theorem dX12_doubt_133 : decode cX12_doubt 133 = .ok (.iload_n 3, 1) := by decide +kernel
set_option maxRecDepth 20000 in
theorem dX12_doubt_134 : decode cX12_doubt 134 = .ok (.iaload, 1) := by decide +kernel
set_option maxRecDepth 20000 in
theorem dX12_doubt_135 : decode cX12_doubt 135 = .ok (.iload_n 2, 1) := by decide +kernel
set_option maxRecDepth 20000 in
theorem dX12_doubt_136 : decode cX12_doubt 136 = .ok (.invokestatic 193, 3) := by decide +kernel
set_option maxRecDepth 20000 in
theorem dX12_doubt_139 : decode cX12_doubt 139 = .ok (.istore 4, 2) := by decide +kernel
set_option maxRecDepth 20000 in
theorem dX12_doubt_141 : decode cX12_doubt 141 = .ok (.iload_n 2, 1) := by decide +kernel
set_option maxRecDepth 20000 in
theorem dX12_doubt_142 : decode cX12_doubt 142 = .ok (.aload_n 0, 1) := by decide +kernel
set_option maxRecDepth 20000 in
theorem dX12_doubt_143 : decode cX12_doubt 143 = .ok (.getfield 22, 3) := by decide +kernel
set_option maxRecDepth 20000 in
theorem dX12_doubt_146 : decode cX12_doubt 146 = .ok (.iload_n 3, 1) := by decide +kernel
set_option maxRecDepth 20000 in
theorem dX12_doubt_147 : decode cX12_doubt 147 = .ok (.iaload, 1) := by decide +kernel
set_option maxRecDepth 20000 in
theorem dX12_doubt_148 : decode cX12_doubt 148 = .ok (.invokestatic 193, 3) := by decide +kernel
set_option maxRecDepth 20000 in
theorem dX12_doubt_151 : decode cX12_doubt 151 = .ok (.istore 5, 2) := by decide +kernel
set_option maxRecDepth 20000 in
theorem dX12_doubt_153 : decode cX12_doubt 153 = .ok (.aload_n 0, 1) := by decide +kernel
set_option maxRecDepth 20000 in
theorem dX12_doubt_154 : decode cX12_doubt 154 = .ok (.iload 4, 2) := by decide +kernel
set_option maxRecDepth 20000 in
theorem dX12_doubt_156 : decode cX12_doubt 156 = .ok (.aload_n 0, 1) := by decide +kernel
set_option maxRecDepth 20000 in
theorem dX12_doubt_157 : decode cX12_doubt 157 = .ok (.getfield 59, 3) := by decide +kernel
set_option maxRecDepth 20000 in
theorem dX12_doubt_160 : decode cX12_doubt 160 = .ok (.iload_n 2, 1) := by decide +kernel
set_option maxRecDepth 20000 in
theorem dX12_doubt_161 : decode cX12_doubt 161 = .ok (.iaload, 1) := by decide +kernel
set_option maxRecDepth 20000 in
theorem dX12_doubt_162 : decode cX12_doubt 162 = .ok (.aload_n 0, 1) := by decide +kernel
set_option maxRecDepth 20000 in
theorem dX12_doubt_163 : decode cX12_doubt 163 = .ok (.getfield 22, 3) := by decide +kernel
set_option maxRecDepth 20000 in
theorem dX12_doubt_166 : decode cX12_doubt 166 = .ok (.iload_n 3, 1) := by decide +kernel
set_option maxRecDepth 20000 in
theorem dX12_doubt_167 : decode cX12_doubt 167 = .ok (.iaload, 1) := by decide +kernel
set_option maxRecDepth 20000 in
theorem dX12_doubt_168 : decode cX12_doubt 168 = .ok (.invokestatic 190, 3) := by decide +kernel
set_option maxRecDepth 20000 in
theorem dX12_doubt_171 : decode cX12_doubt 171 = .ok (.iadd, 1) := by decide +kernel
set_option maxRecDepth 20000 in
theorem dX12_doubt_172 : decode cX12_doubt 172 = .ok (.iload_n 2, 1) := by decide +kernel
set_option maxRecDepth 20000 in
theorem dX12_doubt_173 : decode cX12_doubt 173 = .ok (.invokestatic 190, 3) := by decide +kernel
set_option maxRecDepth 20000 in
theorem dX12_doubt_176 : decode cX12_doubt 176 = .ok (.isub, 1) := by decide +kernel
set_option maxRecDepth 20000 in
theorem dX12_doubt_177 : decode cX12_doubt 177 = .ok (.invokevirtual 197, 3) := by decide +kernel
set_option maxRecDepth 20000 in
theorem dX12_doubt_180 : decode cX12_doubt 180 = .ok (.ifCond .ne 7, 3) := by decide +kernel
set_option maxRecDepth 20000 in
theorem dX12_doubt_183 : decode cX12_doubt 183 = .ok (.iload_n 1, 1) := by decide +kernel
set_option maxRecDepth 20000 in
theorem dX12_doubt_184 : decode cX12_doubt 184 = .ok (.ifCond .eq 7, 3) := by decide +kernel
set_option maxRecDepth 20000 in
theorem dX12_doubt_187 : decode cX12_doubt 187 = .ok (.iconst 1, 1) := by decide +kernel
set_option maxRecDepth 20000 in
theorem dX12_doubt_188 : decode cX12_doubt 188 = .ok (.goto 4, 3) := by decide +kernel
set_option maxRecDepth 20000 in
theorem dX12_doubt_191 : decode cX12_doubt 191 = .ok (.iconst 0, 1) := by decide +kernel
set_option maxRecDepth 20000 in
theorem dX12_doubt_192 : decode cX12_doubt 192 = .ok (.istore_n 1, 1) := by decide +kernel
set_option maxRecDepth 20000 in
theorem dX12_doubt_193 : decode cX12_doubt 193 = .ok (.aload_n 0, 1) := by decide +kernel
set_option maxRecDepth 20000 in
theorem dX12_doubt_194 : decode cX12_doubt 194 = .ok (.iload 5, 2) := by decide +kernel
set_option maxRecDepth 20000 in
theorem dX12_doubt_196 : decode cX12_doubt 196 = .ok (.aload_n 0, 1) := by decide +kernel
set_option maxRecDepth 20000 in
theorem dX12_doubt_197 : decode cX12_doubt 197 = .ok (.getfield 59, 3) := by decide +kernel
set_option maxRecDepth 20000 in
theorem dX12_doubt_200 : decode cX12_doubt 200 = .ok (.iload_n 2, 1) := by decide +kernel
set_option maxRecDepth 20000 in
theorem dX12_doubt_201 : decode cX12_doubt 201 = .ok (.iaload, 1) := by decide +kernel
set_option maxRecDepth 20000 in
theorem dX12_doubt_202 : decode cX12_doubt 202 = .ok (.invokevirtual 197, 3) := by decide +kernel
set_option maxRecDepth 20000 in
theorem dX12_doubt_205 : decode cX12_doubt 205 = .ok (.ifCond .ne 7, 3) := by decide +kernel
set_option maxRecDepth 20000 in
theorem dX12_doubt_208 : decode cX12_doubt 208 = .ok (.iload_n 1, 1) := by decide +kernel
set_option maxRecDepth 20000 in
theorem dX12_doubt_209 : decode cX12_doubt 209 = .ok (.ifCond .eq 7, 3) := by decide +kernel
set_option maxRecDepth 20000 in
theorem dX12_doubt_212 : decode cX12_doubt 212 = .ok (.iconst 1, 1) := by decide +kernel
set_option maxRecDepth 20000 in
theorem dX12_doubt_213 : decode cX12_doubt 213 = .ok (.goto 4, 3) := by decide +kernel
set_option maxRecDepth 20000 in
theorem dX12_doubt_216 : decode cX12_doubt 216 = .ok (.iconst 0, 1) := by decide +kernel
set_option maxRecDepth 20000 in
theorem dX12_doubt_217 : decode cX12_doubt 217 = .ok (.istore_n 1, 1) := by decide +kernel
set_option maxRecDepth 20000 in
theorem dX12_doubt_218 : decode cX12_doubt 218 = .ok (.iinc 3 1, 3) := by decide +kernel
set_option maxRecDepth 20000 in
theorem dX12_doubt_221 : decode cX12_doubt 221 = .ok (.goto (-112), 3) := by decide +kernel
set_option maxRecDepth 20000 in
theorem dX12_doubt_224 : decode cX12_doubt 224 = .ok (.iinc 2 1, 3) := by decide +kernel
set_option maxRecDepth 20000 in
theorem dX12_doubt_227 : decode cX12_doubt 227 = .ok (.goto (-127), 3) := by decide +kernel
set_option maxRecDepth 20000 in
theorem dX12_doubt_230 : decode cX12_doubt 230 = .ok (.goto (-138), 3) := by decide +kernel
set_option maxRecDepth 20000 in
theorem dX12_doubt_233 : decode cX12_doubt 233 = .ok (.aload_n 0, 1) := by decide +kernel
set_option maxRecDepth 20000 in
theorem dX12_doubt_234 : decode cX12_doubt 234 = .ok (.getfield 59, 3) := by decide +kernel
set_option maxRecDepth 20000 in
theorem dX12_doubt_237 : decode cX12_doubt 237 = .ok (.iconst 1, 1) := by decide +kernel
set_option maxRecDepth 20000 in
theorem dX12_doubt_238 : decode cX12_doubt 238 = .ok (.iaload, 1) := by decide +kernel
set_option maxRecDepth 20000 in
theorem dX12_doubt_239 : decode cX12_doubt 239 = .ok (.sipush 1000, 3) := by decide +kernel
set_option maxRecDepth 20000 in
theorem dX12_doubt_242 : decode cX12_doubt 242 = .ok (.if_icmp .ge 12, 3) := by decide +kernel
set_option maxRecDepth 20000 in
theorem dX12_doubt_245 : decode cX12_doubt 245 = .ok (.aload_n 0, 1) := by decide +kernel
set_option maxRecDepth 20000 in
theorem dX12_doubt_246 : decode cX12_doubt 246 = .ok (.getfield 59, 3) := by decide +kernel
set_option maxRecDepth 20000 in
theorem dX12_doubt_249 : decode cX12_doubt 249 = .ok (.iconst 1, 1) := by decide +kernel
set_option maxRecDepth 20000 in
theorem dX12_doubt_250 : decode cX12_doubt 250 = .ok (.iaload, 1) := by decide +kernel
set_option maxRecDepth 20000 in
theorem dX12_doubt_251 : decode cX12_doubt 251 = .ok (.goto 5, 3) := by decide +kernel
set_option maxRecDepth 20000 in
theorem dX12_doubt_254 : decode cX12_doubt 254 = .ok (.bipush (-6), 2) := by decide +kernel
set_option maxRecDepth 20000 in
theorem dX12_doubt_256 : decode cX12_doubt 256 = .ok (.ireturn, 1) := by decide +kernel
set_option maxRecDepth 20000 in
theorem dX12_apart_0 : decode cX12_apart 0 = .ok (.iload_n 1, 1) := by decide +kernel
set_option maxRecDepth 20000 in
theorem dX12_apart_1 : decode cX12_apart 1 = .ok (.i2l, 1) := by decide +kernel
set_option maxRecDepth 20000 in
theorem dX12_apart_2 : decode cX12_apart 2 = .ok (.lconst 0, 1) := by decide +kernel
set_option maxRecDepth 20000 in
theorem dX12_apart_3 : decode cX12_apart 3 = .ok (.ldc2_w 201, 3) := by decide +kernel
set_option maxRecDepth 20000 in
theorem dX12_apart_6 : decode cX12_apart 6 = .ok (.invokestatic 86, 3) := by decide +kernel
set_option maxRecDepth 20000 in
theorem dX12_apart_9 : decode cX12_apart 9 = .ok (.ifCond .ne 6, 3) := by decide +kernel
set_option maxRecDepth 20000 in
theorem dX12_apart_12 : decode cX12_apart 12 = .ok (.bipush (-2), 2) := by decide +kernel
set_option maxRecDepth 20000 in
theorem dX12_apart_14 : decode cX12_apart 14 = .ok (.ireturn, 1) := by decide +kernel
set_option maxRecDepth 20000 in
theorem dX12_apart_15 : decode cX12_apart 15 = .ok (.iload_n 1, 1) := by decide +kernel
set_option maxRecDepth 20000 in
theorem dX12_apart_16 : decode cX12_apart 16 = .ok (.ifCond .ne 18, 3) := by decide +kernel
set_option maxRecDepth 20000 in
theorem dX12_apart_19 : decode cX12_apart 19 = .ok (.aload_n 0, 1) := by decide +kernel
set_option maxRecDepth 20000 in
theorem dX12_apart_20 : decode cX12_apart 20 = .ok (.invokevirtual 203, 3) := by decide +kernel
set_option maxRecDepth 20000 in
theorem dX12_apart_23 : decode cX12_apart 23 = .ok (.ifCond .eq 7, 3) := by decide +kernel
set_option maxRecDepth 20000 in
theorem dX12_apart_26 : decode cX12_apart 26 = .ok (.iconst 1, 1) := by decide +kernel
set_option maxRecDepth 20000 in
theorem dX12_apart_27 : decode cX12_apart 27 = .ok (.goto 31, 3) := by decide +kernel
set_option maxRecDepth 20000 in
theorem dX12_apart_30 : decode cX12_apart 30 = .ok (.iconst 0, 1) := by decide +kernel
set_option maxRecDepth 20000 in
theorem dX12_apart_31 : decode cX12_apart 31 = .ok (.goto 27, 3) := by decide +kernel
set_option maxRecDepth 20000 in
theorem dX12_apart_34 : decode cX12_apart 34 = .ok (.iload_n 1, 1) := by decide +kernel
set_option maxRecDepth 20000 in
theorem dX12_apart_35 : decode cX12_apart 35 = .ok (.iconst 1, 1) := by decide +kernel
set_option maxRecDepth 20000 in
theorem dX12_apart_36 : decode cX12_apart 36 = .ok (.if_icmp .ne 18, 3) := by decide +kernel
set_option maxRecDepth 20000 in
theorem dX12_apart_39 : decode cX12_apart 39 = .ok (.aload_n 0, 1) := by decide +kernel
set_option maxRecDepth 20000 in
theorem dX12_apart_40 : decode cX12_apart 40 = .ok (.invokevirtual 207, 3) := by decide +kernel
set_option maxRecDepth 20000 in
theorem dX12_apart_43 : decode cX12_apart 43 = .ok (.ifCond .ge 7, 3) := by decide +kernel
set_option maxRecDepth 20000 in
theorem dX12_apart_46 : decode cX12_apart 46 = .ok (.iconst 1, 1) := by decide +kernel
set_option maxRecDepth 20000 in
theorem dX12_apart_47 : decode cX12_apart 47 = .ok (.goto 11, 3) := by decide +kernel
set_option maxRecDepth 20000 in
theorem dX12_apart_50 : decode cX12_apart 50 = .ok (.iconst 0, 1) := by decide +kernel
set_option maxRecDepth 20000 in
theorem dX12_apart_51 : decode cX12_apart 51 = .ok (.goto 7, 3) := by decide +kernel
set_option maxRecDepth 20000 in
theorem dX12_apart_54 : decode cX12_apart 54 = .ok (.aload_n 0, 1) := by decide +kernel
set_option maxRecDepth 20000 in
theorem dX12_apart_55 : decode cX12_apart 55 = .ok (.invokevirtual 207, 3) := by decide +kernel
set_option maxRecDepth 20000 in
theorem dX12_apart_58 : decode cX12_apart 58 = .ok (.ireturn, 1) := by decide +kernel
set_option maxRecDepth 20000 in
theorem dX12_seen_0 : decode cX12_seen 0 = .ok (.aload_n 0, 1) := by decide +kernel
set_option maxRecDepth 20000 in
theorem dX12_seen_1 : decode cX12_seen 1 = .ok (.iload_n 2, 1) := by decide +kernel
set_option maxRecDepth 20000 in
theorem dX12_seen_2 : decode cX12_seen 2 = .ok (.invokevirtual 94, 3) := by decide +kernel
set_option maxRecDepth 20000 in
theorem dX12_seen_5 : decode cX12_seen 5 = .ok (.ifCond .ne 5, 3) := by decide +kernel
set_option maxRecDepth 20000 in
theorem dX12_seen_8 : decode cX12_seen 8 = .ok (.iconst (-1), 1) := by decide +kernel
set_option maxRecDepth 20000 in
theorem dX12_seen_9 : decode cX12_seen 9 = .ok (.ireturn, 1) := by decide +kernel
set_option maxRecDepth 20000 in
theorem dX12_seen_10 : decode cX12_seen 10 = .ok (.iload_n 1, 1) := by decide +kernel
set_option maxRecDepth 20000 in
theorem dX12_seen_11 : decode cX12_seen 11 = .ok (.i2l, 1) := by decide +kernel
set_option maxRecDepth 20000 in
theorem dX12_seen_12 : decode cX12_seen 12 = .ok (.lconst 0, 1) := by decide +kernel
set_option maxRecDepth 20000 in
theorem dX12_seen_13 : decode cX12_seen 13 = .ok (.ldc2_w 167, 3) := by decide +kernel
set_option maxRecDepth 20000 in
theorem dX12_seen_16 : decode cX12_seen 16 = .ok (.invokestatic 86, 3) := by decide +kernel

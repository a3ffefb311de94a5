def mX11_goesOn : String × ByteArray × Nat := (RX11, cX11_goesOn, 5)
theorem dX11_goesOn_0 : decode mX11_goesOn.2.1 0 = .ok (.aload_n 0, 1) := by decide +kernel
theorem dX11_goesOn_1 : decode mX11_goesOn.2.1 1 = .ok (.getfield 22, 3) := by decide +kernel
theorem dX11_goesOn_4 : decode mX11_goesOn.2.1 4 = .ok (.iload_n 1, 1) := by decide +kernel
theorem dX11_goesOn_5 : decode mX11_goesOn.2.1 5 = .ok (.iaload, 1) := by decide +kernel
theorem dX11_goesOn_6 : decode mX11_goesOn.2.1 6 = .ok (.istore_n 3, 1) := by decide +kernel
theorem dX11_goesOn_7 : decode mX11_goesOn.2.1 7 = .ok (.aload_n 0, 1) := by decide +kernel
theorem dX11_goesOn_8 : decode mX11_goesOn.2.1 8 = .ok (.getfield 250, 3) := by decide +kernel
theorem dX11_goesOn_11 : decode mX11_goesOn.2.1 11 = .ok (.ifCond .lt 170, 3) := by decide +kernel
theorem dX11_goesOn_14 : decode mX11_goesOn.2.1 14 = .ok (.aload_n 0, 1) := by decide +kernel
theorem dX11_goesOn_15 : decode mX11_goesOn.2.1 15 = .ok (.iload_n 3, 1) := by decide +kernel
theorem dX11_goesOn_16 : decode mX11_goesOn.2.1 16 = .ok (.invokevirtual 253, 3) := by decide +kernel
theorem dX11_goesOn_19 : decode mX11_goesOn.2.1 19 = .ok (.aload_n 0, 1) := by decide +kernel
theorem dX11_goesOn_20 : decode mX11_goesOn.2.1 20 = .ok (.getfield 115, 3) := by decide +kernel
theorem dX11_goesOn_23 : decode mX11_goesOn.2.1 23 = .ok (.aload_n 0, 1) := by decide +kernel
theorem dX11_goesOn_24 : decode mX11_goesOn.2.1 24 = .ok (.getfield 250, 3) := by decide +kernel
theorem dX11_goesOn_27 : decode mX11_goesOn.2.1 27 = .ok (.iaload, 1) := by decide +kernel
theorem dX11_goesOn_28 : decode mX11_goesOn.2.1 28 = .ok (.iconst 1, 1) := by decide +kernel
theorem dX11_goesOn_29 : decode mX11_goesOn.2.1 29 = .ok (.iadd, 1) := by decide +kernel
theorem dX11_goesOn_30 : decode mX11_goesOn.2.1 30 = .ok (.istore 4, 2) := by decide +kernel
theorem dX11_goesOn_32 : decode mX11_goesOn.2.1 32 = .ok (.iload 4, 2) := by decide +kernel
theorem dX11_goesOn_34 : decode mX11_goesOn.2.1 34 = .ok (.iload_n 3, 1) := by decide +kernel
theorem dX11_goesOn_35 : decode mX11_goesOn.2.1 35 = .ok (.if_icmp .gt 20, 3) := by decide +kernel
theorem dX11_goesOn_38 : decode mX11_goesOn.2.1 38 = .ok (.aload_n 0, 1) := by decide +kernel
theorem dX11_goesOn_39 : decode mX11_goesOn.2.1 39 = .ok (.iload_n 1, 1) := by decide +kernel
theorem dX11_goesOn_40 : decode mX11_goesOn.2.1 40 = .ok (.iload_n 2, 1) := by decide +kernel
theorem dX11_goesOn_41 : decode mX11_goesOn.2.1 41 = .ok (.iload 4, 2) := by decide +kernel
theorem dX11_goesOn_43 : decode mX11_goesOn.2.1 43 = .ok (.invokevirtual 256, 3) := by decide +kernel
theorem dX11_goesOn_46 : decode mX11_goesOn.2.1 46 = .ok (.ifCond .ne 9, 3) := by decide +kernel
theorem dX11_goesOn_49 : decode mX11_goesOn.2.1 49 = .ok (.iinc 4 1, 3) := by decide +kernel
theorem dX11_goesOn_52 : decode mX11_goesOn.2.1 52 = .ok (.goto (-20), 3) := by decide +kernel
theorem dX11_goesOn_55 : decode mX11_goesOn.2.1 55 = .ok (.iload 4, 2) := by decide +kernel
theorem dX11_goesOn_57 : decode mX11_goesOn.2.1 57 = .ok (.iload_n 3, 1) := by decide +kernel
theorem dX11_goesOn_58 : decode mX11_goesOn.2.1 58 = .ok (.if_icmp .le 16, 3) := by decide +kernel
theorem dX11_goesOn_61 : decode mX11_goesOn.2.1 61 = .ok (.aload_n 0, 1) := by decide +kernel
theorem dX11_goesOn_62 : decode mX11_goesOn.2.1 62 = .ok (.dup, 1) := by decide +kernel
theorem dX11_goesOn_63 : decode mX11_goesOn.2.1 63 = .ok (.getfield 250, 3) := by decide +kernel
theorem dX11_goesOn_66 : decode mX11_goesOn.2.1 66 = .ok (.iconst 1, 1) := by decide +kernel
theorem dX11_goesOn_67 : decode mX11_goesOn.2.1 67 = .ok (.isub, 1) := by decide +kernel
theorem dX11_goesOn_68 : decode mX11_goesOn.2.1 68 = .ok (.putfield 250, 3) := by decide +kernel
theorem dX11_goesOn_71 : decode mX11_goesOn.2.1 71 = .ok (.goto 107, 3) := by decide +kernel
theorem dX11_goesOn_74 : decode mX11_goesOn.2.1 74 = .ok (.aload_n 0, 1) := by decide +kernel
theorem dX11_goesOn_75 : decode mX11_goesOn.2.1 75 = .ok (.getfield 115, 3) := by decide +kernel
theorem dX11_goesOn_78 : decode mX11_goesOn.2.1 78 = .ok (.aload_n 0, 1) := by decide +kernel
theorem dX11_goesOn_79 : decode mX11_goesOn.2.1 79 = .ok (.getfield 250, 3) := by decide +kernel
theorem dX11_goesOn_82 : decode mX11_goesOn.2.1 82 = .ok (.iload 4, 2) := by decide +kernel
theorem dX11_goesOn_84 : decode mX11_goesOn.2.1 84 = .ok (.iastore, 1) := by decide +kernel
theorem dX11_goesOn_85 : decode mX11_goesOn.2.1 85 = .ok (.iload 4, 2) := by decide +kernel
theorem dX11_goesOn_87 : decode mX11_goesOn.2.1 87 = .ok (.iload_n 3, 1) := by decide +kernel
theorem dX11_goesOn_88 : decode mX11_goesOn.2.1 88 = .ok (.if_icmp .ge 50, 3) := by decide +kernel
theorem dX11_goesOn_91 : decode mX11_goesOn.2.1 91 = .ok (.aload_n 0, 1) := by decide +kernel
theorem dX11_goesOn_92 : decode mX11_goesOn.2.1 92 = .ok (.dup, 1) := by decide +kernel
theorem dX11_goesOn_93 : decode mX11_goesOn.2.1 93 = .ok (.getfield 241, 3) := by decide +kernel
theorem dX11_goesOn_96 : decode mX11_goesOn.2.1 96 = .ok (.iconst 1, 1) := by decide +kernel
theorem dX11_goesOn_97 : decode mX11_goesOn.2.1 97 = .ok (.iadd, 1) := by decide +kernel
theorem dX11_goesOn_98 : decode mX11_goesOn.2.1 98 = .ok (.putfield 241, 3) := by decide +kernel
theorem dX11_goesOn_101 : decode mX11_goesOn.2.1 101 = .ok (.aload_n 0, 1) := by decide +kernel
theorem dX11_goesOn_102 : decode mX11_goesOn.2.1 102 = .ok (.dup, 1) := by decide +kernel
theorem dX11_goesOn_103 : decode mX11_goesOn.2.1 103 = .ok (.getfield 244, 3) := by decide +kernel
theorem dX11_goesOn_106 : decode mX11_goesOn.2.1 106 = .ok (.iconst 1, 1) := by decide +kernel
theorem dX11_goesOn_107 : decode mX11_goesOn.2.1 107 = .ok (.iload 4, 2) := by decide +kernel
theorem dX11_goesOn_109 : decode mX11_goesOn.2.1 109 = .ok (.ishl, 1) := by decide +kernel
theorem dX11_goesOn_110 : decode mX11_goesOn.2.1 110 = .ok (.ior, 1) := by decide +kernel
theorem dX11_goesOn_111 : decode mX11_goesOn.2.1 111 = .ok (.putfield 244, 3) := by decide +kernel
theorem dX11_goesOn_114 : decode mX11_goesOn.2.1 114 = .ok (.aload_n 0, 1) := by decide +kernel
theorem dX11_goesOn_115 : decode mX11_goesOn.2.1 115 = .ok (.dup, 1) := by decide +kernel
theorem dX11_goesOn_116 : decode mX11_goesOn.2.1 116 = .ok (.getfield 247, 3) := by decide +kernel
theorem dX11_goesOn_119 : decode mX11_goesOn.2.1 119 = .ok (.aload_n 0, 1) := by decide +kernel
theorem dX11_goesOn_120 : decode mX11_goesOn.2.1 120 = .ok (.getfield 28, 3) := by decide +kernel
theorem dX11_goesOn_123 : decode mX11_goesOn.2.1 123 = .ok (.bipush 6, 2) := by decide +kernel
theorem dX11_goesOn_125 : decode mX11_goesOn.2.1 125 = .ok (.aload_n 0, 1) := by decide +kernel
theorem dX11_goesOn_126 : decode mX11_goesOn.2.1 126 = .ok (.getfield 250, 3) := by decide +kernel
theorem dX11_goesOn_129 : decode mX11_goesOn.2.1 129 = .ok (.imul, 1) := by decide +kernel
theorem dX11_goesOn_130 : decode mX11_goesOn.2.1 130 = .ok (.iload 4, 2) := by decide +kernel
theorem dX11_goesOn_132 : decode mX11_goesOn.2.1 132 = .ok (.iadd, 1) := by decide +kernel
theorem dX11_goesOn_133 : decode mX11_goesOn.2.1 133 = .ok (.iaload, 1) := by decide +kernel
theorem dX11_goesOn_134 : decode mX11_goesOn.2.1 134 = .ok (.iadd, 1) := by decide +kernel
theorem dX11_goesOn_135 : decode mX11_goesOn.2.1 135 = .ok (.putfield 247, 3) := by decide +kernel
theorem dX11_goesOn_138 : decode mX11_goesOn.2.1 138 = .ok (.aload_n 0, 1) := by decide +kernel
theorem dX11_goesOn_139 : decode mX11_goesOn.2.1 139 = .ok (.getfield 250, 3) := by decide +kernel
theorem dX11_goesOn_142 : decode mX11_goesOn.2.1 142 = .ok (.iload_n 3, 1) := by decide +kernel
theorem dX11_goesOn_143 : decode mX11_goesOn.2.1 143 = .ok (.iconst 1, 1) := by decide +kernel
theorem dX11_goesOn_144 : decode mX11_goesOn.2.1 144 = .ok (.isub, 1) := by decide +kernel
theorem dX11_goesOn_145 : decode mX11_goesOn.2.1 145 = .ok (.if_icmp .ne 13, 3) := by decide +kernel
theorem dX11_goesOn_148 : decode mX11_goesOn.2.1 148 = .ok (.aload_n 0, 1) := by decide +kernel
theorem dX11_goesOn_149 : decode mX11_goesOn.2.1 149 = .ok (.getfield 241, 3) := by decide +kernel
theorem dX11_goesOn_152 : decode mX11_goesOn.2.1 152 = .ok (.iload_n 2, 1) := by decide +kernel
theorem dX11_goesOn_153 : decode mX11_goesOn.2.1 153 = .ok (.if_icmp .ne 25, 3) := by decide +kernel
theorem dX11_goesOn_156 : decode mX11_goesOn.2.1 156 = .ok (.iconst 1, 1) := by decide +kernel
theorem dX11_goesOn_157 : decode mX11_goesOn.2.1 157 = .ok (.ireturn, 1) := by decide +kernel
theorem dX11_goesOn_158 : decode mX11_goesOn.2.1 158 = .ok (.aload_n 0, 1) := by decide +kernel
theorem dX11_goesOn_159 : decode mX11_goesOn.2.1 159 = .ok (.dup, 1) := by decide +kernel
theorem dX11_goesOn_160 : decode mX11_goesOn.2.1 160 = .ok (.getfield 250, 3) := by decide +kernel
theorem dX11_goesOn_163 : decode mX11_goesOn.2.1 163 = .ok (.iconst 1, 1) := by decide +kernel
theorem dX11_goesOn_164 : decode mX11_goesOn.2.1 164 = .ok (.iadd, 1) := by decide +kernel
theorem dX11_goesOn_165 : decode mX11_goesOn.2.1 165 = .ok (.putfield 250, 3) := by decide +kernel
theorem dX11_goesOn_168 : decode mX11_goesOn.2.1 168 = .ok (.aload_n 0, 1) := by decide +kernel
theorem dX11_goesOn_169 : decode mX11_goesOn.2.1 169 = .ok (.getfield 115, 3) := by decide +kernel
theorem dX11_goesOn_172 : decode mX11_goesOn.2.1 172 = .ok (.aload_n 0, 1) := by decide +kernel
theorem dX11_goesOn_173 : decode mX11_goesOn.2.1 173 = .ok (.getfield 250, 3) := by decide +kernel
theorem dX11_goesOn_176 : decode mX11_goesOn.2.1 176 = .ok (.iconst (-1), 1) := by decide +kernel
theorem dX11_goesOn_177 : decode mX11_goesOn.2.1 177 = .ok (.iastore, 1) := by decide +kernel
theorem dX11_goesOn_178 : decode mX11_goesOn.2.1 178 = .ok (.goto (-171), 3) := by decide +kernel
theorem dX11_goesOn_181 : decode mX11_goesOn.2.1 181 = .ok (.iconst 0, 1) := by decide +kernel
theorem dX11_goesOn_182 : decode mX11_goesOn.2.1 182 = .ok (.ireturn, 1) := by decide +kernel
def mX11_columnAt : String × ByteArray × Nat := (RX11, cX11_columnAt, 3)
theorem dX11_columnAt_0 : decode mX11_columnAt.2.1 0 = .ok (.aload_n 0, 1) := by decide +kernel
theorem dX11_columnAt_1 : decode mX11_columnAt.2.1 1 = .ok (.getfield 97, 3) := by decide +kernel
theorem dX11_columnAt_4 : decode mX11_columnAt.2.1 4 = .ok (.iload_n 2, 1) := by decide +kernel
theorem dX11_columnAt_5 : decode mX11_columnAt.2.1 5 = .ok (.iaload, 1) := by decide +kernel
theorem dX11_columnAt_6 : decode mX11_columnAt.2.1 6 = .ok (.iload_n 1, 1) := by decide +kernel
theorem dX11_columnAt_7 : decode mX11_columnAt.2.1 7 = .ok (.if_icmp .ne 7, 3) := by decide +kernel
theorem dX11_columnAt_10 : decode mX11_columnAt.2.1 10 = .ok (.iconst (-1), 1) := by decide +kernel
theorem dX11_columnAt_11 : decode mX11_columnAt.2.1 11 = .ok (.goto 9, 3) := by decide +kernel
theorem dX11_columnAt_14 : decode mX11_columnAt.2.1 14 = .ok (.aload_n 0, 1) := by decide +kernel
theorem dX11_columnAt_15 : decode mX11_columnAt.2.1 15 = .ok (.getfield 97, 3) := by decide +kernel
theorem dX11_columnAt_18 : decode mX11_columnAt.2.1 18 = .ok (.iload_n 2, 1) := by decide +kernel
theorem dX11_columnAt_19 : decode mX11_columnAt.2.1 19 = .ok (.iaload, 1) := by decide +kernel
theorem dX11_columnAt_20 : decode mX11_columnAt.2.1 20 = .ok (.ireturn, 1) := by decide +kernel
def mX11_layMade : String × ByteArray × Nat := (RX11, cX11_layMade, 3)
theorem dX11_layMade_0 : decode mX11_layMade.2.1 0 = .ok (.iconst 0, 1) := by decide +kernel
theorem dX11_layMade_1 : decode mX11_layMade.2.1 1 = .ok (.istore_n 2, 1) := by decide +kernel
theorem dX11_layMade_2 : decode mX11_layMade.2.1 2 = .ok (.iload_n 2, 1) := by decide +kernel
theorem dX11_layMade_3 : decode mX11_layMade.2.1 3 = .ok (.iload_n 1, 1) := by decide +kernel
theorem dX11_layMade_4 : decode mX11_layMade.2.1 4 = .ok (.if_icmp .ge 21, 3) := by decide +kernel
theorem dX11_layMade_7 : decode mX11_layMade.2.1 7 = .ok (.aload_n 0, 1) := by decide +kernel
theorem dX11_layMade_8 : decode mX11_layMade.2.1 8 = .ok (.getfield 97, 3) := by decide +kernel
theorem dX11_layMade_11 : decode mX11_layMade.2.1 11 = .ok (.iload_n 2, 1) := by decide +kernel
theorem dX11_layMade_12 : decode mX11_layMade.2.1 12 = .ok (.aload_n 0, 1) := by decide +kernel
theorem dX11_layMade_13 : decode mX11_layMade.2.1 13 = .ok (.getfield 115, 3) := by decide +kernel
theorem dX11_layMade_16 : decode mX11_layMade.2.1 16 = .ok (.iload_n 2, 1) := by decide +kernel
theorem dX11_layMade_17 : decode mX11_layMade.2.1 17 = .ok (.iaload, 1) := by decide +kernel
theorem dX11_layMade_18 : decode mX11_layMade.2.1 18 = .ok (.iastore, 1) := by decide +kernel
theorem dX11_layMade_19 : decode mX11_layMade.2.1 19 = .ok (.iinc 2 1, 3) := by decide +kernel
theorem dX11_layMade_22 : decode mX11_layMade.2.1 22 = .ok (.goto (-20), 3) := by decide +kernel
theorem dX11_layMade_25 : decode mX11_layMade.2.1 25 = .ok (.return_, 1) := by decide +kernel
def mX11_cheapest : String × ByteArray × Nat := (RX11, cX11_cheapest, 6)
theorem dX11_cheapest_0 : decode mX11_cheapest.2.1 0 = .ok (.iload_n 1, 1) := by decide +kernel
theorem dX11_cheapest_1 : decode mX11_cheapest.2.1 1 = .ok (.invokestatic 133, 3) := by decide +kernel
theorem dX11_cheapest_4 : decode mX11_cheapest.2.1 4 = .ok (.ifCond .eq 23, 3) := by decide +kernel
theorem dX11_cheapest_7 : decode mX11_cheapest.2.1 7 = .ok (.iload_n 3, 1) := by decide +kernel
theorem dX11_cheapest_8 : decode mX11_cheapest.2.1 8 = .ok (.i2l, 1) := by decide +kernel
theorem dX11_cheapest_9 : decode mX11_cheapest.2.1 9 = .ok (.ldc2_w 223, 3) := by decide +kernel
theorem dX11_cheapest_12 : decode mX11_cheapest.2.1 12 = .ok (.aload_n 0, 1) := by decide +kernel
theorem dX11_cheapest_13 : decode mX11_cheapest.2.1 13 = .ok (.getfield 22, 3) := by decide +kernel
theorem dX11_cheapest_16 : decode mX11_cheapest.2.1 16 = .ok (.iload_n 1, 1) := by decide +kernel
theorem dX11_cheapest_17 : decode mX11_cheapest.2.1 17 = .ok (.iaload, 1) := by decide +kernel
theorem dX11_cheapest_18 : decode mX11_cheapest.2.1 18 = .ok (.iconst 1, 1) := by decide +kernel
theorem dX11_cheapest_19 : decode mX11_cheapest.2.1 19 = .ok (.isub, 1) := by decide +kernel
theorem dX11_cheapest_20 : decode mX11_cheapest.2.1 20 = .ok (.i2l, 1) := by decide +kernel
theorem dX11_cheapest_21 : decode mX11_cheapest.2.1 21 = .ok (.invokestatic 129, 3) := by decide +kernel
theorem dX11_cheapest_24 : decode mX11_cheapest.2.1 24 = .ok (.ifCond .ne 5, 3) := by decide +kernel
theorem dX11_cheapest_27 : decode mX11_cheapest.2.1 27 = .ok (.iconst (-1), 1) := by decide +kernel
theorem dX11_cheapest_28 : decode mX11_cheapest.2.1 28 = .ok (.ireturn, 1) := by decide +kernel
theorem dX11_cheapest_29 : decode mX11_cheapest.2.1 29 = .ok (.iload_n 2, 1) := by decide +kernel
theorem dX11_cheapest_30 : decode mX11_cheapest.2.1 30 = .ok (.ifCond .ge 6, 3) := by decide +kernel
theorem dX11_cheapest_33 : decode mX11_cheapest.2.1 33 = .ok (.bipush (-2), 2) := by decide +kernel
theorem dX11_cheapest_35 : decode mX11_cheapest.2.1 35 = .ok (.ireturn, 1) := by decide +kernel
theorem dX11_cheapest_36 : decode mX11_cheapest.2.1 36 = .ok (.aload_n 0, 1) := by decide +kernel
theorem dX11_cheapest_37 : decode mX11_cheapest.2.1 37 = .ok (.getfield 22, 3) := by decide +kernel
theorem dX11_cheapest_40 : decode mX11_cheapest.2.1 40 = .ok (.iload_n 1, 1) := by decide +kernel
theorem dX11_cheapest_41 : decode mX11_cheapest.2.1 41 = .ok (.iaload, 1) := by decide +kernel
theorem dX11_cheapest_42 : decode mX11_cheapest.2.1 42 = .ok (.istore 4, 2) := by decide +kernel
theorem dX11_cheapest_44 : decode mX11_cheapest.2.1 44 = .ok (.iconst (-1), 1) := by decide +kernel
theorem dX11_cheapest_45 : decode mX11_cheapest.2.1 45 = .ok (.istore 5, 2) := by decide +kernel
theorem dX11_cheapest_47 : decode mX11_cheapest.2.1 47 = .ok (.aload_n 0, 1) := by decide +kernel
theorem dX11_cheapest_48 : decode mX11_cheapest.2.1 48 = .ok (.invokevirtual 259, 3) := by decide +kernel
theorem dX11_cheapest_51 : decode mX11_cheapest.2.1 51 = .ok (.iload_n 2, 1) := by decide +kernel
theorem dX11_cheapest_52 : decode mX11_cheapest.2.1 52 = .ok (.iload 4, 2) := by decide +kernel
theorem dX11_cheapest_54 : decode mX11_cheapest.2.1 54 = .ok (.if_icmp .gt 41, 3) := by decide +kernel
theorem dX11_cheapest_57 : decode mX11_cheapest.2.1 57 = .ok (.aload_n 0, 1) := by decide +kernel
theorem dX11_cheapest_58 : decode mX11_cheapest.2.1 58 = .ok (.iload_n 1, 1) := by decide +kernel
theorem dX11_cheapest_59 : decode mX11_cheapest.2.1 59 = .ok (.iload_n 2, 1) := by decide +kernel
theorem dX11_cheapest_60 : decode mX11_cheapest.2.1 60 = .ok (.invokevirtual 262, 3) := by decide +kernel
theorem dX11_cheapest_63 : decode mX11_cheapest.2.1 63 = .ok (.ifCond .eq 32, 3) := by decide +kernel
theorem dX11_cheapest_66 : decode mX11_cheapest.2.1 66 = .ok (.iload 5, 2) := by decide +kernel
theorem dX11_cheapest_68 : decode mX11_cheapest.2.1 68 = .ok (.ifCond .lt 12, 3) := by decide +kernel
theorem dX11_cheapest_71 : decode mX11_cheapest.2.1 71 = .ok (.aload_n 0, 1) := by decide +kernel
theorem dX11_cheapest_72 : decode mX11_cheapest.2.1 72 = .ok (.getfield 247, 3) := by decide +kernel
theorem dX11_cheapest_75 : decode mX11_cheapest.2.1 75 = .ok (.iload 5, 2) := by decide +kernel
theorem dX11_cheapest_77 : decode mX11_cheapest.2.1 77 = .ok (.if_icmp .ge (-26), 3) := by decide +kernel
theorem dX11_cheapest_80 : decode mX11_cheapest.2.1 80 = .ok (.aload_n 0, 1) := by decide +kernel
theorem dX11_cheapest_81 : decode mX11_cheapest.2.1 81 = .ok (.getfield 247, 3) := by decide +kernel
theorem dX11_cheapest_84 : decode mX11_cheapest.2.1 84 = .ok (.istore 5, 2) := by decide +kernel
theorem dX11_cheapest_86 : decode mX11_cheapest.2.1 86 = .ok (.aload_n 0, 1) := by decide +kernel
theorem dX11_cheapest_87 : decode mX11_cheapest.2.1 87 = .ok (.iload 4, 2) := by decide +kernel
theorem dX11_cheapest_89 : decode mX11_cheapest.2.1 89 = .ok (.invokevirtual 266, 3) := by decide +kernel
theorem dX11_cheapest_92 : decode mX11_cheapest.2.1 92 = .ok (.goto (-41), 3) := by decide +kernel
theorem dX11_cheapest_95 : decode mX11_cheapest.2.1 95 = .ok (.iload 5, 2) := by decide +kernel
theorem dX11_cheapest_97 : decode mX11_cheapest.2.1 97 = .ok (.ifCond .ge 8, 3) := by decide +kernel
theorem dX11_cheapest_100 : decode mX11_cheapest.2.1 100 = .ok (.bipush (-5), 2) := by decide +kernel
theorem dX11_cheapest_102 : decode mX11_cheapest.2.1 102 = .ok (.goto 20, 3) := by decide +kernel
theorem dX11_cheapest_105 : decode mX11_cheapest.2.1 105 = .ok (.iload_n 3, 1) := by decide +kernel
theorem dX11_cheapest_106 : decode mX11_cheapest.2.1 106 = .ok (.iconst (-1), 1) := by decide +kernel
theorem dX11_cheapest_107 : decode mX11_cheapest.2.1 107 = .ok (.if_icmp .ne 8, 3) := by decide +kernel
theorem dX11_cheapest_110 : decode mX11_cheapest.2.1 110 = .ok (.iload 5, 2) := by decide +kernel
theorem dX11_cheapest_112 : decode mX11_cheapest.2.1 112 = .ok (.goto 10, 3) := by decide +kernel
theorem dX11_cheapest_115 : decode mX11_cheapest.2.1 115 = .ok (.aload_n 0, 1) := by decide +kernel
theorem dX11_cheapest_116 : decode mX11_cheapest.2.1 116 = .ok (.iload 4, 2) := by decide +kernel
theorem dX11_cheapest_118 : decode mX11_cheapest.2.1 118 = .ok (.iload_n 3, 1) := by decide +kernel
theorem dX11_cheapest_119 : decode mX11_cheapest.2.1 119 = .ok (.invokevirtual 269, 3) := by decide +kernel
theorem dX11_cheapest_122 : decode mX11_cheapest.2.1 122 = .ok (.ireturn, 1) := by decide +kernel
def mX11_listed : String × ByteArray × Nat := (RX11, cX11_listed, 8)
theorem dX11_listed_0 : decode mX11_listed.2.1 0 = .ok (.iload_n 1, 1) := by decide +kernel
theorem dX11_listed_1 : decode mX11_listed.2.1 1 = .ok (.invokestatic 133, 3) := by decide +kernel
theorem dX11_listed_4 : decode mX11_listed.2.1 4 = .ok (.ifCond .eq 28, 3) := by decide +kernel
theorem dX11_listed_7 : decode mX11_listed.2.1 7 = .ok (.iload_n 3, 1) := by decide +kernel
theorem dX11_listed_8 : decode mX11_listed.2.1 8 = .ok (.ifCond .lt 24, 3) := by decide +kernel
theorem dX11_listed_11 : decode mX11_listed.2.1 11 = .ok (.iload 4, 2) := by decide +kernel
theorem dX11_listed_13 : decode mX11_listed.2.1 13 = .ok (.i2l, 1) := by decide +kernel
theorem dX11_listed_14 : decode mX11_listed.2.1 14 = .ok (.ldc2_w 223, 3) := by decide +kernel
theorem dX11_listed_17 : decode mX11_listed.2.1 17 = .ok (.aload_n 0, 1) := by decide +kernel
theorem dX11_listed_18 : decode mX11_listed.2.1 18 = .ok (.getfield 22, 3) := by decide +kernel
theorem dX11_listed_21 : decode mX11_listed.2.1 21 = .ok (.iload_n 1, 1) := by decide +kernel
theorem dX11_listed_22 : decode mX11_listed.2.1 22 = .ok (.iaload, 1) := by decide +kernel
theorem dX11_listed_23 : decode mX11_listed.2.1 23 = .ok (.iconst 1, 1) := by decide +kernel
theorem dX11_listed_24 : decode mX11_listed.2.1 24 = .ok (.isub, 1) := by decide +kernel
theorem dX11_listed_25 : decode mX11_listed.2.1 25 = .ok (.i2l, 1) := by decide +kernel
theorem dX11_listed_26 : decode mX11_listed.2.1 26 = .ok (.invokestatic 129, 3) := by decide +kernel
theorem dX11_listed_29 : decode mX11_listed.2.1 29 = .ok (.ifCond .ne 5, 3) := by decide +kernel
theorem dX11_listed_32 : decode mX11_listed.2.1 32 = .ok (.iconst (-1), 1) := by decide +kernel
theorem dX11_listed_33 : decode mX11_listed.2.1 33 = .ok (.ireturn, 1) := by decide +kernel
theorem dX11_listed_34 : decode mX11_listed.2.1 34 = .ok (.iload_n 2, 1) := by decide +kernel
theorem dX11_listed_35 : decode mX11_listed.2.1 35 = .ok (.ifCond .ge 6, 3) := by decide +kernel
theorem dX11_listed_38 : decode mX11_listed.2.1 38 = .ok (.bipush (-2), 2) := by decide +kernel
theorem dX11_listed_40 : decode mX11_listed.2.1 40 = .ok (.ireturn, 1) := by decide +kernel
theorem dX11_listed_41 : decode mX11_listed.2.1 41 = .ok (.aload_n 0, 1) := by decide +kernel
theorem dX11_listed_42 : decode mX11_listed.2.1 42 = .ok (.getfield 22, 3) := by decide +kernel
theorem dX11_listed_45 : decode mX11_listed.2.1 45 = .ok (.iload_n 1, 1) := by decide +kernel
theorem dX11_listed_46 : decode mX11_listed.2.1 46 = .ok (.iaload, 1) := by decide +kernel
theorem dX11_listed_47 : decode mX11_listed.2.1 47 = .ok (.iconst 4, 1) := by decide +kernel
theorem dX11_listed_48 : decode mX11_listed.2.1 48 = .ok (.if_icmp .le 6, 3) := by decide +kernel
theorem dX11_listed_51 : decode mX11_listed.2.1 51 = .ok (.bipush (-3), 2) := by decide +kernel
theorem dX11_listed_53 : decode mX11_listed.2.1 53 = .ok (.ireturn, 1) := by decide +kernel
theorem dX11_listed_54 : decode mX11_listed.2.1 54 = .ok (.aload_n 0, 1) := by decide +kernel
theorem dX11_listed_55 : decode mX11_listed.2.1 55 = .ok (.getfield 22, 3) := by decide +kernel
theorem dX11_listed_58 : decode mX11_listed.2.1 58 = .ok (.iload_n 1, 1) := by decide +kernel
theorem dX11_listed_59 : decode mX11_listed.2.1 59 = .ok (.iaload, 1) := by decide +kernel
theorem dX11_listed_60 : decode mX11_listed.2.1 60 = .ok (.istore 5, 2) := by decide +kernel
theorem dX11_listed_62 : decode mX11_listed.2.1 62 = .ok (.iconst 0, 1) := by decide +kernel
theorem dX11_listed_63 : decode mX11_listed.2.1 63 = .ok (.istore 6, 2) := by decide +kernel
theorem dX11_listed_65 : decode mX11_listed.2.1 65 = .ok (.iconst 0, 1) := by decide +kernel
theorem dX11_listed_66 : decode mX11_listed.2.1 66 = .ok (.istore 7, 2) := by decide +kernel
theorem dX11_listed_68 : decode mX11_listed.2.1 68 = .ok (.iload 7, 2) := by decide +kernel
theorem dX11_listed_70 : decode mX11_listed.2.1 70 = .ok (.bipush 36, 2) := by decide +kernel
theorem dX11_listed_72 : decode mX11_listed.2.1 72 = .ok (.if_icmp .gt 75, 3) := by decide +kernel
theorem dX11_listed_75 : decode mX11_listed.2.1 75 = .ok (.iload_n 2, 1) := by decide +kernel
theorem dX11_listed_76 : decode mX11_listed.2.1 76 = .ok (.iload 5, 2) := by decide +kernel
theorem dX11_listed_78 : decode mX11_listed.2.1 78 = .ok (.if_icmp .gt 69, 3) := by decide +kernel
theorem dX11_listed_81 : decode mX11_listed.2.1 81 = .ok (.aload_n 0, 1) := by decide +kernel
theorem dX11_listed_82 : decode mX11_listed.2.1 82 = .ok (.invokevirtual 259, 3) := by decide +kernel
theorem dX11_listed_85 : decode mX11_listed.2.1 85 = .ok (.aload_n 0, 1) := by decide +kernel
theorem dX11_listed_86 : decode mX11_listed.2.1 86 = .ok (.iload_n 1, 1) := by decide +kernel
theorem dX11_listed_87 : decode mX11_listed.2.1 87 = .ok (.iload_n 2, 1) := by decide +kernel
theorem dX11_listed_88 : decode mX11_listed.2.1 88 = .ok (.invokevirtual 262, 3) := by decide +kernel
theorem dX11_listed_91 : decode mX11_listed.2.1 91 = .ok (.ifCond .eq 50, 3) := by decide +kernel
theorem dX11_listed_94 : decode mX11_listed.2.1 94 = .ok (.aload_n 0, 1) := by decide +kernel
theorem dX11_listed_95 : decode mX11_listed.2.1 95 = .ok (.getfield 247, 3) := by decide +kernel
theorem dX11_listed_98 : decode mX11_listed.2.1 98 = .ok (.iload 7, 2) := by decide +kernel
theorem dX11_listed_100 : decode mX11_listed.2.1 100 = .ok (.if_icmp .ne (-15), 3) := by decide +kernel
theorem dX11_listed_103 : decode mX11_listed.2.1 103 = .ok (.iload 6, 2) := by decide +kernel
theorem dX11_listed_105 : decode mX11_listed.2.1 105 = .ok (.iload_n 3, 1) := by decide +kernel
theorem dX11_listed_106 : decode mX11_listed.2.1 106 = .ok (.if_icmp .ne 29, 3) := by decide +kernel
theorem dX11_listed_109 : decode mX11_listed.2.1 109 = .ok (.aload_n 0, 1) := by decide +kernel
theorem dX11_listed_110 : decode mX11_listed.2.1 110 = .ok (.iload 5, 2) := by decide +kernel
theorem dX11_listed_112 : decode mX11_listed.2.1 112 = .ok (.invokevirtual 266, 3) := by decide +kernel
theorem dX11_listed_115 : decode mX11_listed.2.1 115 = .ok (.iload 4, 2) := by decide +kernel
theorem dX11_listed_117 : decode mX11_listed.2.1 117 = .ok (.iconst (-1), 1) := by decide +kernel
theorem dX11_listed_118 : decode mX11_listed.2.1 118 = .ok (.if_icmp .ne 8, 3) := by decide +kernel
theorem dX11_listed_121 : decode mX11_listed.2.1 121 = .ok (.iload 7, 2) := by decide +kernel
theorem dX11_listed_123 : decode mX11_listed.2.1 123 = .ok (.goto 11, 3) := by decide +kernel
theorem dX11_listed_126 : decode mX11_listed.2.1 126 = .ok (.aload_n 0, 1) := by decide +kernel
theorem dX11_listed_127 : decode mX11_listed.2.1 127 = .ok (.iload 5, 2) := by decide +kernel
theorem dX11_listed_129 : decode mX11_listed.2.1 129 = .ok (.iload 4, 2) := by decide +kernel
theorem dX11_listed_131 : decode mX11_listed.2.1 131 = .ok (.invokevirtual 269, 3) := by decide +kernel
theorem dX11_listed_134 : decode mX11_listed.2.1 134 = .ok (.ireturn, 1) := by decide +kernel
theorem dX11_listed_135 : decode mX11_listed.2.1 135 = .ok (.iinc 6 1, 3) := by decide +kernel
theorem dX11_listed_138 : decode mX11_listed.2.1 138 = .ok (.goto (-53), 3) := by decide +kernel
theorem dX11_listed_141 : decode mX11_listed.2.1 141 = .ok (.iinc 7 1, 3) := by decide +kernel
theorem dX11_listed_144 : decode mX11_listed.2.1 144 = .ok (.goto (-76), 3) := by decide +kernel
theorem dX11_listed_147 : decode mX11_listed.2.1 147 = .ok (.bipush (-5), 2) := by decide +kernel
theorem dX11_listed_149 : decode mX11_listed.2.1 149 = .ok (.ireturn, 1) := by decide +kernel
def mX11_common : String × ByteArray × Nat := (RX11, cX11_common, 10)
theorem dX11_common_0 : decode mX11_common.2.1 0 = .ok (.lload_n 0, 1) := by decide +kernel
theorem dX11_common_1 : decode mX11_common.2.1 1 = .ok (.lstore 4, 2) := by decide +kernel
theorem dX11_common_3 : decode mX11_common.2.1 3 = .ok (.lload_n 2, 1) := by decide +kernel
theorem dX11_common_4 : decode mX11_common.2.1 4 = .ok (.lstore 6, 2) := by decide +kernel
theorem dX11_common_6 : decode mX11_common.2.1 6 = .ok (.lload 6, 2) := by decide +kernel
theorem dX11_common_8 : decode mX11_common.2.1 8 = .ok (.lconst 0, 1) := by decide +kernel
theorem dX11_common_9 : decode mX11_common.2.1 9 = .ok (.lcmp, 1) := by decide +kernel
theorem dX11_common_10 : decode mX11_common.2.1 10 = .ok (.ifCond .eq 21, 3) := by decide +kernel
theorem dX11_common_13 : decode mX11_common.2.1 13 = .ok (.lload 4, 2) := by decide +kernel
theorem dX11_common_15 : decode mX11_common.2.1 15 = .ok (.lload 6, 2) := by decide +kernel
theorem dX11_common_17 : decode mX11_common.2.1 17 = .ok (.lrem, 1) := by decide +kernel
theorem dX11_common_18 : decode mX11_common.2.1 18 = .ok (.lstore 8, 2) := by decide +kernel
theorem dX11_common_20 : decode mX11_common.2.1 20 = .ok (.lload 6, 2) := by decide +kernel
theorem dX11_common_22 : decode mX11_common.2.1 22 = .ok (.lstore 4, 2) := by decide +kernel
theorem dX11_common_24 : decode mX11_common.2.1 24 = .ok (.lload 8, 2) := by decide +kernel
theorem dX11_common_26 : decode mX11_common.2.1 26 = .ok (.lstore 6, 2) := by decide +kernel
theorem dX11_common_28 : decode mX11_common.2.1 28 = .ok (.goto (-22), 3) := by decide +kernel
theorem dX11_common_31 : decode mX11_common.2.1 31 = .ok (.lload 4, 2) := by decide +kernel
theorem dX11_common_33 : decode mX11_common.2.1 33 = .ok (.lreturn, 1) := by decide +kernel
def mX11_part : String × ByteArray × Nat := (RX11, cX11_part, 7)
theorem dX11_part_0 : decode mX11_part.2.1 0 = .ok (.lload_n 0, 1) := by decide +kernel
theorem dX11_part_1 : decode mX11_part.2.1 1 = .ok (.lload_n 2, 1) := by decide +kernel
theorem dX11_part_2 : decode mX11_part.2.1 2 = .ok (.invokestatic 272, 3) := by decide +kernel
theorem dX11_part_5 : decode mX11_part.2.1 5 = .ok (.lstore 5, 2) := by decide +kernel
theorem dX11_part_7 : decode mX11_part.2.1 7 = .ok (.iload 4, 2) := by decide +kernel
theorem dX11_part_9 : decode mX11_part.2.1 9 = .ok (.ifCond .ne 10, 3) := by decide +kernel
theorem dX11_part_12 : decode mX11_part.2.1 12 = .ok (.lload_n 0, 1) := by decide +kernel
theorem dX11_part_13 : decode mX11_part.2.1 13 = .ok (.lload 5, 2) := by decide +kernel
theorem dX11_part_15 : decode mX11_part.2.1 15 = .ok (.ldiv, 1) := by decide +kernel
theorem dX11_part_16 : decode mX11_part.2.1 16 = .ok (.goto 7, 3) := by decide +kernel
theorem dX11_part_19 : decode mX11_part.2.1 19 = .ok (.lload_n 2, 1) := by decide +kernel
theorem dX11_part_20 : decode mX11_part.2.1 20 = .ok (.lload 5, 2) := by decide +kernel
theorem dX11_part_22 : decode mX11_part.2.1 22 = .ok (.ldiv, 1) := by decide +kernel
theorem dX11_part_23 : decode mX11_part.2.1 23 = .ok (.lreturn, 1) := by decide +kernel
def mX11_factor : String × ByteArray × Nat := (RX11, cX11_factor, 4)
theorem dX11_factor_0 : decode mX11_factor.2.1 0 = .ok (.lconst 1, 1) := by decide +kernel
theorem dX11_factor_1 : decode mX11_factor.2.1 1 = .ok (.lstore_n 1, 1) := by decide +kernel
theorem dX11_factor_2 : decode mX11_factor.2.1 2 = .ok (.iconst 2, 1) := by decide +kernel
theorem dX11_factor_3 : decode mX11_factor.2.1 3 = .ok (.istore_n 3, 1) := by decide +kernel
theorem dX11_factor_4 : decode mX11_factor.2.1 4 = .ok (.iload_n 3, 1) := by decide +kernel
theorem dX11_factor_5 : decode mX11_factor.2.1 5 = .ok (.iload_n 0, 1) := by decide +kernel
theorem dX11_factor_6 : decode mX11_factor.2.1 6 = .ok (.if_icmp .gt 14, 3) := by decide +kernel
theorem dX11_factor_9 : decode mX11_factor.2.1 9 = .ok (.lload_n 1, 1) := by decide +kernel
theorem dX11_factor_10 : decode mX11_factor.2.1 10 = .ok (.iload_n 3, 1) := by decide +kernel
theorem dX11_factor_11 : decode mX11_factor.2.1 11 = .ok (.i2l, 1) := by decide +kernel
theorem dX11_factor_12 : decode mX11_factor.2.1 12 = .ok (.lmul, 1) := by decide +kernel
theorem dX11_factor_13 : decode mX11_factor.2.1 13 = .ok (.lstore_n 1, 1) := by decide +kernel
theorem dX11_factor_14 : decode mX11_factor.2.1 14 = .ok (.iinc 3 1, 3) := by decide +kernel
theorem dX11_factor_17 : decode mX11_factor.2.1 17 = .ok (.goto (-13), 3) := by decide +kernel
theorem dX11_factor_20 : decode mX11_factor.2.1 20 = .ok (.lload_n 1, 1) := by decide +kernel
theorem dX11_factor_21 : decode mX11_factor.2.1 21 = .ok (.lreturn, 1) := by decide +kernel
def mX11_odds : String × ByteArray × Nat := (RX11, cX11_odds, 3)
theorem dX11_odds_0 : decode mX11_odds.2.1 0 = .ok (.iload_n 1, 1) := by decide +kernel
theorem dX11_odds_1 : decode mX11_odds.2.1 1 = .ok (.invokestatic 133, 3) := by decide +kernel
theorem dX11_odds_4 : decode mX11_odds.2.1 4 = .ok (.ifCond .eq 13, 3) := by decide +kernel
theorem dX11_odds_7 : decode mX11_odds.2.1 7 = .ok (.iload_n 2, 1) := by decide +kernel
theorem dX11_odds_8 : decode mX11_odds.2.1 8 = .ok (.i2l, 1) := by decide +kernel
theorem dX11_odds_9 : decode mX11_odds.2.1 9 = .ok (.lconst 0, 1) := by decide +kernel
theorem dX11_odds_10 : decode mX11_odds.2.1 10 = .ok (.lconst 1, 1) := by decide +kernel
theorem dX11_odds_11 : decode mX11_odds.2.1 11 = .ok (.invokestatic 129, 3) := by decide +kernel
theorem dX11_odds_14 : decode mX11_odds.2.1 14 = .ok (.ifCond .ne 7, 3) := by decide +kernel
theorem dX11_odds_17 : decode mX11_odds.2.1 17 = .ok (.ldc2_w 149, 3) := by decide +kernel
theorem dX11_odds_20 : decode mX11_odds.2.1 20 = .ok (.lreturn, 1) := by decide +kernel
theorem dX11_odds_21 : decode mX11_odds.2.1 21 = .ok (.aload_n 0, 1) := by decide +kernel
theorem dX11_odds_22 : decode mX11_odds.2.1 22 = .ok (.iload_n 1, 1) := by decide +kernel
theorem dX11_odds_23 : decode mX11_odds.2.1 23 = .ok (.invokevirtual 196, 3) := by decide +kernel
theorem dX11_odds_26 : decode mX11_odds.2.1 26 = .ok (.aload_n 0, 1) := by decide +kernel
theorem dX11_odds_27 : decode mX11_odds.2.1 27 = .ok (.iload_n 1, 1) := by decide +kernel
theorem dX11_odds_28 : decode mX11_odds.2.1 28 = .ok (.iconst 0, 1) := by decide +kernel
theorem dX11_odds_29 : decode mX11_odds.2.1 29 = .ok (.invokevirtual 199, 3) := by decide +kernel
theorem dX11_odds_32 : decode mX11_odds.2.1 32 = .ok (.i2l, 1) := by decide +kernel
theorem dX11_odds_33 : decode mX11_odds.2.1 33 = .ok (.aload_n 0, 1) := by decide +kernel
theorem dX11_odds_34 : decode mX11_odds.2.1 34 = .ok (.getfield 22, 3) := by decide +kernel
theorem dX11_odds_37 : decode mX11_odds.2.1 37 = .ok (.iload_n 1, 1) := by decide +kernel
theorem dX11_odds_38 : decode mX11_odds.2.1 38 = .ok (.iaload, 1) := by decide +kernel
theorem dX11_odds_39 : decode mX11_odds.2.1 39 = .ok (.invokestatic 276, 3) := by decide +kernel
theorem dX11_odds_42 : decode mX11_odds.2.1 42 = .ok (.iload_n 2, 1) := by decide +kernel
theorem dX11_odds_43 : decode mX11_odds.2.1 43 = .ok (.invokestatic 280, 3) := by decide +kernel
theorem dX11_odds_46 : decode mX11_odds.2.1 46 = .ok (.lreturn, 1) := by decide +kernel
def mX11_mean : String × ByteArray × Nat := (RX11, cX11_mean, 6)
theorem dX11_mean_0 : decode mX11_mean.2.1 0 = .ok (.iload_n 1, 1) := by decide +kernel
theorem dX11_mean_1 : decode mX11_mean.2.1 1 = .ok (.invokestatic 133, 3) := by decide +kernel
theorem dX11_mean_4 : decode mX11_mean.2.1 4 = .ok (.ifCond .eq 13, 3) := by decide +kernel
theorem dX11_mean_7 : decode mX11_mean.2.1 7 = .ok (.iload_n 2, 1) := by decide +kernel
theorem dX11_mean_8 : decode mX11_mean.2.1 8 = .ok (.i2l, 1) := by decide +kernel
theorem dX11_mean_9 : decode mX11_mean.2.1 9 = .ok (.lconst 0, 1) := by decide +kernel
theorem dX11_mean_10 : decode mX11_mean.2.1 10 = .ok (.lconst 1, 1) := by decide +kernel
theorem dX11_mean_11 : decode mX11_mean.2.1 11 = .ok (.invokestatic 129, 3) := by decide +kernel
theorem dX11_mean_14 : decode mX11_mean.2.1 14 = .ok (.ifCond .ne 7, 3) := by decide +kernel
theorem dX11_mean_17 : decode mX11_mean.2.1 17 = .ok (.ldc2_w 149, 3) := by decide +kernel
theorem dX11_mean_20 : decode mX11_mean.2.1 20 = .ok (.lreturn, 1) := by decide +kernel
theorem dX11_mean_21 : decode mX11_mean.2.1 21 = .ok (.aload_n 0, 1) := by decide +kernel
theorem dX11_mean_22 : decode mX11_mean.2.1 22 = .ok (.iload_n 1, 1) := by decide +kernel
theorem dX11_mean_23 : decode mX11_mean.2.1 23 = .ok (.invokevirtual 196, 3) := by decide +kernel
theorem dX11_mean_26 : decode mX11_mean.2.1 26 = .ok (.lconst 0, 1) := by decide +kernel
theorem dX11_mean_27 : decode mX11_mean.2.1 27 = .ok (.lstore_n 3, 1) := by decide +kernel
theorem dX11_mean_28 : decode mX11_mean.2.1 28 = .ok (.iconst 0, 1) := by decide +kernel
theorem dX11_mean_29 : decode mX11_mean.2.1 29 = .ok (.istore 5, 2) := by decide +kernel
theorem dX11_mean_31 : decode mX11_mean.2.1 31 = .ok (.iload 5, 2) := by decide +kernel
theorem dX11_mean_33 : decode mX11_mean.2.1 33 = .ok (.bipush 7, 2) := by decide +kernel
theorem dX11_mean_35 : decode mX11_mean.2.1 35 = .ok (.if_icmp .ge 24, 3) := by decide +kernel
theorem dX11_mean_38 : decode mX11_mean.2.1 38 = .ok (.lload_n 3, 1) := by decide +kernel
theorem dX11_mean_39 : decode mX11_mean.2.1 39 = .ok (.iload 5, 2) := by decide +kernel
theorem dX11_mean_41 : decode mX11_mean.2.1 41 = .ok (.i2l, 1) := by decide +kernel
theorem dX11_mean_42 : decode mX11_mean.2.1 42 = .ok (.aload_n 0, 1) := by decide +kernel
theorem dX11_mean_43 : decode mX11_mean.2.1 43 = .ok (.iload_n 1, 1) := by decide +kernel
theorem dX11_mean_44 : decode mX11_mean.2.1 44 = .ok (.iload 5, 2) := by decide +kernel
theorem dX11_mean_46 : decode mX11_mean.2.1 46 = .ok (.invokevirtual 199, 3) := by decide +kernel
theorem dX11_mean_49 : decode mX11_mean.2.1 49 = .ok (.i2l, 1) := by decide +kernel
theorem dX11_mean_50 : decode mX11_mean.2.1 50 = .ok (.lmul, 1) := by decide +kernel
theorem dX11_mean_51 : decode mX11_mean.2.1 51 = .ok (.ladd, 1) := by decide +kernel
theorem dX11_mean_52 : decode mX11_mean.2.1 52 = .ok (.lstore_n 3, 1) := by decide +kernel
theorem dX11_mean_53 : decode mX11_mean.2.1 53 = .ok (.iinc 5 1, 3) := by decide +kernel
theorem dX11_mean_56 : decode mX11_mean.2.1 56 = .ok (.goto (-25), 3) := by decide +kernel
theorem dX11_mean_59 : decode mX11_mean.2.1 59 = .ok (.lload_n 3, 1) := by decide +kernel
theorem dX11_mean_60 : decode mX11_mean.2.1 60 = .ok (.aload_n 0, 1) := by decide +kernel
theorem dX11_mean_61 : decode mX11_mean.2.1 61 = .ok (.getfield 22, 3) := by decide +kernel
theorem dX11_mean_64 : decode mX11_mean.2.1 64 = .ok (.iload_n 1, 1) := by decide +kernel
theorem dX11_mean_65 : decode mX11_mean.2.1 65 = .ok (.iaload, 1) := by decide +kernel
theorem dX11_mean_66 : decode mX11_mean.2.1 66 = .ok (.invokestatic 276, 3) := by decide +kernel
theorem dX11_mean_69 : decode mX11_mean.2.1 69 = .ok (.iload_n 2, 1) := by decide +kernel
theorem dX11_mean_70 : decode mX11_mean.2.1 70 = .ok (.invokestatic 280, 3) := by decide +kernel
theorem dX11_mean_73 : decode mX11_mean.2.1 73 = .ok (.lreturn, 1) := by decide +kernel
def mX11_draw : String × ByteArray × Nat := (RX11, cX11_draw, 2)
theorem dX11_draw_0 : decode mX11_draw.2.1 0 = .ok (.aload_n 0, 1) := by decide +kernel
theorem dX11_draw_1 : decode mX11_draw.2.1 1 = .ok (.aload_n 0, 1) := by decide +kernel
theorem dX11_draw_2 : decode mX11_draw.2.1 2 = .ok (.getfield 284, 3) := by decide +kernel
theorem dX11_draw_5 : decode mX11_draw.2.1 5 = .ok (.ldc_w 287, 3) := by decide +kernel
theorem dX11_draw_8 : decode mX11_draw.2.1 8 = .ok (.imul, 1) := by decide +kernel
theorem dX11_draw_9 : decode mX11_draw.2.1 9 = .ok (.sipush 12345, 3) := by decide +kernel
theorem dX11_draw_12 : decode mX11_draw.2.1 12 = .ok (.iadd, 1) := by decide +kernel
theorem dX11_draw_13 : decode mX11_draw.2.1 13 = .ok (.putfield 284, 3) := by decide +kernel
theorem dX11_draw_16 : decode mX11_draw.2.1 16 = .ok (.aload_n 0, 1) := by decide +kernel
theorem dX11_draw_17 : decode mX11_draw.2.1 17 = .ok (.getfield 284, 3) := by decide +kernel
theorem dX11_draw_20 : decode mX11_draw.2.1 20 = .ok (.ldc_w 288, 3) := by decide +kernel
theorem dX11_draw_23 : decode mX11_draw.2.1 23 = .ok (.iand, 1) := by decide +kernel
theorem dX11_draw_24 : decode mX11_draw.2.1 24 = .ok (.ldc_w 289, 3) := by decide +kernel
theorem dX11_draw_27 : decode mX11_draw.2.1 27 = .ok (.idiv, 1) := by decide +kernel
theorem dX11_draw_28 : decode mX11_draw.2.1 28 = .ok (.iload_n 1, 1) := by decide +kernel
theorem dX11_draw_29 : decode mX11_draw.2.1 29 = .ok (.irem, 1) := by decide +kernel
theorem dX11_draw_30 : decode mX11_draw.2.1 30 = .ok (.ireturn, 1) := by decide +kernel
def mX11_lots : String × ByteArray × Nat := (RX11, cX11_lots, 13)
theorem dX11_lots_0 : decode mX11_lots.2.1 0 = .ok (.iload_n 1, 1) := by decide +kernel
theorem dX11_lots_1 : decode mX11_lots.2.1 1 = .ok (.invokestatic 133, 3) := by decide +kernel
theorem dX11_lots_4 : decode mX11_lots.2.1 4 = .ok (.ifCond .eq 14, 3) := by decide +kernel
theorem dX11_lots_7 : decode mX11_lots.2.1 7 = .ok (.iload 4, 2) := by decide +kernel
theorem dX11_lots_9 : decode mX11_lots.2.1 9 = .ok (.i2l, 1) := by decide +kernel
theorem dX11_lots_10 : decode mX11_lots.2.1 10 = .ok (.lconst 0, 1) := by decide +kernel
theorem dX11_lots_11 : decode mX11_lots.2.1 11 = .ok (.lconst 1, 1) := by decide +kernel
theorem dX11_lots_12 : decode mX11_lots.2.1 12 = .ok (.invokestatic 129, 3) := by decide +kernel
theorem dX11_lots_15 : decode mX11_lots.2.1 15 = .ok (.ifCond .ne 5, 3) := by decide +kernel
theorem dX11_lots_18 : decode mX11_lots.2.1 18 = .ok (.iconst (-1), 1) := by decide +kernel
theorem dX11_lots_19 : decode mX11_lots.2.1 19 = .ok (.ireturn, 1) := by decide +kernel
theorem dX11_lots_20 : decode mX11_lots.2.1 20 = .ok (.iload_n 2, 1) := by decide +kernel
theorem dX11_lots_21 : decode mX11_lots.2.1 21 = .ok (.i2l, 1) := by decide +kernel
theorem dX11_lots_22 : decode mX11_lots.2.1 22 = .ok (.lconst 1, 1) := by decide +kernel
theorem dX11_lots_23 : decode mX11_lots.2.1 23 = .ok (.ldc2_w 290, 3) := by decide +kernel
theorem dX11_lots_26 : decode mX11_lots.2.1 26 = .ok (.invokestatic 129, 3) := by decide +kernel
theorem dX11_lots_29 : decode mX11_lots.2.1 29 = .ok (.ifCond .ne 6, 3) := by decide +kernel
theorem dX11_lots_32 : decode mX11_lots.2.1 32 = .ok (.bipush (-2), 2) := by decide +kernel
theorem dX11_lots_34 : decode mX11_lots.2.1 34 = .ok (.ireturn, 1) := by decide +kernel
theorem dX11_lots_35 : decode mX11_lots.2.1 35 = .ok (.aload_n 0, 1) := by decide +kernel
theorem dX11_lots_36 : decode mX11_lots.2.1 36 = .ok (.iload_n 3, 1) := by decide +kernel
theorem dX11_lots_37 : decode mX11_lots.2.1 37 = .ok (.putfield 284, 3) := by decide +kernel
theorem dX11_lots_40 : decode mX11_lots.2.1 40 = .ok (.iconst 0, 1) := by decide +kernel
theorem dX11_lots_41 : decode mX11_lots.2.1 41 = .ok (.istore 5, 2) := by decide +kernel
theorem dX11_lots_43 : decode mX11_lots.2.1 43 = .ok (.iconst 0, 1) := by decide +kernel
theorem dX11_lots_44 : decode mX11_lots.2.1 44 = .ok (.istore 6, 2) := by decide +kernel
theorem dX11_lots_46 : decode mX11_lots.2.1 46 = .ok (.iconst 0, 1) := by decide +kernel
theorem dX11_lots_47 : decode mX11_lots.2.1 47 = .ok (.istore 7, 2) := by decide +kernel
theorem dX11_lots_49 : decode mX11_lots.2.1 49 = .ok (.iload 7, 2) := by decide +kernel
theorem dX11_lots_51 : decode mX11_lots.2.1 51 = .ok (.iload_n 2, 1) := by decide +kernel
theorem dX11_lots_52 : decode mX11_lots.2.1 52 = .ok (.if_icmp .ge 150, 3) := by decide +kernel
theorem dX11_lots_55 : decode mX11_lots.2.1 55 = .ok (.iconst 1, 1) := by decide +kernel
theorem dX11_lots_56 : decode mX11_lots.2.1 56 = .ok (.aload_n 0, 1) := by decide +kernel
theorem dX11_lots_57 : decode mX11_lots.2.1 57 = .ok (.getfield 22, 3) := by decide +kernel
theorem dX11_lots_60 : decode mX11_lots.2.1 60 = .ok (.iload_n 1, 1) := by decide +kernel
theorem dX11_lots_61 : decode mX11_lots.2.1 61 = .ok (.iaload, 1) := by decide +kernel
theorem dX11_lots_62 : decode mX11_lots.2.1 62 = .ok (.ishl, 1) := by decide +kernel
theorem dX11_lots_63 : decode mX11_lots.2.1 63 = .ok (.iconst 1, 1) := by decide +kernel
theorem dX11_lots_64 : decode mX11_lots.2.1 64 = .ok (.isub, 1) := by decide +kernel
theorem dX11_lots_65 : decode mX11_lots.2.1 65 = .ok (.istore 8, 2) := by decide +kernel
theorem dX11_lots_67 : decode mX11_lots.2.1 67 = .ok (.iconst 0, 1) := by decide +kernel
theorem dX11_lots_68 : decode mX11_lots.2.1 68 = .ok (.istore 9, 2) := by decide +kernel
theorem dX11_lots_70 : decode mX11_lots.2.1 70 = .ok (.iconst 0, 1) := by decide +kernel
theorem dX11_lots_71 : decode mX11_lots.2.1 71 = .ok (.istore 10, 2) := by decide +kernel
theorem dX11_lots_73 : decode mX11_lots.2.1 73 = .ok (.iload 10, 2) := by decide +kernel
theorem dX11_lots_75 : decode mX11_lots.2.1 75 = .ok (.aload_n 0, 1) := by decide +kernel
theorem dX11_lots_76 : decode mX11_lots.2.1 76 = .ok (.getfield 22, 3) := by decide +kernel
theorem dX11_lots_79 : decode mX11_lots.2.1 79 = .ok (.iload_n 1, 1) := by decide +kernel
theorem dX11_lots_80 : decode mX11_lots.2.1 80 = .ok (.iaload, 1) := by decide +kernel
theorem dX11_lots_81 : decode mX11_lots.2.1 81 = .ok (.if_icmp .ge 93, 3) := by decide +kernel
theorem dX11_lots_84 : decode mX11_lots.2.1 84 = .ok (.aload_n 0, 1) := by decide +kernel
theorem dX11_lots_85 : decode mX11_lots.2.1 85 = .ok (.aload_n 0, 1) := by decide +kernel
theorem dX11_lots_86 : decode mX11_lots.2.1 86 = .ok (.getfield 22, 3) := by decide +kernel
theorem dX11_lots_89 : decode mX11_lots.2.1 89 = .ok (.iload_n 1, 1) := by decide +kernel
theorem dX11_lots_90 : decode mX11_lots.2.1 90 = .ok (.iaload, 1) := by decide +kernel
theorem dX11_lots_91 : decode mX11_lots.2.1 91 = .ok (.iload 10, 2) := by decide +kernel
theorem dX11_lots_93 : decode mX11_lots.2.1 93 = .ok (.isub, 1) := by decide +kernel
theorem dX11_lots_94 : decode mX11_lots.2.1 94 = .ok (.invokevirtual 292, 3) := by decide +kernel
theorem dX11_lots_97 : decode mX11_lots.2.1 97 = .ok (.istore 11, 2) := by decide +kernel
theorem dX11_lots_99 : decode mX11_lots.2.1 99 = .ok (.iconst 0, 1) := by decide +kernel
theorem dX11_lots_100 : decode mX11_lots.2.1 100 = .ok (.istore 12, 2) := by decide +kernel
theorem dX11_lots_102 : decode mX11_lots.2.1 102 = .ok (.iload 8, 2) := by decide +kernel
theorem dX11_lots_104 : decode mX11_lots.2.1 104 = .ok (.iload 12, 2) := by decide +kernel
theorem dX11_lots_106 : decode mX11_lots.2.1 106 = .ok (.ishr, 1) := by decide +kernel
theorem dX11_lots_107 : decode mX11_lots.2.1 107 = .ok (.iconst 1, 1) := by decide +kernel
theorem dX11_lots_108 : decode mX11_lots.2.1 108 = .ok (.iand, 1) := by decide +kernel
theorem dX11_lots_109 : decode mX11_lots.2.1 109 = .ok (.ifCond .eq 8, 3) := by decide +kernel
theorem dX11_lots_112 : decode mX11_lots.2.1 112 = .ok (.iload 11, 2) := by decide +kernel
theorem dX11_lots_114 : decode mX11_lots.2.1 114 = .ok (.ifCond .le 21, 3) := by decide +kernel
theorem dX11_lots_117 : decode mX11_lots.2.1 117 = .ok (.iload 11, 2) := by decide +kernel
theorem dX11_lots_119 : decode mX11_lots.2.1 119 = .ok (.iload 8, 2) := by decide +kernel
theorem dX11_lots_121 : decode mX11_lots.2.1 121 = .ok (.iload 12, 2) := by decide +kernel
theorem dX11_lots_123 : decode mX11_lots.2.1 123 = .ok (.ishr, 1) := by decide +kernel
theorem dX11_lots_124 : decode mX11_lots.2.1 124 = .ok (.iconst 1, 1) := by decide +kernel
theorem dX11_lots_125 : decode mX11_lots.2.1 125 = .ok (.iand, 1) := by decide +kernel
theorem dX11_lots_126 : decode mX11_lots.2.1 126 = .ok (.isub, 1) := by decide +kernel
theorem dX11_lots_127 : decode mX11_lots.2.1 127 = .ok (.istore 11, 2) := by decide +kernel
theorem dX11_lots_129 : decode mX11_lots.2.1 129 = .ok (.iinc 12 1, 3) := by decide +kernel
theorem dX11_lots_132 : decode mX11_lots.2.1 132 = .ok (.goto (-30), 3) := by decide +kernel
theorem dX11_lots_135 : decode mX11_lots.2.1 135 = .ok (.iload 8, 2) := by decide +kernel
theorem dX11_lots_137 : decode mX11_lots.2.1 137 = .ok (.iconst 1, 1) := by decide +kernel
theorem dX11_lots_138 : decode mX11_lots.2.1 138 = .ok (.iload 12, 2) := by decide +kernel
theorem dX11_lots_140 : decode mX11_lots.2.1 140 = .ok (.ishl, 1) := by decide +kernel
theorem dX11_lots_141 : decode mX11_lots.2.1 141 = .ok (.iconst (-1), 1) := by decide +kernel
theorem dX11_lots_142 : decode mX11_lots.2.1 142 = .ok (.ixor, 1) := by decide +kernel
theorem dX11_lots_143 : decode mX11_lots.2.1 143 = .ok (.iand, 1) := by decide +kernel
theorem dX11_lots_144 : decode mX11_lots.2.1 144 = .ok (.istore 8, 2) := by decide +kernel
theorem dX11_lots_146 : decode mX11_lots.2.1 146 = .ok (.iload 9, 2) := by decide +kernel
theorem dX11_lots_148 : decode mX11_lots.2.1 148 = .ok (.aload_n 0, 1) := by decide +kernel
theorem dX11_lots_149 : decode mX11_lots.2.1 149 = .ok (.iload_n 1, 1) := by decide +kernel
theorem dX11_lots_150 : decode mX11_lots.2.1 150 = .ok (.iload 10, 2) := by decide +kernel
theorem dX11_lots_152 : decode mX11_lots.2.1 152 = .ok (.iload 12, 2) := by decide +kernel
theorem dX11_lots_154 : decode mX11_lots.2.1 154 = .ok (.invokevirtual 189, 3) := by decide +kernel
theorem dX11_lots_157 : decode mX11_lots.2.1 157 = .ok (.ifCond .eq 7, 3) := by decide +kernel
theorem dX11_lots_160 : decode mX11_lots.2.1 160 = .ok (.iconst 1, 1) := by decide +kernel
theorem dX11_lots_161 : decode mX11_lots.2.1 161 = .ok (.goto 4, 3) := by decide +kernel
theorem dX11_lots_164 : decode mX11_lots.2.1 164 = .ok (.iconst 0, 1) := by decide +kernel
theorem dX11_lots_165 : decode mX11_lots.2.1 165 = .ok (.iadd, 1) := by decide +kernel
theorem dX11_lots_166 : decode mX11_lots.2.1 166 = .ok (.istore 9, 2) := by decide +kernel
theorem dX11_lots_168 : decode mX11_lots.2.1 168 = .ok (.iinc 10 1, 3) := by decide +kernel
theorem dX11_lots_171 : decode mX11_lots.2.1 171 = .ok (.goto (-98), 3) := by decide +kernel
theorem dX11_lots_174 : decode mX11_lots.2.1 174 = .ok (.iload 5, 2) := by decide +kernel
theorem dX11_lots_176 : decode mX11_lots.2.1 176 = .ok (.iload 9, 2) := by decide +kernel
theorem dX11_lots_178 : decode mX11_lots.2.1 178 = .ok (.ifCond .ne 7, 3) := by decide +kernel
theorem dX11_lots_181 : decode mX11_lots.2.1 181 = .ok (.iconst 1, 1) := by decide +kernel
theorem dX11_lots_182 : decode mX11_lots.2.1 182 = .ok (.goto 4, 3) := by decide +kernel
theorem dX11_lots_185 : decode mX11_lots.2.1 185 = .ok (.iconst 0, 1) := by decide +kernel
theorem dX11_lots_186 : decode mX11_lots.2.1 186 = .ok (.iadd, 1) := by decide +kernel
theorem dX11_lots_187 : decode mX11_lots.2.1 187 = .ok (.istore 5, 2) := by decide +kernel
theorem dX11_lots_189 : decode mX11_lots.2.1 189 = .ok (.iload 6, 2) := by decide +kernel
theorem dX11_lots_191 : decode mX11_lots.2.1 191 = .ok (.iload 9, 2) := by decide +kernel
theorem dX11_lots_193 : decode mX11_lots.2.1 193 = .ok (.iadd, 1) := by decide +kernel
theorem dX11_lots_194 : decode mX11_lots.2.1 194 = .ok (.istore 6, 2) := by decide +kernel
theorem dX11_lots_196 : decode mX11_lots.2.1 196 = .ok (.iinc 7 1, 3) := by decide +kernel
theorem dX11_lots_199 : decode mX11_lots.2.1 199 = .ok (.goto (-150), 3) := by decide +kernel
theorem dX11_lots_202 : decode mX11_lots.2.1 202 = .ok (.iload 4, 2) := by decide +kernel
theorem dX11_lots_204 : decode mX11_lots.2.1 204 = .ok (.ifCond .ne 8, 3) := by decide +kernel
theorem dX11_lots_207 : decode mX11_lots.2.1 207 = .ok (.iload 5, 2) := by decide +kernel
theorem dX11_lots_209 : decode mX11_lots.2.1 209 = .ok (.goto 5, 3) := by decide +kernel
theorem dX11_lots_212 : decode mX11_lots.2.1 212 = .ok (.iload 6, 2) := by decide +kernel
theorem dX11_lots_214 : decode mX11_lots.2.1 214 = .ok (.ireturn, 1) := by decide +kernel
def mX11_feed : String × ByteArray × Nat := (RX11, cX11_feed, 2)
theorem dX11_feed_0 : decode mX11_feed.2.1 0 = .ok (.iload_n 1, 1) := by decide +kernel
theorem dX11_feed_1 : decode mX11_feed.2.1 1 = .ok (.i2l, 1) := by decide +kernel
theorem dX11_feed_2 : decode mX11_feed.2.1 2 = .ok (.lconst 0, 1) := by decide +kernel
theorem dX11_feed_3 : decode mX11_feed.2.1 3 = .ok (.ldc2_w 295, 3) := by decide +kernel
theorem dX11_feed_6 : decode mX11_feed.2.1 6 = .ok (.invokestatic 129, 3) := by decide +kernel
theorem dX11_feed_9 : decode mX11_feed.2.1 9 = .ok (.ifCond .ne 6, 3) := by decide +kernel
theorem dX11_feed_12 : decode mX11_feed.2.1 12 = .ok (.bipush (-2), 2) := by decide +kernel
theorem dX11_feed_14 : decode mX11_feed.2.1 14 = .ok (.ireturn, 1) := by decide +kernel
theorem dX11_feed_15 : decode mX11_feed.2.1 15 = .ok (.aload_n 0, 1) := by decide +kernel
theorem dX11_feed_16 : decode mX11_feed.2.1 16 = .ok (.getfield 297, 3) := by decide +kernel
theorem dX11_feed_19 : decode mX11_feed.2.1 19 = .ok (.bipush 80, 2) := by decide +kernel
theorem dX11_feed_21 : decode mX11_feed.2.1 21 = .ok (.if_icmp .ne 6, 3) := by decide +kernel
theorem dX11_feed_24 : decode mX11_feed.2.1 24 = .ok (.bipush (-4), 2) := by decide +kernel
theorem dX11_feed_26 : decode mX11_feed.2.1 26 = .ok (.ireturn, 1) := by decide +kernel
theorem dX11_feed_27 : decode mX11_feed.2.1 27 = .ok (.aload_n 0, 1) := by decide +kernel
theorem dX11_feed_28 : decode mX11_feed.2.1 28 = .ok (.getfield 46, 3) := by decide +kernel
theorem dX11_feed_31 : decode mX11_feed.2.1 31 = .ok (.aload_n 0, 1) := by decide +kernel
theorem dX11_feed_32 : decode mX11_feed.2.1 32 = .ok (.getfield 297, 3) := by decide +kernel
theorem dX11_feed_35 : decode mX11_feed.2.1 35 = .ok (.iload_n 1, 1) := by decide +kernel
theorem dX11_feed_36 : decode mX11_feed.2.1 36 = .ok (.iastore, 1) := by decide +kernel
theorem dX11_feed_37 : decode mX11_feed.2.1 37 = .ok (.aload_n 0, 1) := by decide +kernel
theorem dX11_feed_38 : decode mX11_feed.2.1 38 = .ok (.dup, 1) := by decide +kernel
theorem dX11_feed_39 : decode mX11_feed.2.1 39 = .ok (.getfield 297, 3) := by decide +kernel
theorem dX11_feed_42 : decode mX11_feed.2.1 42 = .ok (.iconst 1, 1) := by decide +kernel
theorem dX11_feed_43 : decode mX11_feed.2.1 43 = .ok (.iadd, 1) := by decide +kernel
theorem dX11_feed_44 : decode mX11_feed.2.1 44 = .ok (.putfield 297, 3) := by decide +kernel
theorem dX11_feed_47 : decode mX11_feed.2.1 47 = .ok (.aload_n 0, 1) := by decide +kernel
theorem dX11_feed_48 : decode mX11_feed.2.1 48 = .ok (.getfield 297, 3) := by decide +kernel
theorem dX11_feed_51 : decode mX11_feed.2.1 51 = .ok (.ireturn, 1) := by decide +kernel
def mX11_faultAt : String × ByteArray × Nat := (RX11, cX11_faultAt, 6)
theorem dX11_faultAt_0 : decode mX11_faultAt.2.1 0 = .ok (.iconst 0, 1) := by decide +kernel
theorem dX11_faultAt_1 : decode mX11_faultAt.2.1 1 = .ok (.istore_n 1, 1) := by decide +kernel
theorem dX11_faultAt_2 : decode mX11_faultAt.2.1 2 = .ok (.iconst 0, 1) := by decide +kernel
theorem dX11_faultAt_3 : decode mX11_faultAt.2.1 3 = .ok (.istore_n 2, 1) := by decide +kernel
theorem dX11_faultAt_4 : decode mX11_faultAt.2.1 4 = .ok (.iconst 0, 1) := by decide +kernel
theorem dX11_faultAt_5 : decode mX11_faultAt.2.1 5 = .ok (.istore_n 3, 1) := by decide +kernel
theorem dX11_faultAt_6 : decode mX11_faultAt.2.1 6 = .ok (.iconst 0, 1) := by decide +kernel
theorem dX11_faultAt_7 : decode mX11_faultAt.2.1 7 = .ok (.istore 4, 2) := by decide +kernel
theorem dX11_faultAt_9 : decode mX11_faultAt.2.1 9 = .ok (.iload 4, 2) := by decide +kernel
theorem dX11_faultAt_11 : decode mX11_faultAt.2.1 11 = .ok (.aload_n 0, 1) := by decide +kernel
theorem dX11_faultAt_12 : decode mX11_faultAt.2.1 12 = .ok (.getfield 297, 3) := by decide +kernel
theorem dX11_faultAt_15 : decode mX11_faultAt.2.1 15 = .ok (.if_icmp .ge 111, 3) := by decide +kernel
theorem dX11_faultAt_18 : decode mX11_faultAt.2.1 18 = .ok (.aload_n 0, 1) := by decide +kernel
theorem dX11_faultAt_19 : decode mX11_faultAt.2.1 19 = .ok (.getfield 46, 3) := by decide +kernel
theorem dX11_faultAt_22 : decode mX11_faultAt.2.1 22 = .ok (.iload 4, 2) := by decide +kernel
theorem dX11_faultAt_24 : decode mX11_faultAt.2.1 24 = .ok (.iaload, 1) := by decide +kernel
theorem dX11_faultAt_25 : decode mX11_faultAt.2.1 25 = .ok (.istore 5, 2) := by decide +kernel
theorem dX11_faultAt_27 : decode mX11_faultAt.2.1 27 = .ok (.iload 5, 2) := by decide +kernel
theorem dX11_faultAt_29 : decode mX11_faultAt.2.1 29 = .ok (.bipush 85, 2) := by decide +kernel
theorem dX11_faultAt_31 : decode mX11_faultAt.2.1 31 = .ok (.if_icmp .eq 10, 3) := by decide +kernel
theorem dX11_faultAt_34 : decode mX11_faultAt.2.1 34 = .ok (.iload 5, 2) := by decide +kernel
theorem dX11_faultAt_36 : decode mX11_faultAt.2.1 36 = .ok (.bipush 68, 2) := by decide +kernel
theorem dX11_faultAt_38 : decode mX11_faultAt.2.1 38 = .ok (.if_icmp .ne 10, 3) := by decide +kernel
theorem dX11_faultAt_41 : decode mX11_faultAt.2.1 41 = .ok (.iconst 1, 1) := by decide +kernel
theorem dX11_faultAt_42 : decode mX11_faultAt.2.1 42 = .ok (.istore_n 2, 1) := by decide +kernel
theorem dX11_faultAt_43 : decode mX11_faultAt.2.1 43 = .ok (.iconst 1, 1) := by decide +kernel
theorem dX11_faultAt_44 : decode mX11_faultAt.2.1 44 = .ok (.istore_n 3, 1) := by decide +kernel
theorem dX11_faultAt_45 : decode mX11_faultAt.2.1 45 = .ok (.goto 75, 3) := by decide +kernel
theorem dX11_faultAt_48 : decode mX11_faultAt.2.1 48 = .ok (.iload 5, 2) := by decide +kernel
theorem dX11_faultAt_50 : decode mX11_faultAt.2.1 50 = .ok (.bipush 40, 2) := by decide +kernel
theorem dX11_faultAt_52 : decode mX11_faultAt.2.1 52 = .ok (.if_icmp .ne 18, 3) := by decide +kernel
theorem dX11_faultAt_55 : decode mX11_faultAt.2.1 55 = .ok (.iload_n 1, 1) := by decide +kernel
theorem dX11_faultAt_56 : decode mX11_faultAt.2.1 56 = .ok (.iconst 4, 1) := by decide +kernel
theorem dX11_faultAt_57 : decode mX11_faultAt.2.1 57 = .ok (.if_icmp .ge 13, 3) := by decide +kernel
theorem dX11_faultAt_60 : decode mX11_faultAt.2.1 60 = .ok (.iinc 1 1, 3) := by decide +kernel
theorem dX11_faultAt_63 : decode mX11_faultAt.2.1 63 = .ok (.iconst 0, 1) := by decide +kernel
theorem dX11_faultAt_64 : decode mX11_faultAt.2.1 64 = .ok (.istore_n 2, 1) := by decide +kernel
theorem dX11_faultAt_65 : decode mX11_faultAt.2.1 65 = .ok (.iconst 0, 1) := by decide +kernel
theorem dX11_faultAt_66 : decode mX11_faultAt.2.1 66 = .ok (.istore_n 3, 1) := by decide +kernel
theorem dX11_faultAt_67 : decode mX11_faultAt.2.1 67 = .ok (.goto 53, 3) := by decide +kernel
theorem dX11_faultAt_70 : decode mX11_faultAt.2.1 70 = .ok (.iload 5, 2) := by decide +kernel
theorem dX11_faultAt_72 : decode mX11_faultAt.2.1 72 = .ok (.bipush 41, 2) := by decide +kernel
theorem dX11_faultAt_74 : decode mX11_faultAt.2.1 74 = .ok (.if_icmp .ne 19, 3) := by decide +kernel
theorem dX11_faultAt_77 : decode mX11_faultAt.2.1 77 = .ok (.iload_n 1, 1) := by decide +kernel
theorem dX11_faultAt_78 : decode mX11_faultAt.2.1 78 = .ok (.ifCond .le 15, 3) := by decide +kernel
theorem dX11_faultAt_81 : decode mX11_faultAt.2.1 81 = .ok (.iload_n 2, 1) := by decide +kernel
theorem dX11_faultAt_82 : decode mX11_faultAt.2.1 82 = .ok (.ifCond .eq 11, 3) := by decide +kernel
theorem dX11_faultAt_85 : decode mX11_faultAt.2.1 85 = .ok (.iinc 1 (-1), 3) := by decide +kernel
theorem dX11_faultAt_88 : decode mX11_faultAt.2.1 88 = .ok (.iconst 1, 1) := by decide +kernel
theorem dX11_faultAt_89 : decode mX11_faultAt.2.1 89 = .ok (.istore_n 3, 1) := by decide +kernel
theorem dX11_faultAt_90 : decode mX11_faultAt.2.1 90 = .ok (.goto 30, 3) := by decide +kernel
theorem dX11_faultAt_93 : decode mX11_faultAt.2.1 93 = .ok (.iload 5, 2) := by decide +kernel
theorem dX11_faultAt_95 : decode mX11_faultAt.2.1 95 = .ok (.i2l, 1) := by decide +kernel
theorem dX11_faultAt_96 : decode mX11_faultAt.2.1 96 = .ok (.ldc2_w 300, 3) := by decide +kernel
theorem dX11_faultAt_99 : decode mX11_faultAt.2.1 99 = .ok (.ldc2_w 302, 3) := by decide +kernel
theorem dX11_faultAt_102 : decode mX11_faultAt.2.1 102 = .ok (.invokestatic 129, 3) := by decide +kernel
theorem dX11_faultAt_105 : decode mX11_faultAt.2.1 105 = .ok (.ifCond .eq 12, 3) := by decide +kernel
theorem dX11_faultAt_108 : decode mX11_faultAt.2.1 108 = .ok (.iload_n 3, 1) := by decide +kernel
theorem dX11_faultAt_109 : decode mX11_faultAt.2.1 109 = .ok (.ifCond .eq 8, 3) := by decide +kernel
theorem dX11_faultAt_112 : decode mX11_faultAt.2.1 112 = .ok (.iconst 0, 1) := by decide +kernel
theorem dX11_faultAt_113 : decode mX11_faultAt.2.1 113 = .ok (.istore_n 3, 1) := by decide +kernel
theorem dX11_faultAt_114 : decode mX11_faultAt.2.1 114 = .ok (.goto 6, 3) := by decide +kernel
theorem dX11_faultAt_117 : decode mX11_faultAt.2.1 117 = .ok (.iload 4, 2) := by decide +kernel
theorem dX11_faultAt_119 : decode mX11_faultAt.2.1 119 = .ok (.ireturn, 1) := by decide +kernel
theorem dX11_faultAt_120 : decode mX11_faultAt.2.1 120 = .ok (.iinc 4 1, 3) := by decide +kernel
theorem dX11_faultAt_123 : decode mX11_faultAt.2.1 123 = .ok (.goto (-114), 3) := by decide +kernel
theorem dX11_faultAt_126 : decode mX11_faultAt.2.1 126 = .ok (.iload_n 1, 1) := by decide +kernel
theorem dX11_faultAt_127 : decode mX11_faultAt.2.1 127 = .ok (.ifCond .gt 7, 3) := by decide +kernel
theorem dX11_faultAt_130 : decode mX11_faultAt.2.1 130 = .ok (.iload_n 2, 1) := by decide +kernel
theorem dX11_faultAt_131 : decode mX11_faultAt.2.1 131 = .ok (.ifCond .ne 10, 3) := by decide +kernel
theorem dX11_faultAt_134 : decode mX11_faultAt.2.1 134 = .ok (.aload_n 0, 1) := by decide +kernel
theorem dX11_faultAt_135 : decode mX11_faultAt.2.1 135 = .ok (.getfield 297, 3) := by decide +kernel
theorem dX11_faultAt_138 : decode mX11_faultAt.2.1 138 = .ok (.goto 4, 3) := by decide +kernel
theorem dX11_faultAt_141 : decode mX11_faultAt.2.1 141 = .ok (.iconst (-1), 1) := by decide +kernel
theorem dX11_faultAt_142 : decode mX11_faultAt.2.1 142 = .ok (.ireturn, 1) := by decide +kernel
def mX11_textLetters : String × ByteArray × Nat := (RX11, cX11_textLetters, 9)
theorem dX11_textLetters_0 : decode mX11_textLetters.2.1 0 = .ok (.iconst 0, 1) := by decide +kernel
theorem dX11_textLetters_1 : decode mX11_textLetters.2.1 1 = .ok (.istore_n 1, 1) := by decide +kernel
theorem dX11_textLetters_2 : decode mX11_textLetters.2.1 2 = .ok (.iconst 0, 1) := by decide +kernel
theorem dX11_textLetters_3 : decode mX11_textLetters.2.1 3 = .ok (.istore_n 2, 1) := by decide +kernel
theorem dX11_textLetters_4 : decode mX11_textLetters.2.1 4 = .ok (.iconst 0, 1) := by decide +kernel
theorem dX11_textLetters_5 : decode mX11_textLetters.2.1 5 = .ok (.istore_n 3, 1) := by decide +kernel
theorem dX11_textLetters_6 : decode mX11_textLetters.2.1 6 = .ok (.aload_n 0, 1) := by decide +kernel
theorem dX11_textLetters_7 : decode mX11_textLetters.2.1 7 = .ok (.getfield 121, 3) := by decide +kernel
theorem dX11_textLetters_10 : decode mX11_textLetters.2.1 10 = .ok (.iconst 0, 1) := by decide +kernel
theorem dX11_textLetters_11 : decode mX11_textLetters.2.1 11 = .ok (.iconst 0, 1) := by decide +kernel
theorem dX11_textLetters_12 : decode mX11_textLetters.2.1 12 = .ok (.iastore, 1) := by decide +kernel
theorem dX11_textLetters_13 : decode mX11_textLetters.2.1 13 = .ok (.iconst 0, 1) := by decide +kernel
theorem dX11_textLetters_14 : decode mX11_textLetters.2.1 14 = .ok (.istore 4, 2) := by decide +kernel
theorem dX11_textLetters_16 : decode mX11_textLetters.2.1 16 = .ok (.iload 4, 2) := by decide +kernel
theorem dX11_textLetters_18 : decode mX11_textLetters.2.1 18 = .ok (.aload_n 0, 1) := by decide +kernel
theorem dX11_textLetters_19 : decode mX11_textLetters.2.1 19 = .ok (.getfield 297, 3) := by decide +kernel
theorem dX11_textLetters_22 : decode mX11_textLetters.2.1 22 = .ok (.if_icmp .ge 240, 3) := by decide +kernel
theorem dX11_textLetters_25 : decode mX11_textLetters.2.1 25 = .ok (.aload_n 0, 1) := by decide +kernel
theorem dX11_textLetters_26 : decode mX11_textLetters.2.1 26 = .ok (.getfield 46, 3) := by decide +kernel
theorem dX11_textLetters_29 : decode mX11_textLetters.2.1 29 = .ok (.iload 4, 2) := by decide +kernel
theorem dX11_textLetters_31 : decode mX11_textLetters.2.1 31 = .ok (.iaload, 1) := by decide +kernel
theorem dX11_textLetters_32 : decode mX11_textLetters.2.1 32 = .ok (.istore 5, 2) := by decide +kernel
theorem dX11_textLetters_34 : decode mX11_textLetters.2.1 34 = .ok (.iload 5, 2) := by decide +kernel
theorem dX11_textLetters_36 : decode mX11_textLetters.2.1 36 = .ok (.bipush 40, 2) := by decide +kernel
theorem dX11_textLetters_38 : decode mX11_textLetters.2.1 38 = .ok (.if_icmp .ne 16, 3) := by decide +kernel
theorem dX11_textLetters_41 : decode mX11_textLetters.2.1 41 = .ok (.iinc 2 1, 3) := by decide +kernel
theorem dX11_textLetters_44 : decode mX11_textLetters.2.1 44 = .ok (.aload_n 0, 1) := by decide +kernel
theorem dX11_textLetters_45 : decode mX11_textLetters.2.1 45 = .ok (.getfield 121, 3) := by decide +kernel
theorem dX11_textLetters_48 : decode mX11_textLetters.2.1 48 = .ok (.iload_n 2, 1) := by decide +kernel
theorem dX11_textLetters_49 : decode mX11_textLetters.2.1 49 = .ok (.iload_n 1, 1) := by decide +kernel
theorem dX11_textLetters_50 : decode mX11_textLetters.2.1 50 = .ok (.iastore, 1) := by decide +kernel
theorem dX11_textLetters_51 : decode mX11_textLetters.2.1 51 = .ok (.goto 137, 3) := by decide +kernel
theorem dX11_textLetters_54 : decode mX11_textLetters.2.1 54 = .ok (.iload 5, 2) := by decide +kernel
theorem dX11_textLetters_56 : decode mX11_textLetters.2.1 56 = .ok (.bipush 41, 2) := by decide +kernel
theorem dX11_textLetters_58 : decode mX11_textLetters.2.1 58 = .ok (.if_icmp .ne 16, 3) := by decide +kernel
theorem dX11_textLetters_61 : decode mX11_textLetters.2.1 61 = .ok (.aload_n 0, 1) := by decide +kernel
theorem dX11_textLetters_62 : decode mX11_textLetters.2.1 62 = .ok (.getfield 121, 3) := by decide +kernel
theorem dX11_textLetters_65 : decode mX11_textLetters.2.1 65 = .ok (.iload_n 2, 1) := by decide +kernel
theorem dX11_textLetters_66 : decode mX11_textLetters.2.1 66 = .ok (.iaload, 1) := by decide +kernel
theorem dX11_textLetters_67 : decode mX11_textLetters.2.1 67 = .ok (.istore_n 3, 1) := by decide +kernel
theorem dX11_textLetters_68 : decode mX11_textLetters.2.1 68 = .ok (.iinc 2 (-1), 3) := by decide +kernel
theorem dX11_textLetters_71 : decode mX11_textLetters.2.1 71 = .ok (.goto 117, 3) := by decide +kernel
theorem dX11_textLetters_74 : decode mX11_textLetters.2.1 74 = .ok (.iload 5, 2) := by decide +kernel
theorem dX11_textLetters_76 : decode mX11_textLetters.2.1 76 = .ok (.bipush 85, 2) := by decide +kernel
theorem dX11_textLetters_78 : decode mX11_textLetters.2.1 78 = .ok (.if_icmp .eq 10, 3) := by decide +kernel
theorem dX11_textLetters_81 : decode mX11_textLetters.2.1 81 = .ok (.iload 5, 2) := by decide +kernel
theorem dX11_textLetters_83 : decode mX11_textLetters.2.1 83 = .ok (.bipush 68, 2) := by decide +kernel
theorem dX11_textLetters_85 : decode mX11_textLetters.2.1 85 = .ok (.if_icmp .ne 29, 3) := by decide +kernel
theorem dX11_textLetters_88 : decode mX11_textLetters.2.1 88 = .ok (.iload_n 1, 1) := by decide +kernel
theorem dX11_textLetters_89 : decode mX11_textLetters.2.1 89 = .ok (.istore_n 3, 1) := by decide +kernel
theorem dX11_textLetters_90 : decode mX11_textLetters.2.1 90 = .ok (.aload_n 0, 1) := by decide +kernel
theorem dX11_textLetters_91 : decode mX11_textLetters.2.1 91 = .ok (.getfield 118, 3) := by decide +kernel
theorem dX11_textLetters_94 : decode mX11_textLetters.2.1 94 = .ok (.iload_n 1, 1) := by decide +kernel
theorem dX11_textLetters_95 : decode mX11_textLetters.2.1 95 = .ok (.iload 5, 2) := by decide +kernel
theorem dX11_textLetters_97 : decode mX11_textLetters.2.1 97 = .ok (.bipush 85, 2) := by decide +kernel
theorem dX11_textLetters_99 : decode mX11_textLetters.2.1 99 = .ok (.if_icmp .ne 7, 3) := by decide +kernel
theorem dX11_textLetters_102 : decode mX11_textLetters.2.1 102 = .ok (.iconst 0, 1) := by decide +kernel
theorem dX11_textLetters_103 : decode mX11_textLetters.2.1 103 = .ok (.goto 4, 3) := by decide +kernel
theorem dX11_textLetters_106 : decode mX11_textLetters.2.1 106 = .ok (.iconst 1, 1) := by decide +kernel
theorem dX11_textLetters_107 : decode mX11_textLetters.2.1 107 = .ok (.iastore, 1) := by decide +kernel
theorem dX11_textLetters_108 : decode mX11_textLetters.2.1 108 = .ok (.iinc 1 1, 3) := by decide +kernel
theorem dX11_textLetters_111 : decode mX11_textLetters.2.1 111 = .ok (.goto 77, 3) := by decide +kernel
theorem dX11_textLetters_114 : decode mX11_textLetters.2.1 114 = .ok (.iload_n 1, 1) := by decide +kernel
theorem dX11_textLetters_115 : decode mX11_textLetters.2.1 115 = .ok (.iload_n 3, 1) := by decide +kernel
theorem dX11_textLetters_116 : decode mX11_textLetters.2.1 116 = .ok (.isub, 1) := by decide +kernel
theorem dX11_textLetters_117 : decode mX11_textLetters.2.1 117 = .ok (.istore 6, 2) := by decide +kernel
theorem dX11_textLetters_119 : decode mX11_textLetters.2.1 119 = .ok (.iload 5, 2) := by decide +kernel
theorem dX11_textLetters_121 : decode mX11_textLetters.2.1 121 = .ok (.bipush 48, 2) := by decide +kernel
theorem dX11_textLetters_123 : decode mX11_textLetters.2.1 123 = .ok (.isub, 1) := by decide +kernel
theorem dX11_textLetters_124 : decode mX11_textLetters.2.1 124 = .ok (.istore 7, 2) := by decide +kernel
theorem dX11_textLetters_126 : decode mX11_textLetters.2.1 126 = .ok (.iload 6, 2) := by decide +kernel
theorem dX11_textLetters_128 : decode mX11_textLetters.2.1 128 = .ok (.iload 7, 2) := by decide +kernel
theorem dX11_textLetters_130 : decode mX11_textLetters.2.1 130 = .ok (.imul, 1) := by decide +kernel
theorem dX11_textLetters_131 : decode mX11_textLetters.2.1 131 = .ok (.bipush 12, 2) := by decide +kernel
theorem dX11_textLetters_133 : decode mX11_textLetters.2.1 133 = .ok (.if_icmp .le 6, 3) := by decide +kernel
theorem dX11_textLetters_136 : decode mX11_textLetters.2.1 136 = .ok (.bipush (-4), 2) := by decide +kernel
theorem dX11_textLetters_138 : decode mX11_textLetters.2.1 138 = .ok (.ireturn, 1) := by decide +kernel
theorem dX11_textLetters_139 : decode mX11_textLetters.2.1 139 = .ok (.iload 6, 2) := by decide +kernel
theorem dX11_textLetters_141 : decode mX11_textLetters.2.1 141 = .ok (.istore 8, 2) := by decide +kernel
theorem dX11_textLetters_143 : decode mX11_textLetters.2.1 143 = .ok (.iload 8, 2) := by decide +kernel
theorem dX11_textLetters_145 : decode mX11_textLetters.2.1 145 = .ok (.iload 6, 2) := by decide +kernel
theorem dX11_textLetters_147 : decode mX11_textLetters.2.1 147 = .ok (.iload 7, 2) := by decide +kernel
theorem dX11_textLetters_149 : decode mX11_textLetters.2.1 149 = .ok (.imul, 1) := by decide +kernel
theorem dX11_textLetters_150 : decode mX11_textLetters.2.1 150 = .ok (.if_icmp .ge 30, 3) := by decide +kernel
theorem dX11_textLetters_153 : decode mX11_textLetters.2.1 153 = .ok (.aload_n 0, 1) := by decide +kernel
theorem dX11_textLetters_154 : decode mX11_textLetters.2.1 154 = .ok (.getfield 118, 3) := by decide +kernel
theorem dX11_textLetters_157 : decode mX11_textLetters.2.1 157 = .ok (.iload_n 3, 1) := by decide +kernel
theorem dX11_textLetters_158 : decode mX11_textLetters.2.1 158 = .ok (.iload 8, 2) := by decide +kernel
theorem dX11_textLetters_160 : decode mX11_textLetters.2.1 160 = .ok (.iadd, 1) := by decide +kernel
theorem dX11_textLetters_161 : decode mX11_textLetters.2.1 161 = .ok (.aload_n 0, 1) := by decide +kernel
theorem dX11_textLetters_162 : decode mX11_textLetters.2.1 162 = .ok (.getfield 118, 3) := by decide +kernel
theorem dX11_textLetters_165 : decode mX11_textLetters.2.1 165 = .ok (.iload_n 3, 1) := by decide +kernel
theorem dX11_textLetters_166 : decode mX11_textLetters.2.1 166 = .ok (.iload 8, 2) := by decide +kernel
theorem dX11_textLetters_168 : decode mX11_textLetters.2.1 168 = .ok (.iadd, 1) := by decide +kernel
theorem dX11_textLetters_169 : decode mX11_textLetters.2.1 169 = .ok (.iload 6, 2) := by decide +kernel
theorem dX11_textLetters_171 : decode mX11_textLetters.2.1 171 = .ok (.isub, 1) := by decide +kernel
theorem dX11_textLetters_172 : decode mX11_textLetters.2.1 172 = .ok (.iaload, 1) := by decide +kernel
theorem dX11_textLetters_173 : decode mX11_textLetters.2.1 173 = .ok (.iastore, 1) := by decide +kernel
theorem dX11_textLetters_174 : decode mX11_textLetters.2.1 174 = .ok (.iinc 8 1, 3) := by decide +kernel
theorem dX11_textLetters_177 : decode mX11_textLetters.2.1 177 = .ok (.goto (-34), 3) := by decide +kernel
theorem dX11_textLetters_180 : decode mX11_textLetters.2.1 180 = .ok (.iload_n 3, 1) := by decide +kernel
theorem dX11_textLetters_181 : decode mX11_textLetters.2.1 181 = .ok (.iload 6, 2) := by decide +kernel
theorem dX11_textLetters_183 : decode mX11_textLetters.2.1 183 = .ok (.iload 7, 2) := by decide +kernel
theorem dX11_textLetters_185 : decode mX11_textLetters.2.1 185 = .ok (.imul, 1) := by decide +kernel
theorem dX11_textLetters_186 : decode mX11_textLetters.2.1 186 = .ok (.iadd, 1) := by decide +kernel
theorem dX11_textLetters_187 : decode mX11_textLetters.2.1 187 = .ok (.istore_n 1, 1) := by decide +kernel
theorem dX11_textLetters_188 : decode mX11_textLetters.2.1 188 = .ok (.iload 4, 2) := by decide +kernel
theorem dX11_textLetters_190 : decode mX11_textLetters.2.1 190 = .ok (.iconst 1, 1) := by decide +kernel
theorem dX11_textLetters_191 : decode mX11_textLetters.2.1 191 = .ok (.iadd, 1) := by decide +kernel
theorem dX11_textLetters_192 : decode mX11_textLetters.2.1 192 = .ok (.aload_n 0, 1) := by decide +kernel
theorem dX11_textLetters_193 : decode mX11_textLetters.2.1 193 = .ok (.getfield 297, 3) := by decide +kernel
theorem dX11_textLetters_196 : decode mX11_textLetters.2.1 196 = .ok (.if_icmp .ge 29, 3) := by decide +kernel
theorem dX11_textLetters_199 : decode mX11_textLetters.2.1 199 = .ok (.aload_n 0, 1) := by decide +kernel
theorem dX11_textLetters_200 : decode mX11_textLetters.2.1 200 = .ok (.getfield 46, 3) := by decide +kernel
theorem dX11_textLetters_203 : decode mX11_textLetters.2.1 203 = .ok (.iload 4, 2) := by decide +kernel
theorem dX11_textLetters_205 : decode mX11_textLetters.2.1 205 = .ok (.iconst 1, 1) := by decide +kernel
theorem dX11_textLetters_206 : decode mX11_textLetters.2.1 206 = .ok (.iadd, 1) := by decide +kernel
theorem dX11_textLetters_207 : decode mX11_textLetters.2.1 207 = .ok (.iaload, 1) := by decide +kernel
theorem dX11_textLetters_208 : decode mX11_textLetters.2.1 208 = .ok (.i2l, 1) := by decide +kernel
theorem dX11_textLetters_209 : decode mX11_textLetters.2.1 209 = .ok (.ldc2_w 300, 3) := by decide +kernel
theorem dX11_textLetters_212 : decode mX11_textLetters.2.1 212 = .ok (.ldc2_w 302, 3) := by decide +kernel
theorem dX11_textLetters_215 : decode mX11_textLetters.2.1 215 = .ok (.invokestatic 129, 3) := by decide +kernel
theorem dX11_textLetters_218 : decode mX11_textLetters.2.1 218 = .ok (.ifCond .eq 7, 3) := by decide +kernel
theorem dX11_textLetters_221 : decode mX11_textLetters.2.1 221 = .ok (.iconst 1, 1) := by decide +kernel
theorem dX11_textLetters_222 : decode mX11_textLetters.2.1 222 = .ok (.goto 4, 3) := by decide +kernel
theorem dX11_textLetters_225 : decode mX11_textLetters.2.1 225 = .ok (.iconst 0, 1) := by decide +kernel
theorem dX11_textLetters_226 : decode mX11_textLetters.2.1 226 = .ok (.istore 6, 2) := by decide +kernel
theorem dX11_textLetters_228 : decode mX11_textLetters.2.1 228 = .ok (.iload 5, 2) := by decide +kernel
theorem dX11_textLetters_230 : decode mX11_textLetters.2.1 230 = .ok (.bipush 40, 2) := by decide +kernel
theorem dX11_textLetters_232 : decode mX11_textLetters.2.1 232 = .ok (.if_icmp .eq 24, 3) := by decide +kernel
theorem dX11_textLetters_235 : decode mX11_textLetters.2.1 235 = .ok (.iload 6, 2) := by decide +kernel
theorem dX11_textLetters_237 : decode mX11_textLetters.2.1 237 = .ok (.ifCond .ne 19, 3) := by decide +kernel
theorem dX11_textLetters_240 : decode mX11_textLetters.2.1 240 = .ok (.iload_n 1, 1) := by decide +kernel
theorem dX11_textLetters_241 : decode mX11_textLetters.2.1 241 = .ok (.aload_n 0, 1) := by decide +kernel
theorem dX11_textLetters_242 : decode mX11_textLetters.2.1 242 = .ok (.getfield 121, 3) := by decide +kernel
theorem dX11_textLetters_245 : decode mX11_textLetters.2.1 245 = .ok (.iload_n 2, 1) := by decide +kernel
theorem dX11_textLetters_246 : decode mX11_textLetters.2.1 246 = .ok (.iaload, 1) := by decide +kernel
theorem dX11_textLetters_247 : decode mX11_textLetters.2.1 247 = .ok (.isub, 1) := by decide +kernel
theorem dX11_textLetters_248 : decode mX11_textLetters.2.1 248 = .ok (.bipush 12, 2) := by decide +kernel
theorem dX11_textLetters_250 : decode mX11_textLetters.2.1 250 = .ok (.if_icmp .le 6, 3) := by decide +kernel
theorem dX11_textLetters_253 : decode mX11_textLetters.2.1 253 = .ok (.bipush (-4), 2) := by decide +kernel
theorem dX11_textLetters_255 : decode mX11_textLetters.2.1 255 = .ok (.ireturn, 1) := by decide +kernel
theorem dX11_textLetters_256 : decode mX11_textLetters.2.1 256 = .ok (.iinc 4 1, 3) := by decide +kernel
theorem dX11_textLetters_259 : decode mX11_textLetters.2.1 259 = .ok (.goto (-243), 3) := by decide +kernel
theorem dX11_textLetters_262 : decode mX11_textLetters.2.1 262 = .ok (.iload_n 1, 1) := by decide +kernel
theorem dX11_textLetters_263 : decode mX11_textLetters.2.1 263 = .ok (.ireturn, 1) := by decide +kernel
def mX11_read : String × ByteArray × Nat := (RX11, cX11_read, 5)
theorem dX11_read_0 : decode mX11_read.2.1 0 = .ok (.iload_n 1, 1) := by decide +kernel
theorem dX11_read_1 : decode mX11_read.2.1 1 = .ok (.invokestatic 133, 3) := by decide +kernel
theorem dX11_read_4 : decode mX11_read.2.1 4 = .ok (.ifCond .ne 5, 3) := by decide +kernel
theorem dX11_read_7 : decode mX11_read.2.1 7 = .ok (.iconst (-1), 1) := by decide +kernel
theorem dX11_read_8 : decode mX11_read.2.1 8 = .ok (.ireturn, 1) := by decide +kernel
theorem dX11_read_9 : decode mX11_read.2.1 9 = .ok (.aload_n 0, 1) := by decide +kernel
theorem dX11_read_10 : decode mX11_read.2.1 10 = .ok (.invokevirtual 304, 3) := by decide +kernel
theorem dX11_read_13 : decode mX11_read.2.1 13 = .ok (.istore_n 2, 1) := by decide +kernel
theorem dX11_read_14 : decode mX11_read.2.1 14 = .ok (.iload_n 2, 1) := by decide +kernel
theorem dX11_read_15 : decode mX11_read.2.1 15 = .ok (.ifCond .ge 10, 3) := by decide +kernel
theorem dX11_read_18 : decode mX11_read.2.1 18 = .ok (.aload_n 0, 1) := by decide +kernel
theorem dX11_read_19 : decode mX11_read.2.1 19 = .ok (.invokevirtual 307, 3) := by decide +kernel
theorem dX11_read_22 : decode mX11_read.2.1 22 = .ok (.goto 4, 3) := by decide +kernel
theorem dX11_read_25 : decode mX11_read.2.1 25 = .ok (.iconst 0, 1) := by decide +kernel
theorem dX11_read_26 : decode mX11_read.2.1 26 = .ok (.istore_n 3, 1) := by decide +kernel
theorem dX11_read_27 : decode mX11_read.2.1 27 = .ok (.aload_n 0, 1) := by decide +kernel
theorem dX11_read_28 : decode mX11_read.2.1 28 = .ok (.iconst 0, 1) := by decide +kernel
theorem dX11_read_29 : decode mX11_read.2.1 29 = .ok (.putfield 297, 3) := by decide +kernel
theorem dX11_read_32 : decode mX11_read.2.1 32 = .ok (.iload_n 2, 1) := by decide +kernel
theorem dX11_read_33 : decode mX11_read.2.1 33 = .ok (.ifCond .lt 8, 3) := by decide +kernel
theorem dX11_read_36 : decode mX11_read.2.1 36 = .ok (.bipush (-100), 2) := by decide +kernel
theorem dX11_read_38 : decode mX11_read.2.1 38 = .ok (.iload_n 2, 1) := by decide +kernel
theorem dX11_read_39 : decode mX11_read.2.1 39 = .ok (.isub, 1) := by decide +kernel
theorem dX11_read_40 : decode mX11_read.2.1 40 = .ok (.ireturn, 1) := by decide +kernel
theorem dX11_read_41 : decode mX11_read.2.1 41 = .ok (.iload_n 3, 1) := by decide +kernel
theorem dX11_read_42 : decode mX11_read.2.1 42 = .ok (.bipush (-4), 2) := by decide +kernel
theorem dX11_read_44 : decode mX11_read.2.1 44 = .ok (.if_icmp .ne 6, 3) := by decide +kernel
theorem dX11_read_47 : decode mX11_read.2.1 47 = .ok (.bipush (-4), 2) := by decide +kernel
theorem dX11_read_49 : decode mX11_read.2.1 49 = .ok (.ireturn, 1) := by decide +kernel
theorem dX11_read_50 : decode mX11_read.2.1 50 = .ok (.iconst 0, 1) := by decide +kernel
theorem dX11_read_51 : decode mX11_read.2.1 51 = .ok (.istore 4, 2) := by decide +kernel
theorem dX11_read_53 : decode mX11_read.2.1 53 = .ok (.iload 4, 2) := by decide +kernel
theorem dX11_read_55 : decode mX11_read.2.1 55 = .ok (.iload_n 3, 1) := by decide +kernel
theorem dX11_read_56 : decode mX11_read.2.1 56 = .ok (.if_icmp .ge 28, 3) := by decide +kernel
theorem dX11_read_59 : decode mX11_read.2.1 59 = .ok (.aload_n 0, 1) := by decide +kernel
theorem dX11_read_60 : decode mX11_read.2.1 60 = .ok (.getfield 15, 3) := by decide +kernel
theorem dX11_read_63 : decode mX11_read.2.1 63 = .ok (.bipush 12, 2) := by decide +kernel
theorem dX11_read_65 : decode mX11_read.2.1 65 = .ok (.iload_n 1, 1) := by decide +kernel
theorem dX11_read_66 : decode mX11_read.2.1 66 = .ok (.imul, 1) := by decide +kernel
theorem dX11_read_67 : decode mX11_read.2.1 67 = .ok (.iload 4, 2) := by decide +kernel
theorem dX11_read_69 : decode mX11_read.2.1 69 = .ok (.iadd, 1) := by decide +kernel
theorem dX11_read_70 : decode mX11_read.2.1 70 = .ok (.aload_n 0, 1) := by decide +kernel
theorem dX11_read_71 : decode mX11_read.2.1 71 = .ok (.getfield 118, 3) := by decide +kernel
theorem dX11_read_74 : decode mX11_read.2.1 74 = .ok (.iload 4, 2) := by decide +kernel
theorem dX11_read_76 : decode mX11_read.2.1 76 = .ok (.iaload, 1) := by decide +kernel
theorem dX11_read_77 : decode mX11_read.2.1 77 = .ok (.iastore, 1) := by decide +kernel
theorem dX11_read_78 : decode mX11_read.2.1 78 = .ok (.iinc 4 1, 3) := by decide +kernel
theorem dX11_read_81 : decode mX11_read.2.1 81 = .ok (.goto (-28), 3) := by decide +kernel
theorem dX11_read_84 : decode mX11_read.2.1 84 = .ok (.aload_n 0, 1) := by decide +kernel
theorem dX11_read_85 : decode mX11_read.2.1 85 = .ok (.getfield 9, 3) := by decide +kernel
theorem dX11_read_88 : decode mX11_read.2.1 88 = .ok (.iload_n 1, 1) := by decide +kernel
theorem dX11_read_89 : decode mX11_read.2.1 89 = .ok (.iload_n 3, 1) := by decide +kernel
theorem dX11_read_90 : decode mX11_read.2.1 90 = .ok (.iastore, 1) := by decide +kernel
theorem dX11_read_91 : decode mX11_read.2.1 91 = .ok (.iload_n 3, 1) := by decide +kernel
theorem dX11_read_92 : decode mX11_read.2.1 92 = .ok (.ireturn, 1) := by decide +kernel
def mX11_lay : String × ByteArray × Nat := (RX11, cX11_lay, 2)
theorem dX11_lay_0 : decode mX11_lay.2.1 0 = .ok (.aload_n 0, 1) := by decide +kernel
theorem dX11_lay_1 : decode mX11_lay.2.1 1 = .ok (.getfield 49, 3) := by decide +kernel
theorem dX11_lay_4 : decode mX11_lay.2.1 4 = .ok (.aload_n 0, 1) := by decide +kernel
theorem dX11_lay_5 : decode mX11_lay.2.1 5 = .ok (.getfield 310, 3) := by decide +kernel
theorem dX11_lay_8 : decode mX11_lay.2.1 8 = .ok (.iload_n 1, 1) := by decide +kernel
theorem dX11_lay_9 : decode mX11_lay.2.1 9 = .ok (.iastore, 1) := by decide +kernel
theorem dX11_lay_10 : decode mX11_lay.2.1 10 = .ok (.aload_n 0, 1) := by decide +kernel
theorem dX11_lay_11 : decode mX11_lay.2.1 11 = .ok (.dup, 1) := by decide +kernel
theorem dX11_lay_12 : decode mX11_lay.2.1 12 = .ok (.getfield 310, 3) := by decide +kernel
theorem dX11_lay_15 : decode mX11_lay.2.1 15 = .ok (.iconst 1, 1) := by decide +kernel
theorem dX11_lay_16 : decode mX11_lay.2.1 16 = .ok (.iadd, 1) := by decide +kernel
theorem dX11_lay_17 : decode mX11_lay.2.1 17 = .ok (.putfield 310, 3) := by decide +kernel
theorem dX11_lay_20 : decode mX11_lay.2.1 20 = .ok (.return_, 1) := by decide +kernel
def mX11_write : String × ByteArray × Nat := (RX11, cX11_write, 4)
theorem dX11_write_0 : decode mX11_write.2.1 0 = .ok (.iload_n 1, 1) := by decide +kernel
theorem dX11_write_1 : decode mX11_write.2.1 1 = .ok (.invokestatic 133, 3) := by decide +kernel
theorem dX11_write_4 : decode mX11_write.2.1 4 = .ok (.ifCond .ne 5, 3) := by decide +kernel
theorem dX11_write_7 : decode mX11_write.2.1 7 = .ok (.iconst (-1), 1) := by decide +kernel
theorem dX11_write_8 : decode mX11_write.2.1 8 = .ok (.ireturn, 1) := by decide +kernel
theorem dX11_write_9 : decode mX11_write.2.1 9 = .ok (.aload_n 0, 1) := by decide +kernel
theorem dX11_write_10 : decode mX11_write.2.1 10 = .ok (.iconst 0, 1) := by decide +kernel
theorem dX11_write_11 : decode mX11_write.2.1 11 = .ok (.putfield 310, 3) := by decide +kernel
theorem dX11_write_14 : decode mX11_write.2.1 14 = .ok (.iconst 0, 1) := by decide +kernel
theorem dX11_write_15 : decode mX11_write.2.1 15 = .ok (.istore_n 2, 1) := by decide +kernel
theorem dX11_write_16 : decode mX11_write.2.1 16 = .ok (.iload_n 2, 1) := by decide +kernel
theorem dX11_write_17 : decode mX11_write.2.1 17 = .ok (.aload_n 0, 1) := by decide +kernel
theorem dX11_write_18 : decode mX11_write.2.1 18 = .ok (.getfield 9, 3) := by decide +kernel
theorem dX11_write_21 : decode mX11_write.2.1 21 = .ok (.iload_n 1, 1) := by decide +kernel
theorem dX11_write_22 : decode mX11_write.2.1 22 = .ok (.iaload, 1) := by decide +kernel
theorem dX11_write_23 : decode mX11_write.2.1 23 = .ok (.if_icmp .ge 101, 3) := by decide +kernel
theorem dX11_write_26 : decode mX11_write.2.1 26 = .ok (.iconst 1, 1) := by decide +kernel
theorem dX11_write_27 : decode mX11_write.2.1 27 = .ok (.istore_n 3, 1) := by decide +kernel
theorem dX11_write_28 : decode mX11_write.2.1 28 = .ok (.iload_n 3, 1) := by decide +kernel
theorem dX11_write_29 : decode mX11_write.2.1 29 = .ok (.bipush 9, 2) := by decide +kernel
theorem dX11_write_31 : decode mX11_write.2.1 31 = .ok (.if_icmp .ge 48, 3) := by decide +kernel
theorem dX11_write_34 : decode mX11_write.2.1 34 = .ok (.iload_n 2, 1) := by decide +kernel
theorem dX11_write_35 : decode mX11_write.2.1 35 = .ok (.iload_n 3, 1) := by decide +kernel
theorem dX11_write_36 : decode mX11_write.2.1 36 = .ok (.iadd, 1) := by decide +kernel
theorem dX11_write_37 : decode mX11_write.2.1 37 = .ok (.aload_n 0, 1) := by decide +kernel
theorem dX11_write_38 : decode mX11_write.2.1 38 = .ok (.getfield 9, 3) := by decide +kernel
theorem dX11_write_41 : decode mX11_write.2.1 41 = .ok (.iload_n 1, 1) := by decide +kernel
theorem dX11_write_42 : decode mX11_write.2.1 42 = .ok (.iaload, 1) := by decide +kernel
theorem dX11_write_43 : decode mX11_write.2.1 43 = .ok (.if_icmp .ge 36, 3) := by decide +kernel
theorem dX11_write_46 : decode mX11_write.2.1 46 = .ok (.aload_n 0, 1) := by decide +kernel
theorem dX11_write_47 : decode mX11_write.2.1 47 = .ok (.getfield 15, 3) := by decide +kernel
theorem dX11_write_50 : decode mX11_write.2.1 50 = .ok (.bipush 12, 2) := by decide +kernel
theorem dX11_write_52 : decode mX11_write.2.1 52 = .ok (.iload_n 1, 1) := by decide +kernel
theorem dX11_write_53 : decode mX11_write.2.1 53 = .ok (.imul, 1) := by decide +kernel
theorem dX11_write_54 : decode mX11_write.2.1 54 = .ok (.iload_n 2, 1) := by decide +kernel
theorem dX11_write_55 : decode mX11_write.2.1 55 = .ok (.iadd, 1) := by decide +kernel
theorem dX11_write_56 : decode mX11_write.2.1 56 = .ok (.iload_n 3, 1) := by decide +kernel
theorem dX11_write_57 : decode mX11_write.2.1 57 = .ok (.iadd, 1) := by decide +kernel
theorem dX11_write_58 : decode mX11_write.2.1 58 = .ok (.iaload, 1) := by decide +kernel
theorem dX11_write_59 : decode mX11_write.2.1 59 = .ok (.aload_n 0, 1) := by decide +kernel
theorem dX11_write_60 : decode mX11_write.2.1 60 = .ok (.getfield 15, 3) := by decide +kernel
theorem dX11_write_63 : decode mX11_write.2.1 63 = .ok (.bipush 12, 2) := by decide +kernel
theorem dX11_write_65 : decode mX11_write.2.1 65 = .ok (.iload_n 1, 1) := by decide +kernel
theorem dX11_write_66 : decode mX11_write.2.1 66 = .ok (.imul, 1) := by decide +kernel
theorem dX11_write_67 : decode mX11_write.2.1 67 = .ok (.iload_n 2, 1) := by decide +kernel
theorem dX11_write_68 : decode mX11_write.2.1 68 = .ok (.iadd, 1) := by decide +kernel
theorem dX11_write_69 : decode mX11_write.2.1 69 = .ok (.iaload, 1) := by decide +kernel
theorem dX11_write_70 : decode mX11_write.2.1 70 = .ok (.if_icmp .ne 9, 3) := by decide +kernel
theorem dX11_write_73 : decode mX11_write.2.1 73 = .ok (.iinc 3 1, 3) := by decide +kernel
theorem dX11_write_76 : decode mX11_write.2.1 76 = .ok (.goto (-48), 3) := by decide +kernel
theorem dX11_write_79 : decode mX11_write.2.1 79 = .ok (.aload_n 0, 1) := by decide +kernel
theorem dX11_write_80 : decode mX11_write.2.1 80 = .ok (.aload_n 0, 1) := by decide +kernel
theorem dX11_write_81 : decode mX11_write.2.1 81 = .ok (.getfield 15, 3) := by decide +kernel
theorem dX11_write_84 : decode mX11_write.2.1 84 = .ok (.bipush 12, 2) := by decide +kernel
theorem dX11_write_86 : decode mX11_write.2.1 86 = .ok (.iload_n 1, 1) := by decide +kernel
theorem dX11_write_87 : decode mX11_write.2.1 87 = .ok (.imul, 1) := by decide +kernel
theorem dX11_write_88 : decode mX11_write.2.1 88 = .ok (.iload_n 2, 1) := by decide +kernel
theorem dX11_write_89 : decode mX11_write.2.1 89 = .ok (.iadd, 1) := by decide +kernel
theorem dX11_write_90 : decode mX11_write.2.1 90 = .ok (.iaload, 1) := by decide +kernel
theorem dX11_write_91 : decode mX11_write.2.1 91 = .ok (.ifCond .ne 8, 3) := by decide +kernel
theorem dX11_write_94 : decode mX11_write.2.1 94 = .ok (.bipush 85, 2) := by decide +kernel
theorem dX11_write_96 : decode mX11_write.2.1 96 = .ok (.goto 5, 3) := by decide +kernel
theorem dX11_write_99 : decode mX11_write.2.1 99 = .ok (.bipush 68, 2) := by decide +kernel
theorem dX11_write_101 : decode mX11_write.2.1 101 = .ok (.invokevirtual 313, 3) := by decide +kernel
theorem dX11_write_104 : decode mX11_write.2.1 104 = .ok (.iload_n 3, 1) := by decide +kernel
theorem dX11_write_105 : decode mX11_write.2.1 105 = .ok (.iconst 1, 1) := by decide +kernel
theorem dX11_write_106 : decode mX11_write.2.1 106 = .ok (.if_icmp .le 11, 3) := by decide +kernel
theorem dX11_write_109 : decode mX11_write.2.1 109 = .ok (.aload_n 0, 1) := by decide +kernel
theorem dX11_write_110 : decode mX11_write.2.1 110 = .ok (.bipush 48, 2) := by decide +kernel
theorem dX11_write_112 : decode mX11_write.2.1 112 = .ok (.iload_n 3, 1) := by decide +kernel
theorem dX11_write_113 : decode mX11_write.2.1 113 = .ok (.iadd, 1) := by decide +kernel
theorem dX11_write_114 : decode mX11_write.2.1 114 = .ok (.invokevirtual 313, 3) := by decide +kernel
theorem dX11_write_117 : decode mX11_write.2.1 117 = .ok (.iload_n 2, 1) := by decide +kernel
theorem dX11_write_118 : decode mX11_write.2.1 118 = .ok (.iload_n 3, 1) := by decide +kernel
theorem dX11_write_119 : decode mX11_write.2.1 119 = .ok (.iadd, 1) := by decide +kernel
theorem dX11_write_120 : decode mX11_write.2.1 120 = .ok (.istore_n 2, 1) := by decide +kernel
theorem dX11_write_121 : decode mX11_write.2.1 121 = .ok (.goto (-105), 3) := by decide +kernel
theorem dX11_write_124 : decode mX11_write.2.1 124 = .ok (.aload_n 0, 1) := by decide +kernel
theorem dX11_write_125 : decode mX11_write.2.1 125 = .ok (.getfield 310, 3) := by decide +kernel
theorem dX11_write_128 : decode mX11_write.2.1 128 = .ok (.ireturn, 1) := by decide +kernel
def mX11_paper : String × ByteArray × Nat := (RX11, cX11_paper, 2)
theorem dX11_paper_0 : decode mX11_paper.2.1 0 = .ok (.iload_n 1, 1) := by decide +kernel
theorem dX11_paper_1 : decode mX11_paper.2.1 1 = .ok (.i2l, 1) := by decide +kernel
theorem dX11_paper_2 : decode mX11_paper.2.1 2 = .ok (.lconst 0, 1) := by decide +kernel
theorem dX11_paper_3 : decode mX11_paper.2.1 3 = .ok (.aload_n 0, 1) := by decide +kernel
theorem dX11_paper_4 : decode mX11_paper.2.1 4 = .ok (.getfield 310, 3) := by decide +kernel
theorem dX11_paper_7 : decode mX11_paper.2.1 7 = .ok (.iconst 1, 1) := by decide +kernel
theorem dX11_paper_8 : decode mX11_paper.2.1 8 = .ok (.isub, 1) := by decide +kernel
theorem dX11_paper_9 : decode mX11_paper.2.1 9 = .ok (.i2l, 1) := by decide +kernel
theorem dX11_paper_10 : decode mX11_paper.2.1 10 = .ok (.invokestatic 129, 3) := by decide +kernel
theorem dX11_paper_13 : decode mX11_paper.2.1 13 = .ok (.ifCond .eq 12, 3) := by decide +kernel
theorem dX11_paper_16 : decode mX11_paper.2.1 16 = .ok (.aload_n 0, 1) := by decide +kernel
theorem dX11_paper_17 : decode mX11_paper.2.1 17 = .ok (.getfield 49, 3) := by decide +kernel
theorem dX11_paper_20 : decode mX11_paper.2.1 20 = .ok (.iload_n 1, 1) := by decide +kernel
theorem dX11_paper_21 : decode mX11_paper.2.1 21 = .ok (.iaload, 1) := by decide +kernel
theorem dX11_paper_22 : decode mX11_paper.2.1 22 = .ok (.goto 4, 3) := by decide +kernel
theorem dX11_paper_25 : decode mX11_paper.2.1 25 = .ok (.iconst (-1), 1) := by decide +kernel
theorem dX11_paper_26 : decode mX11_paper.2.1 26 = .ok (.ireturn, 1) := by decide +kernel
def mX11_undo : String × ByteArray × Nat := (RX11, cX11_undo, 1)
theorem dX11_undo_0 : decode mX11_undo.2.1 0 = .ok (.aload_n 0, 1) := by decide +kernel
theorem dX11_undo_1 : decode mX11_undo.2.1 1 = .ok (.getfield 175, 3) := by decide +kernel
theorem dX11_undo_4 : decode mX11_undo.2.1 4 = .ok (.ifCond .ne 6, 3) := by decide +kernel
theorem dX11_undo_7 : decode mX11_undo.2.1 7 = .ok (.bipush (-3), 2) := by decide +kernel
theorem dX11_undo_9 : decode mX11_undo.2.1 9 = .ok (.ireturn, 1) := by decide +kernel
theorem dX11_undo_10 : decode mX11_undo.2.1 10 = .ok (.aload_n 0, 1) := by decide +kernel
theorem dX11_undo_11 : decode mX11_undo.2.1 11 = .ok (.dup, 1) := by decide +kernel
theorem dX11_undo_12 : decode mX11_undo.2.1 12 = .ok (.getfield 175, 3) := by decide +kernel
theorem dX11_undo_15 : decode mX11_undo.2.1 15 = .ok (.iconst 1, 1) := by decide +kernel
theorem dX11_undo_16 : decode mX11_undo.2.1 16 = .ok (.isub, 1) := by decide +kernel
theorem dX11_undo_17 : decode mX11_undo.2.1 17 = .ok (.putfield 175, 3) := by decide +kernel
theorem dX11_undo_20 : decode mX11_undo.2.1 20 = .ok (.aload_n 0, 1) := by decide +kernel
theorem dX11_undo_21 : decode mX11_undo.2.1 21 = .ok (.getfield 37, 3) := by decide +kernel
theorem dX11_undo_24 : decode mX11_undo.2.1 24 = .ok (.aload_n 0, 1) := by decide +kernel
theorem dX11_undo_25 : decode mX11_undo.2.1 25 = .ok (.getfield 175, 3) := by decide +kernel
theorem dX11_undo_28 : decode mX11_undo.2.1 28 = .ok (.iaload, 1) := by decide +kernel
theorem dX11_undo_29 : decode mX11_undo.2.1 29 = .ok (.ifCond .ge 29, 3) := by decide +kernel
theorem dX11_undo_32 : decode mX11_undo.2.1 32 = .ok (.aload_n 0, 1) := by decide +kernel
theorem dX11_undo_33 : decode mX11_undo.2.1 33 = .ok (.getfield 28, 3) := by decide +kernel
theorem dX11_undo_36 : decode mX11_undo.2.1 36 = .ok (.aload_n 0, 1) := by decide +kernel
theorem dX11_undo_37 : decode mX11_undo.2.1 37 = .ok (.getfield 40, 3) := by decide +kernel
theorem dX11_undo_40 : decode mX11_undo.2.1 40 = .ok (.aload_n 0, 1) := by decide +kernel
theorem dX11_undo_41 : decode mX11_undo.2.1 41 = .ok (.getfield 175, 3) := by decide +kernel
theorem dX11_undo_44 : decode mX11_undo.2.1 44 = .ok (.iaload, 1) := by decide +kernel
theorem dX11_undo_45 : decode mX11_undo.2.1 45 = .ok (.aload_n 0, 1) := by decide +kernel
theorem dX11_undo_46 : decode mX11_undo.2.1 46 = .ok (.getfield 43, 3) := by decide +kernel
theorem dX11_undo_49 : decode mX11_undo.2.1 49 = .ok (.aload_n 0, 1) := by decide +kernel
theorem dX11_undo_50 : decode mX11_undo.2.1 50 = .ok (.getfield 175, 3) := by decide +kernel
theorem dX11_undo_53 : decode mX11_undo.2.1 53 = .ok (.iaload, 1) := by decide +kernel
theorem dX11_undo_54 : decode mX11_undo.2.1 54 = .ok (.iastore, 1) := by decide +kernel
theorem dX11_undo_55 : decode mX11_undo.2.1 55 = .ok (.goto 39, 3) := by decide +kernel
theorem dX11_undo_58 : decode mX11_undo.2.1 58 = .ok (.aload_n 0, 1) := by decide +kernel
theorem dX11_undo_59 : decode mX11_undo.2.1 59 = .ok (.getfield 25, 3) := by decide +kernel
theorem dX11_undo_62 : decode mX11_undo.2.1 62 = .ok (.bipush 6, 2) := by decide +kernel
theorem dX11_undo_64 : decode mX11_undo.2.1 64 = .ok (.aload_n 0, 1) := by decide +kernel
theorem dX11_undo_65 : decode mX11_undo.2.1 65 = .ok (.getfield 37, 3) := by decide +kernel
theorem dX11_undo_68 : decode mX11_undo.2.1 68 = .ok (.aload_n 0, 1) := by decide +kernel
theorem dX11_undo_69 : decode mX11_undo.2.1 69 = .ok (.getfield 175, 3) := by decide +kernel
theorem dX11_undo_72 : decode mX11_undo.2.1 72 = .ok (.iaload, 1) := by decide +kernel
theorem dX11_undo_73 : decode mX11_undo.2.1 73 = .ok (.imul, 1) := by decide +kernel
theorem dX11_undo_74 : decode mX11_undo.2.1 74 = .ok (.aload_n 0, 1) := by decide +kernel
theorem dX11_undo_75 : decode mX11_undo.2.1 75 = .ok (.getfield 40, 3) := by decide +kernel
theorem dX11_undo_78 : decode mX11_undo.2.1 78 = .ok (.aload_n 0, 1) := by decide +kernel
theorem dX11_undo_79 : decode mX11_undo.2.1 79 = .ok (.getfield 175, 3) := by decide +kernel
theorem dX11_undo_82 : decode mX11_undo.2.1 82 = .ok (.iaload, 1) := by decide +kernel
theorem dX11_undo_83 : decode mX11_undo.2.1 83 = .ok (.iadd, 1) := by decide +kernel
theorem dX11_undo_84 : decode mX11_undo.2.1 84 = .ok (.aload_n 0, 1) := by decide +kernel
theorem dX11_undo_85 : decode mX11_undo.2.1 85 = .ok (.getfield 43, 3) := by decide +kernel
theorem dX11_undo_88 : decode mX11_undo.2.1 88 = .ok (.aload_n 0, 1) := by decide +kernel
theorem dX11_undo_89 : decode mX11_undo.2.1 89 = .ok (.getfield 175, 3) := by decide +kernel
theorem dX11_undo_92 : decode mX11_undo.2.1 92 = .ok (.iaload, 1) := by decide +kernel
theorem dX11_undo_93 : decode mX11_undo.2.1 93 = .ok (.iastore, 1) := by decide +kernel
theorem dX11_undo_94 : decode mX11_undo.2.1 94 = .ok (.aload_n 0, 1) := by decide +kernel
theorem dX11_undo_95 : decode mX11_undo.2.1 95 = .ok (.getfield 175, 3) := by decide +kernel
theorem dX11_undo_98 : decode mX11_undo.2.1 98 = .ok (.ireturn, 1) := by decide +kernel
def mX11_allLetters : String × ByteArray × Nat := (RX11, cX11_allLetters, 3)
theorem dX11_allLetters_0 : decode mX11_allLetters.2.1 0 = .ok (.iconst 0, 1) := by decide +kernel
theorem dX11_allLetters_1 : decode mX11_allLetters.2.1 1 = .ok (.istore_n 1, 1) := by decide +kernel
theorem dX11_allLetters_2 : decode mX11_allLetters.2.1 2 = .ok (.iconst 0, 1) := by decide +kernel
theorem dX11_allLetters_3 : decode mX11_allLetters.2.1 3 = .ok (.istore_n 2, 1) := by decide +kernel
theorem dX11_allLetters_4 : decode mX11_allLetters.2.1 4 = .ok (.iload_n 2, 1) := by decide +kernel
theorem dX11_allLetters_5 : decode mX11_allLetters.2.1 5 = .ok (.bipush 6, 2) := by decide +kernel
theorem dX11_allLetters_7 : decode mX11_allLetters.2.1 7 = .ok (.if_icmp .ge 18, 3) := by decide +kernel
theorem dX11_allLetters_10 : decode mX11_allLetters.2.1 10 = .ok (.iload_n 1, 1) := by decide +kernel
theorem dX11_allLetters_11 : decode mX11_allLetters.2.1 11 = .ok (.aload_n 0, 1) := by decide +kernel
theorem dX11_allLetters_12 : decode mX11_allLetters.2.1 12 = .ok (.getfield 9, 3) := by decide +kernel
theorem dX11_allLetters_15 : decode mX11_allLetters.2.1 15 = .ok (.iload_n 2, 1) := by decide +kernel
theorem dX11_allLetters_16 : decode mX11_allLetters.2.1 16 = .ok (.iaload, 1) := by decide +kernel
theorem dX11_allLetters_17 : decode mX11_allLetters.2.1 17 = .ok (.iadd, 1) := by decide +kernel
theorem dX11_allLetters_18 : decode mX11_allLetters.2.1 18 = .ok (.istore_n 1, 1) := by decide +kernel
theorem dX11_allLetters_19 : decode mX11_allLetters.2.1 19 = .ok (.iinc 2 1, 3) := by decide +kernel
theorem dX11_allLetters_22 : decode mX11_allLetters.2.1 22 = .ok (.goto (-18), 3) := by decide +kernel
theorem dX11_allLetters_25 : decode mX11_allLetters.2.1 25 = .ok (.iload_n 1, 1) := by decide +kernel
theorem dX11_allLetters_26 : decode mX11_allLetters.2.1 26 = .ok (.ireturn, 1) := by decide +kernel
def mX11_image : String × ByteArray × Nat := (RX11, cX11_image, 2)
theorem dX11_image_0 : decode mX11_image.2.1 0 = .ok (.aload_n 0, 1) := by decide +kernel
theorem dX11_image_1 : decode mX11_image.2.1 1 = .ok (.iconst 1, 1) := by decide +kernel
theorem dX11_image_2 : decode mX11_image.2.1 2 = .ok (.putfield 316, 3) := by decide +kernel
theorem dX11_image_5 : decode mX11_image.2.1 5 = .ok (.iconst 0, 1) := by decide +kernel
theorem dX11_image_6 : decode mX11_image.2.1 6 = .ok (.istore_n 1, 1) := by decide +kernel
theorem dX11_image_7 : decode mX11_image.2.1 7 = .ok (.iload_n 1, 1) := by decide +kernel
theorem dX11_image_8 : decode mX11_image.2.1 8 = .ok (.bipush 6, 2) := by decide +kernel
theorem dX11_image_10 : decode mX11_image.2.1 10 = .ok (.if_icmp .ge 33, 3) := by decide +kernel
theorem dX11_image_13 : decode mX11_image.2.1 13 = .ok (.aload_n 0, 1) := by decide +kernel
theorem dX11_image_14 : decode mX11_image.2.1 14 = .ok (.getfield 61, 3) := by decide +kernel
theorem dX11_image_17 : decode mX11_image.2.1 17 = .ok (.iload_n 1, 1) := by decide +kernel
theorem dX11_image_18 : decode mX11_image.2.1 18 = .ok (.aload_n 0, 1) := by decide +kernel
theorem dX11_image_19 : decode mX11_image.2.1 19 = .ok (.getfield 9, 3) := by decide +kernel
theorem dX11_image_22 : decode mX11_image.2.1 22 = .ok (.iload_n 1, 1) := by decide +kernel
theorem dX11_image_23 : decode mX11_image.2.1 23 = .ok (.iaload, 1) := by decide +kernel
theorem dX11_image_24 : decode mX11_image.2.1 24 = .ok (.iastore, 1) := by decide +kernel
theorem dX11_image_25 : decode mX11_image.2.1 25 = .ok (.aload_n 0, 1) := by decide +kernel
theorem dX11_image_26 : decode mX11_image.2.1 26 = .ok (.getfield 70, 3) := by decide +kernel
theorem dX11_image_29 : decode mX11_image.2.1 29 = .ok (.iload_n 1, 1) := by decide +kernel
theorem dX11_image_30 : decode mX11_image.2.1 30 = .ok (.aload_n 0, 1) := by decide +kernel
theorem dX11_image_31 : decode mX11_image.2.1 31 = .ok (.getfield 22, 3) := by decide +kernel
theorem dX11_image_34 : decode mX11_image.2.1 34 = .ok (.iload_n 1, 1) := by decide +kernel
theorem dX11_image_35 : decode mX11_image.2.1 35 = .ok (.iaload, 1) := by decide +kernel
theorem dX11_image_36 : decode mX11_image.2.1 36 = .ok (.iastore, 1) := by decide +kernel
theorem dX11_image_37 : decode mX11_image.2.1 37 = .ok (.iinc 1 1, 3) := by decide +kernel
theorem dX11_image_40 : decode mX11_image.2.1 40 = .ok (.goto (-33), 3) := by decide +kernel
theorem dX11_image_43 : decode mX11_image.2.1 43 = .ok (.iconst 0, 1) := by decide +kernel
theorem dX11_image_44 : decode mX11_image.2.1 44 = .ok (.istore_n 1, 1) := by decide +kernel
theorem dX11_image_45 : decode mX11_image.2.1 45 = .ok (.iload_n 1, 1) := by decide +kernel
theorem dX11_image_46 : decode mX11_image.2.1 46 = .ok (.bipush 72, 2) := by decide +kernel
theorem dX11_image_48 : decode mX11_image.2.1 48 = .ok (.if_icmp .ge 21, 3) := by decide +kernel
theorem dX11_image_51 : decode mX11_image.2.1 51 = .ok (.aload_n 0, 1) := by decide +kernel
theorem dX11_image_52 : decode mX11_image.2.1 52 = .ok (.getfield 64, 3) := by decide +kernel
theorem dX11_image_55 : decode mX11_image.2.1 55 = .ok (.iload_n 1, 1) := by decide +kernel
theorem dX11_image_56 : decode mX11_image.2.1 56 = .ok (.aload_n 0, 1) := by decide +kernel
theorem dX11_image_57 : decode mX11_image.2.1 57 = .ok (.getfield 15, 3) := by decide +kernel
theorem dX11_image_60 : decode mX11_image.2.1 60 = .ok (.iload_n 1, 1) := by decide +kernel
theorem dX11_image_61 : decode mX11_image.2.1 61 = .ok (.iaload, 1) := by decide +kernel
theorem dX11_image_62 : decode mX11_image.2.1 62 = .ok (.iastore, 1) := by decide +kernel
theorem dX11_image_63 : decode mX11_image.2.1 63 = .ok (.iinc 1 1, 3) := by decide +kernel
theorem dX11_image_66 : decode mX11_image.2.1 66 = .ok (.goto (-21), 3) := by decide +kernel
theorem dX11_image_69 : decode mX11_image.2.1 69 = .ok (.iconst 0, 1) := by decide +kernel
theorem dX11_image_70 : decode mX11_image.2.1 70 = .ok (.istore_n 1, 1) := by decide +kernel
theorem dX11_image_71 : decode mX11_image.2.1 71 = .ok (.iload_n 1, 1) := by decide +kernel
theorem dX11_image_72 : decode mX11_image.2.1 72 = .ok (.sipush 169, 3) := by decide +kernel
theorem dX11_image_75 : decode mX11_image.2.1 75 = .ok (.if_icmp .ge 21, 3) := by decide +kernel
theorem dX11_image_78 : decode mX11_image.2.1 78 = .ok (.aload_n 0, 1) := by decide +kernel
theorem dX11_image_79 : decode mX11_image.2.1 79 = .ok (.getfield 67, 3) := by decide +kernel
theorem dX11_image_82 : decode mX11_image.2.1 82 = .ok (.iload_n 1, 1) := by decide +kernel
theorem dX11_image_83 : decode mX11_image.2.1 83 = .ok (.aload_n 0, 1) := by decide +kernel
theorem dX11_image_84 : decode mX11_image.2.1 84 = .ok (.getfield 18, 3) := by decide +kernel
theorem dX11_image_87 : decode mX11_image.2.1 87 = .ok (.iload_n 1, 1) := by decide +kernel
theorem dX11_image_88 : decode mX11_image.2.1 88 = .ok (.laload, 1) := by decide +kernel
theorem dX11_image_89 : decode mX11_image.2.1 89 = .ok (.lastore, 1) := by decide +kernel
theorem dX11_image_90 : decode mX11_image.2.1 90 = .ok (.iinc 1 1, 3) := by decide +kernel
theorem dX11_image_93 : decode mX11_image.2.1 93 = .ok (.goto (-22), 3) := by decide +kernel
theorem dX11_image_96 : decode mX11_image.2.1 96 = .ok (.iconst 0, 1) := by decide +kernel
theorem dX11_image_97 : decode mX11_image.2.1 97 = .ok (.istore_n 1, 1) := by decide +kernel
theorem dX11_image_98 : decode mX11_image.2.1 98 = .ok (.iload_n 1, 1) := by decide +kernel
theorem dX11_image_99 : decode mX11_image.2.1 99 = .ok (.bipush 36, 2) := by decide +kernel
theorem dX11_image_101 : decode mX11_image.2.1 101 = .ok (.if_icmp .ge 33, 3) := by decide +kernel
theorem dX11_image_104 : decode mX11_image.2.1 104 = .ok (.aload_n 0, 1) := by decide +kernel
theorem dX11_image_105 : decode mX11_image.2.1 105 = .ok (.getfield 73, 3) := by decide +kernel
theorem dX11_image_108 : decode mX11_image.2.1 108 = .ok (.iload_n 1, 1) := by decide +kernel
theorem dX11_image_109 : decode mX11_image.2.1 109 = .ok (.aload_n 0, 1) := by decide +kernel
theorem dX11_image_110 : decode mX11_image.2.1 110 = .ok (.getfield 25, 3) := by decide +kernel
theorem dX11_image_113 : decode mX11_image.2.1 113 = .ok (.iload_n 1, 1) := by decide +kernel
theorem dX11_image_114 : decode mX11_image.2.1 114 = .ok (.iaload, 1) := by decide +kernel
theorem dX11_image_115 : decode mX11_image.2.1 115 = .ok (.iastore, 1) := by decide +kernel
theorem dX11_image_116 : decode mX11_image.2.1 116 = .ok (.aload_n 0, 1) := by decide +kernel
theorem dX11_image_117 : decode mX11_image.2.1 117 = .ok (.getfield 76, 3) := by decide +kernel
theorem dX11_image_120 : decode mX11_image.2.1 120 = .ok (.iload_n 1, 1) := by decide +kernel
theorem dX11_image_121 : decode mX11_image.2.1 121 = .ok (.aload_n 0, 1) := by decide +kernel
theorem dX11_image_122 : decode mX11_image.2.1 122 = .ok (.getfield 28, 3) := by decide +kernel
theorem dX11_image_125 : decode mX11_image.2.1 125 = .ok (.iload_n 1, 1) := by decide +kernel
theorem dX11_image_126 : decode mX11_image.2.1 126 = .ok (.iaload, 1) := by decide +kernel
theorem dX11_image_127 : decode mX11_image.2.1 127 = .ok (.iastore, 1) := by decide +kernel
theorem dX11_image_128 : decode mX11_image.2.1 128 = .ok (.iinc 1 1, 3) := by decide +kernel
theorem dX11_image_131 : decode mX11_image.2.1 131 = .ok (.goto (-33), 3) := by decide +kernel
theorem dX11_image_134 : decode mX11_image.2.1 134 = .ok (.aload_n 0, 1) := by decide +kernel
theorem dX11_image_135 : decode mX11_image.2.1 135 = .ok (.aload_n 0, 1) := by decide +kernel
theorem dX11_image_136 : decode mX11_image.2.1 136 = .ok (.getfield 234, 3) := by decide +kernel
theorem dX11_image_139 : decode mX11_image.2.1 139 = .ok (.putfield 320, 3) := by decide +kernel
theorem dX11_image_142 : decode mX11_image.2.1 142 = .ok (.iconst 0, 1) := by decide +kernel
theorem dX11_image_143 : decode mX11_image.2.1 143 = .ok (.istore_n 1, 1) := by decide +kernel
theorem dX11_image_144 : decode mX11_image.2.1 144 = .ok (.iload_n 1, 1) := by decide +kernel
theorem dX11_image_145 : decode mX11_image.2.1 145 = .ok (.iconst 4, 1) := by decide +kernel
theorem dX11_image_146 : decode mX11_image.2.1 146 = .ok (.if_icmp .ge 33, 3) := by decide +kernel
theorem dX11_image_149 : decode mX11_image.2.1 149 = .ok (.aload_n 0, 1) := by decide +kernel
theorem dX11_image_150 : decode mX11_image.2.1 150 = .ok (.getfield 79, 3) := by decide +kernel
theorem dX11_image_153 : decode mX11_image.2.1 153 = .ok (.iload_n 1, 1) := by decide +kernel
theorem dX11_image_154 : decode mX11_image.2.1 154 = .ok (.aload_n 0, 1) := by decide +kernel
theorem dX11_image_155 : decode mX11_image.2.1 155 = .ok (.getfield 31, 3) := by decide +kernel
theorem dX11_image_158 : decode mX11_image.2.1 158 = .ok (.iload_n 1, 1) := by decide +kernel
theorem dX11_image_159 : decode mX11_image.2.1 159 = .ok (.iaload, 1) := by decide +kernel
theorem dX11_image_160 : decode mX11_image.2.1 160 = .ok (.iastore, 1) := by decide +kernel
theorem dX11_image_161 : decode mX11_image.2.1 161 = .ok (.aload_n 0, 1) := by decide +kernel
theorem dX11_image_162 : decode mX11_image.2.1 162 = .ok (.getfield 82, 3) := by decide +kernel
theorem dX11_image_165 : decode mX11_image.2.1 165 = .ok (.iload_n 1, 1) := by decide +kernel
theorem dX11_image_166 : decode mX11_image.2.1 166 = .ok (.aload_n 0, 1) := by decide +kernel
theorem dX11_image_167 : decode mX11_image.2.1 167 = .ok (.getfield 34, 3) := by decide +kernel
theorem dX11_image_170 : decode mX11_image.2.1 170 = .ok (.iload_n 1, 1) := by decide +kernel
theorem dX11_image_171 : decode mX11_image.2.1 171 = .ok (.iaload, 1) := by decide +kernel
theorem dX11_image_172 : decode mX11_image.2.1 172 = .ok (.iastore, 1) := by decide +kernel
theorem dX11_image_173 : decode mX11_image.2.1 173 = .ok (.iinc 1 1, 3) := by decide +kernel
theorem dX11_image_176 : decode mX11_image.2.1 176 = .ok (.goto (-32), 3) := by decide +kernel
theorem dX11_image_179 : decode mX11_image.2.1 179 = .ok (.aload_n 0, 1) := by decide +kernel
theorem dX11_image_180 : decode mX11_image.2.1 180 = .ok (.invokevirtual 323, 3) := by decide +kernel
theorem dX11_image_183 : decode mX11_image.2.1 183 = .ok (.ireturn, 1) := by decide +kernel
def mX11_restore : String × ByteArray × Nat := (RX11, cX11_restore, 2)
theorem dX11_restore_0 : decode mX11_restore.2.1 0 = .ok (.aload_n 0, 1) := by decide +kernel
theorem dX11_restore_1 : decode mX11_restore.2.1 1 = .ok (.getfield 316, 3) := by decide +kernel
theorem dX11_restore_4 : decode mX11_restore.2.1 4 = .ok (.ifCond .ne 6, 3) := by decide +kernel
theorem dX11_restore_7 : decode mX11_restore.2.1 7 = .ok (.bipush (-3), 2) := by decide +kernel
theorem dX11_restore_9 : decode mX11_restore.2.1 9 = .ok (.ireturn, 1) := by decide +kernel
theorem dX11_restore_10 : decode mX11_restore.2.1 10 = .ok (.iconst 0, 1) := by decide +kernel
theorem dX11_restore_11 : decode mX11_restore.2.1 11 = .ok (.istore_n 1, 1) := by decide +kernel
theorem dX11_restore_12 : decode mX11_restore.2.1 12 = .ok (.iload_n 1, 1) := by decide +kernel
theorem dX11_restore_13 : decode mX11_restore.2.1 13 = .ok (.bipush 6, 2) := by decide +kernel
theorem dX11_restore_15 : decode mX11_restore.2.1 15 = .ok (.if_icmp .ge 33, 3) := by decide +kernel
theorem dX11_restore_18 : decode mX11_restore.2.1 18 = .ok (.aload_n 0, 1) := by decide +kernel
theorem dX11_restore_19 : decode mX11_restore.2.1 19 = .ok (.getfield 9, 3) := by decide +kernel
theorem dX11_restore_22 : decode mX11_restore.2.1 22 = .ok (.iload_n 1, 1) := by decide +kernel
theorem dX11_restore_23 : decode mX11_restore.2.1 23 = .ok (.aload_n 0, 1) := by decide +kernel
theorem dX11_restore_24 : decode mX11_restore.2.1 24 = .ok (.getfield 61, 3) := by decide +kernel
theorem dX11_restore_27 : decode mX11_restore.2.1 27 = .ok (.iload_n 1, 1) := by decide +kernel
theorem dX11_restore_28 : decode mX11_restore.2.1 28 = .ok (.iaload, 1) := by decide +kernel
theorem dX11_restore_29 : decode mX11_restore.2.1 29 = .ok (.iastore, 1) := by decide +kernel
theorem dX11_restore_30 : decode mX11_restore.2.1 30 = .ok (.aload_n 0, 1) := by decide +kernel
theorem dX11_restore_31 : decode mX11_restore.2.1 31 = .ok (.getfield 22, 3) := by decide +kernel
theorem dX11_restore_34 : decode mX11_restore.2.1 34 = .ok (.iload_n 1, 1) := by decide +kernel
theorem dX11_restore_35 : decode mX11_restore.2.1 35 = .ok (.aload_n 0, 1) := by decide +kernel
theorem dX11_restore_36 : decode mX11_restore.2.1 36 = .ok (.getfield 70, 3) := by decide +kernel
theorem dX11_restore_39 : decode mX11_restore.2.1 39 = .ok (.iload_n 1, 1) := by decide +kernel
theorem dX11_restore_40 : decode mX11_restore.2.1 40 = .ok (.iaload, 1) := by decide +kernel
theorem dX11_restore_41 : decode mX11_restore.2.1 41 = .ok (.iastore, 1) := by decide +kernel
theorem dX11_restore_42 : decode mX11_restore.2.1 42 = .ok (.iinc 1 1, 3) := by decide +kernel
theorem dX11_restore_45 : decode mX11_restore.2.1 45 = .ok (.goto (-33), 3) := by decide +kernel
theorem dX11_restore_48 : decode mX11_restore.2.1 48 = .ok (.iconst 0, 1) := by decide +kernel
theorem dX11_restore_49 : decode mX11_restore.2.1 49 = .ok (.istore_n 1, 1) := by decide +kernel
theorem dX11_restore_50 : decode mX11_restore.2.1 50 = .ok (.iload_n 1, 1) := by decide +kernel
theorem dX11_restore_51 : decode mX11_restore.2.1 51 = .ok (.bipush 72, 2) := by decide +kernel
theorem dX11_restore_53 : decode mX11_restore.2.1 53 = .ok (.if_icmp .ge 21, 3) := by decide +kernel
theorem dX11_restore_56 : decode mX11_restore.2.1 56 = .ok (.aload_n 0, 1) := by decide +kernel
theorem dX11_restore_57 : decode mX11_restore.2.1 57 = .ok (.getfield 15, 3) := by decide +kernel
theorem dX11_restore_60 : decode mX11_restore.2.1 60 = .ok (.iload_n 1, 1) := by decide +kernel
theorem dX11_restore_61 : decode mX11_restore.2.1 61 = .ok (.aload_n 0, 1) := by decide +kernel
theorem dX11_restore_62 : decode mX11_restore.2.1 62 = .ok (.getfield 64, 3) := by decide +kernel
theorem dX11_restore_65 : decode mX11_restore.2.1 65 = .ok (.iload_n 1, 1) := by decide +kernel
theorem dX11_restore_66 : decode mX11_restore.2.1 66 = .ok (.iaload, 1) := by decide +kernel
theorem dX11_restore_67 : decode mX11_restore.2.1 67 = .ok (.iastore, 1) := by decide +kernel
theorem dX11_restore_68 : decode mX11_restore.2.1 68 = .ok (.iinc 1 1, 3) := by decide +kernel
theorem dX11_restore_71 : decode mX11_restore.2.1 71 = .ok (.goto (-21), 3) := by decide +kernel
theorem dX11_restore_74 : decode mX11_restore.2.1 74 = .ok (.iconst 0, 1) := by decide +kernel
theorem dX11_restore_75 : decode mX11_restore.2.1 75 = .ok (.istore_n 1, 1) := by decide +kernel
theorem dX11_restore_76 : decode mX11_restore.2.1 76 = .ok (.iload_n 1, 1) := by decide +kernel
theorem dX11_restore_77 : decode mX11_restore.2.1 77 = .ok (.sipush 169, 3) := by decide +kernel
theorem dX11_restore_80 : decode mX11_restore.2.1 80 = .ok (.if_icmp .ge 21, 3) := by decide +kernel
theorem dX11_restore_83 : decode mX11_restore.2.1 83 = .ok (.aload_n 0, 1) := by decide +kernel
theorem dX11_restore_84 : decode mX11_restore.2.1 84 = .ok (.getfield 18, 3) := by decide +kernel
theorem dX11_restore_87 : decode mX11_restore.2.1 87 = .ok (.iload_n 1, 1) := by decide +kernel
theorem dX11_restore_88 : decode mX11_restore.2.1 88 = .ok (.aload_n 0, 1) := by decide +kernel
theorem dX11_restore_89 : decode mX11_restore.2.1 89 = .ok (.getfield 67, 3) := by decide +kernel
theorem dX11_restore_92 : decode mX11_restore.2.1 92 = .ok (.iload_n 1, 1) := by decide +kernel
theorem dX11_restore_93 : decode mX11_restore.2.1 93 = .ok (.laload, 1) := by decide +kernel
theorem dX11_restore_94 : decode mX11_restore.2.1 94 = .ok (.lastore, 1) := by decide +kernel
theorem dX11_restore_95 : decode mX11_restore.2.1 95 = .ok (.iinc 1 1, 3) := by decide +kernel
theorem dX11_restore_98 : decode mX11_restore.2.1 98 = .ok (.goto (-22), 3) := by decide +kernel
theorem dX11_restore_101 : decode mX11_restore.2.1 101 = .ok (.iconst 0, 1) := by decide +kernel
theorem dX11_restore_102 : decode mX11_restore.2.1 102 = .ok (.istore_n 1, 1) := by decide +kernel
theorem dX11_restore_103 : decode mX11_restore.2.1 103 = .ok (.iload_n 1, 1) := by decide +kernel
theorem dX11_restore_104 : decode mX11_restore.2.1 104 = .ok (.bipush 36, 2) := by decide +kernel
theorem dX11_restore_106 : decode mX11_restore.2.1 106 = .ok (.if_icmp .ge 33, 3) := by decide +kernel
theorem dX11_restore_109 : decode mX11_restore.2.1 109 = .ok (.aload_n 0, 1) := by decide +kernel
theorem dX11_restore_110 : decode mX11_restore.2.1 110 = .ok (.getfield 25, 3) := by decide +kernel
theorem dX11_restore_113 : decode mX11_restore.2.1 113 = .ok (.iload_n 1, 1) := by decide +kernel
theorem dX11_restore_114 : decode mX11_restore.2.1 114 = .ok (.aload_n 0, 1) := by decide +kernel
theorem dX11_restore_115 : decode mX11_restore.2.1 115 = .ok (.getfield 73, 3) := by decide +kernel
theorem dX11_restore_118 : decode mX11_restore.2.1 118 = .ok (.iload_n 1, 1) := by decide +kernel
theorem dX11_restore_119 : decode mX11_restore.2.1 119 = .ok (.iaload, 1) := by decide +kernel
theorem dX11_restore_120 : decode mX11_restore.2.1 120 = .ok (.iastore, 1) := by decide +kernel
theorem dX11_restore_121 : decode mX11_restore.2.1 121 = .ok (.aload_n 0, 1) := by decide +kernel
theorem dX11_restore_122 : decode mX11_restore.2.1 122 = .ok (.getfield 28, 3) := by decide +kernel
theorem dX11_restore_125 : decode mX11_restore.2.1 125 = .ok (.iload_n 1, 1) := by decide +kernel
theorem dX11_restore_126 : decode mX11_restore.2.1 126 = .ok (.aload_n 0, 1) := by decide +kernel
theorem dX11_restore_127 : decode mX11_restore.2.1 127 = .ok (.getfield 76, 3) := by decide +kernel
theorem dX11_restore_130 : decode mX11_restore.2.1 130 = .ok (.iload_n 1, 1) := by decide +kernel
theorem dX11_restore_131 : decode mX11_restore.2.1 131 = .ok (.iaload, 1) := by decide +kernel
theorem dX11_restore_132 : decode mX11_restore.2.1 132 = .ok (.iastore, 1) := by decide +kernel
theorem dX11_restore_133 : decode mX11_restore.2.1 133 = .ok (.iinc 1 1, 3) := by decide +kernel
theorem dX11_restore_136 : decode mX11_restore.2.1 136 = .ok (.goto (-33), 3) := by decide +kernel
theorem dX11_restore_139 : decode mX11_restore.2.1 139 = .ok (.aload_n 0, 1) := by decide +kernel
theorem dX11_restore_140 : decode mX11_restore.2.1 140 = .ok (.aload_n 0, 1) := by decide +kernel
theorem dX11_restore_141 : decode mX11_restore.2.1 141 = .ok (.getfield 320, 3) := by decide +kernel
theorem dX11_restore_144 : decode mX11_restore.2.1 144 = .ok (.putfield 234, 3) := by decide +kernel
theorem dX11_restore_147 : decode mX11_restore.2.1 147 = .ok (.iconst 0, 1) := by decide +kernel
theorem dX11_restore_148 : decode mX11_restore.2.1 148 = .ok (.istore_n 1, 1) := by decide +kernel
theorem dX11_restore_149 : decode mX11_restore.2.1 149 = .ok (.iload_n 1, 1) := by decide +kernel
theorem dX11_restore_150 : decode mX11_restore.2.1 150 = .ok (.iconst 4, 1) := by decide +kernel
theorem dX11_restore_151 : decode mX11_restore.2.1 151 = .ok (.if_icmp .ge 33, 3) := by decide +kernel
theorem dX11_restore_154 : decode mX11_restore.2.1 154 = .ok (.aload_n 0, 1) := by decide +kernel
theorem dX11_restore_155 : decode mX11_restore.2.1 155 = .ok (.getfield 31, 3) := by decide +kernel
theorem dX11_restore_158 : decode mX11_restore.2.1 158 = .ok (.iload_n 1, 1) := by decide +kernel
theorem dX11_restore_159 : decode mX11_restore.2.1 159 = .ok (.aload_n 0, 1) := by decide +kernel
theorem dX11_restore_160 : decode mX11_restore.2.1 160 = .ok (.getfield 79, 3) := by decide +kernel
theorem dX11_restore_163 : decode mX11_restore.2.1 163 = .ok (.iload_n 1, 1) := by decide +kernel
theorem dX11_restore_164 : decode mX11_restore.2.1 164 = .ok (.iaload, 1) := by decide +kernel
theorem dX11_restore_165 : decode mX11_restore.2.1 165 = .ok (.iastore, 1) := by decide +kernel
theorem dX11_restore_166 : decode mX11_restore.2.1 166 = .ok (.aload_n 0, 1) := by decide +kernel
theorem dX11_restore_167 : decode mX11_restore.2.1 167 = .ok (.getfield 34, 3) := by decide +kernel
theorem dX11_restore_170 : decode mX11_restore.2.1 170 = .ok (.iload_n 1, 1) := by decide +kernel
theorem dX11_restore_171 : decode mX11_restore.2.1 171 = .ok (.aload_n 0, 1) := by decide +kernel
theorem dX11_restore_172 : decode mX11_restore.2.1 172 = .ok (.getfield 82, 3) := by decide +kernel
theorem dX11_restore_175 : decode mX11_restore.2.1 175 = .ok (.iload_n 1, 1) := by decide +kernel
theorem dX11_restore_176 : decode mX11_restore.2.1 176 = .ok (.iaload, 1) := by decide +kernel
theorem dX11_restore_177 : decode mX11_restore.2.1 177 = .ok (.iastore, 1) := by decide +kernel
theorem dX11_restore_178 : decode mX11_restore.2.1 178 = .ok (.iinc 1 1, 3) := by decide +kernel
theorem dX11_restore_181 : decode mX11_restore.2.1 181 = .ok (.goto (-32), 3) := by decide +kernel
theorem dX11_restore_184 : decode mX11_restore.2.1 184 = .ok (.aload_n 0, 1) := by decide +kernel
theorem dX11_restore_185 : decode mX11_restore.2.1 185 = .ok (.iconst 0, 1) := by decide +kernel
theorem dX11_restore_186 : decode mX11_restore.2.1 186 = .ok (.putfield 175, 3) := by decide +kernel
theorem dX11_restore_189 : decode mX11_restore.2.1 189 = .ok (.aload_n 0, 1) := by decide +kernel
theorem dX11_restore_190 : decode mX11_restore.2.1 190 = .ok (.invokevirtual 323, 3) := by decide +kernel
theorem dX11_restore_193 : decode mX11_restore.2.1 193 = .ok (.ireturn, 1) := by decide +kernel
def mX11_told : String × ByteArray × Nat := (RX11, cX11_told, 4)
theorem dX11_told_0 : decode mX11_told.2.1 0 = .ok (.iconst 0, 1) := by decide +kernel
theorem dX11_told_1 : decode mX11_told.2.1 1 = .ok (.istore_n 2, 1) := by decide +kernel
theorem dX11_told_2 : decode mX11_told.2.1 2 = .ok (.iconst 0, 1) := by decide +kernel
theorem dX11_told_3 : decode mX11_told.2.1 3 = .ok (.istore_n 3, 1) := by decide +kernel
theorem dX11_told_4 : decode mX11_told.2.1 4 = .ok (.iload_n 3, 1) := by decide +kernel
theorem dX11_told_5 : decode mX11_told.2.1 5 = .ok (.bipush 6, 2) := by decide +kernel
theorem dX11_told_7 : decode mX11_told.2.1 7 = .ok (.if_icmp .ge 17, 3) := by decide +kernel
theorem dX11_told_10 : decode mX11_told.2.1 10 = .ok (.iload_n 2, 1) := by decide +kernel
theorem dX11_told_11 : decode mX11_told.2.1 11 = .ok (.aload_n 0, 1) := by decide +kernel
theorem dX11_told_12 : decode mX11_told.2.1 12 = .ok (.iload_n 3, 1) := by decide +kernel
theorem dX11_told_13 : decode mX11_told.2.1 13 = .ok (.invokevirtual 186, 3) := by decide +kernel
theorem dX11_told_16 : decode mX11_told.2.1 16 = .ok (.iadd, 1) := by decide +kernel
theorem dX11_told_17 : decode mX11_told.2.1 17 = .ok (.istore_n 2, 1) := by decide +kernel
theorem dX11_told_18 : decode mX11_told.2.1 18 = .ok (.iinc 3 1, 3) := by decide +kernel
theorem dX11_told_21 : decode mX11_told.2.1 21 = .ok (.goto (-17), 3) := by decide +kernel
theorem dX11_told_24 : decode mX11_told.2.1 24 = .ok (.iload_n 1, 1) := by decide +kernel
theorem dX11_told_25 : decode mX11_told.2.1 25 = .ok (.tableswitch 75 0 6 #[43, 48, 50, 55, 60, 65, 70], 43) := by decide +kernel
theorem dX11_told_68 : decode mX11_told.2.1 68 = .ok (.aload_n 0, 1) := by decide +kernel
theorem dX11_told_69 : decode mX11_told.2.1 69 = .ok (.invokevirtual 323, 3) := by decide +kernel
theorem dX11_told_72 : decode mX11_told.2.1 72 = .ok (.ireturn, 1) := by decide +kernel
theorem dX11_told_73 : decode mX11_told.2.1 73 = .ok (.iload_n 2, 1) := by decide +kernel
theorem dX11_told_74 : decode mX11_told.2.1 74 = .ok (.ireturn, 1) := by decide +kernel
theorem dX11_told_75 : decode mX11_told.2.1 75 = .ok (.aload_n 0, 1) := by decide +kernel
theorem dX11_told_76 : decode mX11_told.2.1 76 = .ok (.getfield 175, 3) := by decide +kernel
theorem dX11_told_79 : decode mX11_told.2.1 79 = .ok (.ireturn, 1) := by decide +kernel
theorem dX11_told_80 : decode mX11_told.2.1 80 = .ok (.aload_n 0, 1) := by decide +kernel
theorem dX11_told_81 : decode mX11_told.2.1 81 = .ok (.getfield 297, 3) := by decide +kernel
theorem dX11_told_84 : decode mX11_told.2.1 84 = .ok (.ireturn, 1) := by decide +kernel
theorem dX11_told_85 : decode mX11_told.2.1 85 = .ok (.aload_n 0, 1) := by decide +kernel
theorem dX11_told_86 : decode mX11_told.2.1 86 = .ok (.getfield 310, 3) := by decide +kernel
theorem dX11_told_89 : decode mX11_told.2.1 89 = .ok (.ireturn, 1) := by decide +kernel
theorem dX11_told_90 : decode mX11_told.2.1 90 = .ok (.aload_n 0, 1) := by decide +kernel
theorem dX11_told_91 : decode mX11_told.2.1 91 = .ok (.getfield 234, 3) := by decide +kernel
theorem dX11_told_94 : decode mX11_told.2.1 94 = .ok (.ireturn, 1) := by decide +kernel
theorem dX11_told_95 : decode mX11_told.2.1 95 = .ok (.aload_n 0, 1) := by decide +kernel
theorem dX11_told_96 : decode mX11_told.2.1 96 = .ok (.invokevirtual 155, 3) := by decide +kernel
theorem dX11_told_99 : decode mX11_told.2.1 99 = .ok (.ireturn, 1) := by decide +kernel
theorem dX11_told_100 : decode mX11_told.2.1 100 = .ok (.bipush (-2), 2) := by decide +kernel
theorem dX11_told_102 : decode mX11_told.2.1 102 = .ok (.ireturn, 1) := by decide +kernel
def mX11_tape : String × ByteArray × Nat := (RX11, cX11_tape, 5)
theorem dX11_tape_0 : decode mX11_tape.2.1 0 = .ok (.iload_n 1, 1) := by decide +kernel
theorem dX11_tape_1 : decode mX11_tape.2.1 1 = .ok (.invokestatic 133, 3) := by decide +kernel
theorem dX11_tape_4 : decode mX11_tape.2.1 4 = .ok (.ifCond .ne 5, 3) := by decide +kernel
theorem dX11_tape_7 : decode mX11_tape.2.1 7 = .ok (.iconst (-1), 1) := by decide +kernel
theorem dX11_tape_8 : decode mX11_tape.2.1 8 = .ok (.ireturn, 1) := by decide +kernel
theorem dX11_tape_9 : decode mX11_tape.2.1 9 = .ok (.iload_n 2, 1) := by decide +kernel
theorem dX11_tape_10 : decode mX11_tape.2.1 10 = .ok (.i2l, 1) := by decide +kernel
theorem dX11_tape_11 : decode mX11_tape.2.1 11 = .ok (.ldc2_w 223, 3) := by decide +kernel
theorem dX11_tape_14 : decode mX11_tape.2.1 14 = .ok (.ldc2_w 218, 3) := by decide +kernel
theorem dX11_tape_17 : decode mX11_tape.2.1 17 = .ok (.invokestatic 129, 3) := by decide +kernel
theorem dX11_tape_20 : decode mX11_tape.2.1 20 = .ok (.ifCond .eq 13, 3) := by decide +kernel
theorem dX11_tape_23 : decode mX11_tape.2.1 23 = .ok (.iload_n 2, 1) := by decide +kernel
theorem dX11_tape_24 : decode mX11_tape.2.1 24 = .ok (.ifCond .lt 12, 3) := by decide +kernel
theorem dX11_tape_27 : decode mX11_tape.2.1 27 = .ok (.iload_n 3, 1) := by decide +kernel
theorem dX11_tape_28 : decode mX11_tape.2.1 28 = .ok (.bipush 60, 2) := by decide +kernel
theorem dX11_tape_30 : decode mX11_tape.2.1 30 = .ok (.if_icmp .le 6, 3) := by decide +kernel
theorem dX11_tape_33 : decode mX11_tape.2.1 33 = .ok (.bipush (-2), 2) := by decide +kernel
theorem dX11_tape_35 : decode mX11_tape.2.1 35 = .ok (.ireturn, 1) := by decide +kernel
theorem dX11_tape_36 : decode mX11_tape.2.1 36 = .ok (.iload_n 2, 1) := by decide +kernel
theorem dX11_tape_37 : decode mX11_tape.2.1 37 = .ok (.ifCond .lt 10, 3) := by decide +kernel
theorem dX11_tape_40 : decode mX11_tape.2.1 40 = .ok (.iload_n 3, 1) := by decide +kernel
theorem dX11_tape_41 : decode mX11_tape.2.1 41 = .ok (.ifCond .ge 6, 3) := by decide +kernel
theorem dX11_tape_44 : decode mX11_tape.2.1 44 = .ok (.bipush (-14), 2) := by decide +kernel
theorem dX11_tape_46 : decode mX11_tape.2.1 46 = .ok (.ireturn, 1) := by decide +kernel
theorem dX11_tape_47 : decode mX11_tape.2.1 47 = .ok (.aload_n 0, 1) := by decide +kernel
theorem dX11_tape_48 : decode mX11_tape.2.1 48 = .ok (.getfield 52, 3) := by decide +kernel
theorem dX11_tape_51 : decode mX11_tape.2.1 51 = .ok (.iload_n 1, 1) := by decide +kernel
theorem dX11_tape_52 : decode mX11_tape.2.1 52 = .ok (.iload_n 2, 1) := by decide +kernel
theorem dX11_tape_53 : decode mX11_tape.2.1 53 = .ok (.iastore, 1) := by decide +kernel
theorem dX11_tape_54 : decode mX11_tape.2.1 54 = .ok (.aload_n 0, 1) := by decide +kernel
theorem dX11_tape_55 : decode mX11_tape.2.1 55 = .ok (.getfield 55, 3) := by decide +kernel
theorem dX11_tape_58 : decode mX11_tape.2.1 58 = .ok (.iload_n 1, 1) := by decide +kernel
theorem dX11_tape_59 : decode mX11_tape.2.1 59 = .ok (.iload_n 2, 1) := by decide +kernel
theorem dX11_tape_60 : decode mX11_tape.2.1 60 = .ok (.ifCond .ge 7, 3) := by decide +kernel
theorem dX11_tape_63 : decode mX11_tape.2.1 63 = .ok (.iconst 0, 1) := by decide +kernel
theorem dX11_tape_64 : decode mX11_tape.2.1 64 = .ok (.goto 4, 3) := by decide +kernel
theorem dX11_tape_67 : decode mX11_tape.2.1 67 = .ok (.iload_n 3, 1) := by decide +kernel
theorem dX11_tape_68 : decode mX11_tape.2.1 68 = .ok (.iastore, 1) := by decide +kernel
theorem dX11_tape_69 : decode mX11_tape.2.1 69 = .ok (.iconst 0, 1) := by decide +kernel
theorem dX11_tape_70 : decode mX11_tape.2.1 70 = .ok (.istore 4, 2) := by decide +kernel
theorem dX11_tape_72 : decode mX11_tape.2.1 72 = .ok (.iload 4, 2) := by decide +kernel
theorem dX11_tape_74 : decode mX11_tape.2.1 74 = .ok (.bipush 60, 2) := by decide +kernel
theorem dX11_tape_76 : decode mX11_tape.2.1 76 = .ok (.if_icmp .ge 22, 3) := by decide +kernel
theorem dX11_tape_79 : decode mX11_tape.2.1 79 = .ok (.aload_n 0, 1) := by decide +kernel
theorem dX11_tape_80 : decode mX11_tape.2.1 80 = .ok (.getfield 58, 3) := by decide +kernel
theorem dX11_tape_83 : decode mX11_tape.2.1 83 = .ok (.bipush 60, 2) := by decide +kernel
theorem dX11_tape_85 : decode mX11_tape.2.1 85 = .ok (.iload_n 1, 1) := by decide +kernel
theorem dX11_tape_86 : decode mX11_tape.2.1 86 = .ok (.imul, 1) := by decide +kernel
theorem dX11_tape_87 : decode mX11_tape.2.1 87 = .ok (.iload 4, 2) := by decide +kernel
theorem dX11_tape_89 : decode mX11_tape.2.1 89 = .ok (.iadd, 1) := by decide +kernel
theorem dX11_tape_90 : decode mX11_tape.2.1 90 = .ok (.lconst 0, 1) := by decide +kernel
theorem dX11_tape_91 : decode mX11_tape.2.1 91 = .ok (.lastore, 1) := by decide +kernel
theorem dX11_tape_92 : decode mX11_tape.2.1 92 = .ok (.iinc 4 1, 3) := by decide +kernel
theorem dX11_tape_95 : decode mX11_tape.2.1 95 = .ok (.goto (-23), 3) := by decide +kernel
theorem dX11_tape_98 : decode mX11_tape.2.1 98 = .ok (.iconst 1, 1) := by decide +kernel
theorem dX11_tape_99 : decode mX11_tape.2.1 99 = .ok (.ireturn, 1) := by decide +kernel
def mX11_item : String × ByteArray × Nat := (RX11, cX11_item, 6)
theorem dX11_item_0 : decode mX11_item.2.1 0 = .ok (.iload_n 1, 1) := by decide +kernel
theorem dX11_item_1 : decode mX11_item.2.1 1 = .ok (.invokestatic 133, 3) := by decide +kernel
theorem dX11_item_4 : decode mX11_item.2.1 4 = .ok (.ifCond .ne 5, 3) := by decide +kernel
theorem dX11_item_7 : decode mX11_item.2.1 7 = .ok (.iconst (-1), 1) := by decide +kernel
theorem dX11_item_8 : decode mX11_item.2.1 8 = .ok (.ireturn, 1) := by decide +kernel
theorem dX11_item_9 : decode mX11_item.2.1 9 = .ok (.aload_n 0, 1) := by decide +kernel
theorem dX11_item_10 : decode mX11_item.2.1 10 = .ok (.getfield 52, 3) := by decide +kernel
theorem dX11_item_13 : decode mX11_item.2.1 13 = .ok (.iload_n 1, 1) := by decide +kernel
theorem dX11_item_14 : decode mX11_item.2.1 14 = .ok (.iaload, 1) := by decide +kernel
theorem dX11_item_15 : decode mX11_item.2.1 15 = .ok (.ifCond .ge 6, 3) := by decide +kernel
theorem dX11_item_18 : decode mX11_item.2.1 18 = .ok (.bipush (-11), 2) := by decide +kernel
theorem dX11_item_20 : decode mX11_item.2.1 20 = .ok (.ireturn, 1) := by decide +kernel
theorem dX11_item_21 : decode mX11_item.2.1 21 = .ok (.iload_n 2, 1) := by decide +kernel
theorem dX11_item_22 : decode mX11_item.2.1 22 = .ok (.i2l, 1) := by decide +kernel
theorem dX11_item_23 : decode mX11_item.2.1 23 = .ok (.lconst 0, 1) := by decide +kernel
theorem dX11_item_24 : decode mX11_item.2.1 24 = .ok (.aload_n 0, 1) := by decide +kernel
theorem dX11_item_25 : decode mX11_item.2.1 25 = .ok (.getfield 55, 3) := by decide +kernel
theorem dX11_item_28 : decode mX11_item.2.1 28 = .ok (.iload_n 1, 1) := by decide +kernel
theorem dX11_item_29 : decode mX11_item.2.1 29 = .ok (.iaload, 1) := by decide +kernel
theorem dX11_item_30 : decode mX11_item.2.1 30 = .ok (.iconst 1, 1) := by decide +kernel
theorem dX11_item_31 : decode mX11_item.2.1 31 = .ok (.isub, 1) := by decide +kernel
theorem dX11_item_32 : decode mX11_item.2.1 32 = .ok (.i2l, 1) := by decide +kernel
theorem dX11_item_33 : decode mX11_item.2.1 33 = .ok (.invokestatic 129, 3) := by decide +kernel
theorem dX11_item_36 : decode mX11_item.2.1 36 = .ok (.ifCond .ne 6, 3) := by decide +kernel
theorem dX11_item_39 : decode mX11_item.2.1 39 = .ok (.bipush (-13), 2) := by decide +kernel
theorem dX11_item_41 : decode mX11_item.2.1 41 = .ok (.ireturn, 1) := by decide +kernel
theorem dX11_item_42 : decode mX11_item.2.1 42 = .ok (.aload_n 0, 1) := by decide +kernel
theorem dX11_item_43 : decode mX11_item.2.1 43 = .ok (.getfield 52, 3) := by decide +kernel
theorem dX11_item_46 : decode mX11_item.2.1 46 = .ok (.iload_n 1, 1) := by decide +kernel
theorem dX11_item_47 : decode mX11_item.2.1 47 = .ok (.iaload, 1) := by decide +kernel
theorem dX11_item_48 : decode mX11_item.2.1 48 = .ok (.istore 5, 2) := by decide +kernel
theorem dX11_item_50 : decode mX11_item.2.1 50 = .ok (.aload_n 0, 1) := by decide +kernel
theorem dX11_item_51 : decode mX11_item.2.1 51 = .ok (.getfield 58, 3) := by decide +kernel
theorem dX11_item_54 : decode mX11_item.2.1 54 = .ok (.bipush 60, 2) := by decide +kernel
theorem dX11_item_56 : decode mX11_item.2.1 56 = .ok (.iload_n 1, 1) := by decide +kernel
theorem dX11_item_57 : decode mX11_item.2.1 57 = .ok (.imul, 1) := by decide +kernel
theorem dX11_item_58 : decode mX11_item.2.1 58 = .ok (.iload_n 2, 1) := by decide +kernel
theorem dX11_item_59 : decode mX11_item.2.1 59 = .ok (.iadd, 1) := by decide +kernel
theorem dX11_item_60 : decode mX11_item.2.1 60 = .ok (.iload 5, 2) := by decide +kernel
theorem dX11_item_62 : decode mX11_item.2.1 62 = .ok (.ifCond .ne 10, 3) := by decide +kernel
theorem dX11_item_65 : decode mX11_item.2.1 65 = .ok (.lload_n 3, 1) := by decide +kernel
theorem dX11_item_66 : decode mX11_item.2.1 66 = .ok (.l2i, 1) := by decide +kernel
theorem dX11_item_67 : decode mX11_item.2.1 67 = .ok (.i2b, 1) := by decide +kernel
theorem dX11_item_68 : decode mX11_item.2.1 68 = .ok (.i2l, 1) := by decide +kernel
theorem dX11_item_69 : decode mX11_item.2.1 69 = .ok (.goto 49, 3) := by decide +kernel
theorem dX11_item_72 : decode mX11_item.2.1 72 = .ok (.iload 5, 2) := by decide +kernel
theorem dX11_item_74 : decode mX11_item.2.1 74 = .ok (.iconst 1, 1) := by decide +kernel
theorem dX11_item_75 : decode mX11_item.2.1 75 = .ok (.if_icmp .ne 10, 3) := by decide +kernel
theorem dX11_item_78 : decode mX11_item.2.1 78 = .ok (.lload_n 3, 1) := by decide +kernel
theorem dX11_item_79 : decode mX11_item.2.1 79 = .ok (.l2i, 1) := by decide +kernel
theorem dX11_item_80 : decode mX11_item.2.1 80 = .ok (.i2s, 1) := by decide +kernel
theorem dX11_item_81 : decode mX11_item.2.1 81 = .ok (.i2l, 1) := by decide +kernel
theorem dX11_item_82 : decode mX11_item.2.1 82 = .ok (.goto 36, 3) := by decide +kernel
theorem dX11_item_85 : decode mX11_item.2.1 85 = .ok (.iload 5, 2) := by decide +kernel
theorem dX11_item_87 : decode mX11_item.2.1 87 = .ok (.iconst 2, 1) := by decide +kernel
theorem dX11_item_88 : decode mX11_item.2.1 88 = .ok (.if_icmp .ne 9, 3) := by decide +kernel
theorem dX11_item_91 : decode mX11_item.2.1 91 = .ok (.lload_n 3, 1) := by decide +kernel
theorem dX11_item_92 : decode mX11_item.2.1 92 = .ok (.l2i, 1) := by decide +kernel
theorem dX11_item_93 : decode mX11_item.2.1 93 = .ok (.i2l, 1) := by decide +kernel
theorem dX11_item_94 : decode mX11_item.2.1 94 = .ok (.goto 24, 3) := by decide +kernel
theorem dX11_item_97 : decode mX11_item.2.1 97 = .ok (.iload 5, 2) := by decide +kernel
theorem dX11_item_99 : decode mX11_item.2.1 99 = .ok (.iconst 3, 1) := by decide +kernel
theorem dX11_item_100 : decode mX11_item.2.1 100 = .ok (.if_icmp .ne 7, 3) := by decide +kernel
theorem dX11_item_103 : decode mX11_item.2.1 103 = .ok (.lload_n 3, 1) := by decide +kernel
theorem dX11_item_104 : decode mX11_item.2.1 104 = .ok (.goto 14, 3) := by decide +kernel
theorem dX11_item_107 : decode mX11_item.2.1 107 = .ok (.lload_n 3, 1) := by decide +kernel
theorem dX11_item_108 : decode mX11_item.2.1 108 = .ok (.lconst 0, 1) := by decide +kernel
theorem dX11_item_109 : decode mX11_item.2.1 109 = .ok (.lcmp, 1) := by decide +kernel
theorem dX11_item_110 : decode mX11_item.2.1 110 = .ok (.ifCond .eq 7, 3) := by decide +kernel
theorem dX11_item_113 : decode mX11_item.2.1 113 = .ok (.lconst 1, 1) := by decide +kernel
theorem dX11_item_114 : decode mX11_item.2.1 114 = .ok (.goto 4, 3) := by decide +kernel
theorem dX11_item_117 : decode mX11_item.2.1 117 = .ok (.lconst 0, 1) := by decide +kernel
theorem dX11_item_118 : decode mX11_item.2.1 118 = .ok (.lastore, 1) := by decide +kernel
theorem dX11_item_119 : decode mX11_item.2.1 119 = .ok (.iconst 1, 1) := by decide +kernel
theorem dX11_item_120 : decode mX11_item.2.1 120 = .ok (.ireturn, 1) := by decide +kernel
def mX11_peek : String × ByteArray × Nat := (RX11, cX11_peek, 3)
theorem dX11_peek_0 : decode mX11_peek.2.1 0 = .ok (.iload_n 1, 1) := by decide +kernel
theorem dX11_peek_1 : decode mX11_peek.2.1 1 = .ok (.invokestatic 133, 3) := by decide +kernel
theorem dX11_peek_4 : decode mX11_peek.2.1 4 = .ok (.ifCond .eq 44, 3) := by decide +kernel
theorem dX11_peek_7 : decode mX11_peek.2.1 7 = .ok (.aload_n 0, 1) := by decide +kernel
theorem dX11_peek_8 : decode mX11_peek.2.1 8 = .ok (.getfield 52, 3) := by decide +kernel
theorem dX11_peek_11 : decode mX11_peek.2.1 11 = .ok (.iload_n 1, 1) := by decide +kernel
theorem dX11_peek_12 : decode mX11_peek.2.1 12 = .ok (.iaload, 1) := by decide +kernel
theorem dX11_peek_13 : decode mX11_peek.2.1 13 = .ok (.ifCond .lt 35, 3) := by decide +kernel
theorem dX11_peek_16 : decode mX11_peek.2.1 16 = .ok (.iload_n 2, 1) := by decide +kernel
theorem dX11_peek_17 : decode mX11_peek.2.1 17 = .ok (.i2l, 1) := by decide +kernel
theorem dX11_peek_18 : decode mX11_peek.2.1 18 = .ok (.lconst 0, 1) := by decide +kernel
theorem dX11_peek_19 : decode mX11_peek.2.1 19 = .ok (.aload_n 0, 1) := by decide +kernel
theorem dX11_peek_20 : decode mX11_peek.2.1 20 = .ok (.getfield 55, 3) := by decide +kernel
theorem dX11_peek_23 : decode mX11_peek.2.1 23 = .ok (.iload_n 1, 1) := by decide +kernel
theorem dX11_peek_24 : decode mX11_peek.2.1 24 = .ok (.iaload, 1) := by decide +kernel
theorem dX11_peek_25 : decode mX11_peek.2.1 25 = .ok (.iconst 1, 1) := by decide +kernel
theorem dX11_peek_26 : decode mX11_peek.2.1 26 = .ok (.isub, 1) := by decide +kernel
theorem dX11_peek_27 : decode mX11_peek.2.1 27 = .ok (.i2l, 1) := by decide +kernel
theorem dX11_peek_28 : decode mX11_peek.2.1 28 = .ok (.invokestatic 129, 3) := by decide +kernel
theorem dX11_peek_31 : decode mX11_peek.2.1 31 = .ok (.ifCond .eq 17, 3) := by decide +kernel
theorem dX11_peek_34 : decode mX11_peek.2.1 34 = .ok (.aload_n 0, 1) := by decide +kernel
theorem dX11_peek_35 : decode mX11_peek.2.1 35 = .ok (.getfield 58, 3) := by decide +kernel
theorem dX11_peek_38 : decode mX11_peek.2.1 38 = .ok (.bipush 60, 2) := by decide +kernel
theorem dX11_peek_40 : decode mX11_peek.2.1 40 = .ok (.iload_n 1, 1) := by decide +kernel
theorem dX11_peek_41 : decode mX11_peek.2.1 41 = .ok (.imul, 1) := by decide +kernel
theorem dX11_peek_42 : decode mX11_peek.2.1 42 = .ok (.iload_n 2, 1) := by decide +kernel
theorem dX11_peek_43 : decode mX11_peek.2.1 43 = .ok (.iadd, 1) := by decide +kernel
theorem dX11_peek_44 : decode mX11_peek.2.1 44 = .ok (.laload, 1) := by decide +kernel
theorem dX11_peek_45 : decode mX11_peek.2.1 45 = .ok (.goto 6, 3) := by decide +kernel
theorem dX11_peek_48 : decode mX11_peek.2.1 48 = .ok (.ldc2_w 149, 3) := by decide +kernel
theorem dX11_peek_51 : decode mX11_peek.2.1 51 = .ok (.lreturn, 1) := by decide +kernel
def mX11_shift : String × ByteArray × Nat := (RX11, cX11_shift, 7)
theorem dX11_shift_0 : decode mX11_shift.2.1 0 = .ok (.iload_n 1, 1) := by decide +kernel
theorem dX11_shift_1 : decode mX11_shift.2.1 1 = .ok (.invokestatic 133, 3) := by decide +kernel
theorem dX11_shift_4 : decode mX11_shift.2.1 4 = .ok (.ifCond .eq 10, 3) := by decide +kernel
theorem dX11_shift_7 : decode mX11_shift.2.1 7 = .ok (.iload_n 3, 1) := by decide +kernel
theorem dX11_shift_8 : decode mX11_shift.2.1 8 = .ok (.invokestatic 133, 3) := by decide +kernel
theorem dX11_shift_11 : decode mX11_shift.2.1 11 = .ok (.ifCond .ne 5, 3) := by decide +kernel
theorem dX11_shift_14 : decode mX11_shift.2.1 14 = .ok (.iconst (-1), 1) := by decide +kernel
theorem dX11_shift_15 : decode mX11_shift.2.1 15 = .ok (.ireturn, 1) := by decide +kernel
theorem dX11_shift_16 : decode mX11_shift.2.1 16 = .ok (.aload_n 0, 1) := by decide +kernel
theorem dX11_shift_17 : decode mX11_shift.2.1 17 = .ok (.getfield 52, 3) := by decide +kernel
theorem dX11_shift_20 : decode mX11_shift.2.1 20 = .ok (.iload_n 1, 1) := by decide +kernel
theorem dX11_shift_21 : decode mX11_shift.2.1 21 = .ok (.iaload, 1) := by decide +kernel
theorem dX11_shift_22 : decode mX11_shift.2.1 22 = .ok (.ifCond .lt 12, 3) := by decide +kernel
theorem dX11_shift_25 : decode mX11_shift.2.1 25 = .ok (.aload_n 0, 1) := by decide +kernel
theorem dX11_shift_26 : decode mX11_shift.2.1 26 = .ok (.getfield 52, 3) := by decide +kernel
theorem dX11_shift_29 : decode mX11_shift.2.1 29 = .ok (.iload_n 3, 1) := by decide +kernel
theorem dX11_shift_30 : decode mX11_shift.2.1 30 = .ok (.iaload, 1) := by decide +kernel
theorem dX11_shift_31 : decode mX11_shift.2.1 31 = .ok (.ifCond .ge 6, 3) := by decide +kernel
theorem dX11_shift_34 : decode mX11_shift.2.1 34 = .ok (.bipush (-11), 2) := by decide +kernel
theorem dX11_shift_36 : decode mX11_shift.2.1 36 = .ok (.ireturn, 1) := by decide +kernel
theorem dX11_shift_37 : decode mX11_shift.2.1 37 = .ok (.aload_n 0, 1) := by decide +kernel
theorem dX11_shift_38 : decode mX11_shift.2.1 38 = .ok (.getfield 52, 3) := by decide +kernel
theorem dX11_shift_41 : decode mX11_shift.2.1 41 = .ok (.iload_n 1, 1) := by decide +kernel
theorem dX11_shift_42 : decode mX11_shift.2.1 42 = .ok (.iaload, 1) := by decide +kernel
theorem dX11_shift_43 : decode mX11_shift.2.1 43 = .ok (.aload_n 0, 1) := by decide +kernel
theorem dX11_shift_44 : decode mX11_shift.2.1 44 = .ok (.getfield 52, 3) := by decide +kernel
theorem dX11_shift_47 : decode mX11_shift.2.1 47 = .ok (.iload_n 3, 1) := by decide +kernel
theorem dX11_shift_48 : decode mX11_shift.2.1 48 = .ok (.iaload, 1) := by decide +kernel
theorem dX11_shift_49 : decode mX11_shift.2.1 49 = .ok (.if_icmp .eq 6, 3) := by decide +kernel
theorem dX11_shift_52 : decode mX11_shift.2.1 52 = .ok (.bipush (-12), 2) := by decide +kernel
theorem dX11_shift_54 : decode mX11_shift.2.1 54 = .ok (.ireturn, 1) := by decide +kernel
theorem dX11_shift_55 : decode mX11_shift.2.1 55 = .ok (.iload 5, 2) := by decide +kernel
theorem dX11_shift_57 : decode mX11_shift.2.1 57 = .ok (.ifCond .lt 47, 3) := by decide +kernel
theorem dX11_shift_60 : decode mX11_shift.2.1 60 = .ok (.iload_n 2, 1) := by decide +kernel
theorem dX11_shift_61 : decode mX11_shift.2.1 61 = .ok (.ifCond .lt 43, 3) := by decide +kernel
theorem dX11_shift_64 : decode mX11_shift.2.1 64 = .ok (.iload 4, 2) := by decide +kernel
theorem dX11_shift_66 : decode mX11_shift.2.1 66 = .ok (.ifCond .lt 38, 3) := by decide +kernel
theorem dX11_shift_69 : decode mX11_shift.2.1 69 = .ok (.iload_n 2, 1) := by decide +kernel
theorem dX11_shift_70 : decode mX11_shift.2.1 70 = .ok (.i2l, 1) := by decide +kernel
theorem dX11_shift_71 : decode mX11_shift.2.1 71 = .ok (.iload 5, 2) := by decide +kernel
theorem dX11_shift_73 : decode mX11_shift.2.1 73 = .ok (.i2l, 1) := by decide +kernel
theorem dX11_shift_74 : decode mX11_shift.2.1 74 = .ok (.ladd, 1) := by decide +kernel
theorem dX11_shift_75 : decode mX11_shift.2.1 75 = .ok (.aload_n 0, 1) := by decide +kernel
theorem dX11_shift_76 : decode mX11_shift.2.1 76 = .ok (.getfield 55, 3) := by decide +kernel
theorem dX11_shift_79 : decode mX11_shift.2.1 79 = .ok (.iload_n 1, 1) := by decide +kernel
theorem dX11_shift_80 : decode mX11_shift.2.1 80 = .ok (.iaload, 1) := by decide +kernel
theorem dX11_shift_81 : decode mX11_shift.2.1 81 = .ok (.i2l, 1) := by decide +kernel
theorem dX11_shift_82 : decode mX11_shift.2.1 82 = .ok (.lcmp, 1) := by decide +kernel
theorem dX11_shift_83 : decode mX11_shift.2.1 83 = .ok (.ifCond .gt 21, 3) := by decide +kernel
theorem dX11_shift_86 : decode mX11_shift.2.1 86 = .ok (.iload 4, 2) := by decide +kernel
theorem dX11_shift_88 : decode mX11_shift.2.1 88 = .ok (.i2l, 1) := by decide +kernel
theorem dX11_shift_89 : decode mX11_shift.2.1 89 = .ok (.iload 5, 2) := by decide +kernel
theorem dX11_shift_91 : decode mX11_shift.2.1 91 = .ok (.i2l, 1) := by decide +kernel
theorem dX11_shift_92 : decode mX11_shift.2.1 92 = .ok (.ladd, 1) := by decide +kernel
theorem dX11_shift_93 : decode mX11_shift.2.1 93 = .ok (.aload_n 0, 1) := by decide +kernel
theorem dX11_shift_94 : decode mX11_shift.2.1 94 = .ok (.getfield 55, 3) := by decide +kernel
theorem dX11_shift_97 : decode mX11_shift.2.1 97 = .ok (.iload_n 3, 1) := by decide +kernel
theorem dX11_shift_98 : decode mX11_shift.2.1 98 = .ok (.iaload, 1) := by decide +kernel
theorem dX11_shift_99 : decode mX11_shift.2.1 99 = .ok (.i2l, 1) := by decide +kernel
theorem dX11_shift_100 : decode mX11_shift.2.1 100 = .ok (.lcmp, 1) := by decide +kernel
theorem dX11_shift_101 : decode mX11_shift.2.1 101 = .ok (.ifCond .le 6, 3) := by decide +kernel
theorem dX11_shift_104 : decode mX11_shift.2.1 104 = .ok (.bipush (-13), 2) := by decide +kernel
theorem dX11_shift_106 : decode mX11_shift.2.1 106 = .ok (.ireturn, 1) := by decide +kernel
theorem dX11_shift_107 : decode mX11_shift.2.1 107 = .ok (.iconst 0, 1) := by decide +kernel
theorem dX11_shift_108 : decode mX11_shift.2.1 108 = .ok (.istore 6, 2) := by decide +kernel
theorem dX11_shift_110 : decode mX11_shift.2.1 110 = .ok (.iload 6, 2) := by decide +kernel
theorem dX11_shift_112 : decode mX11_shift.2.1 112 = .ok (.iload 5, 2) := by decide +kernel
theorem dX11_shift_114 : decode mX11_shift.2.1 114 = .ok (.if_icmp .ge 30, 3) := by decide +kernel
theorem dX11_shift_117 : decode mX11_shift.2.1 117 = .ok (.aload_n 0, 1) := by decide +kernel
theorem dX11_shift_118 : decode mX11_shift.2.1 118 = .ok (.getfield 124, 3) := by decide +kernel
theorem dX11_shift_121 : decode mX11_shift.2.1 121 = .ok (.iload 6, 2) := by decide +kernel
theorem dX11_shift_123 : decode mX11_shift.2.1 123 = .ok (.aload_n 0, 1) := by decide +kernel
theorem dX11_shift_124 : decode mX11_shift.2.1 124 = .ok (.getfield 58, 3) := by decide +kernel
theorem dX11_shift_127 : decode mX11_shift.2.1 127 = .ok (.bipush 60, 2) := by decide +kernel
theorem dX11_shift_129 : decode mX11_shift.2.1 129 = .ok (.iload_n 1, 1) := by decide +kernel
theorem dX11_shift_130 : decode mX11_shift.2.1 130 = .ok (.imul, 1) := by decide +kernel
theorem dX11_shift_131 : decode mX11_shift.2.1 131 = .ok (.iload_n 2, 1) := by decide +kernel
theorem dX11_shift_132 : decode mX11_shift.2.1 132 = .ok (.iadd, 1) := by decide +kernel
theorem dX11_shift_133 : decode mX11_shift.2.1 133 = .ok (.iload 6, 2) := by decide +kernel
theorem dX11_shift_135 : decode mX11_shift.2.1 135 = .ok (.iadd, 1) := by decide +kernel
theorem dX11_shift_136 : decode mX11_shift.2.1 136 = .ok (.laload, 1) := by decide +kernel
theorem dX11_shift_137 : decode mX11_shift.2.1 137 = .ok (.lastore, 1) := by decide +kernel
theorem dX11_shift_138 : decode mX11_shift.2.1 138 = .ok (.iinc 6 1, 3) := by decide +kernel
theorem dX11_shift_141 : decode mX11_shift.2.1 141 = .ok (.goto (-31), 3) := by decide +kernel
theorem dX11_shift_144 : decode mX11_shift.2.1 144 = .ok (.iconst 0, 1) := by decide +kernel
theorem dX11_shift_145 : decode mX11_shift.2.1 145 = .ok (.istore 6, 2) := by decide +kernel
theorem dX11_shift_147 : decode mX11_shift.2.1 147 = .ok (.iload 6, 2) := by decide +kernel
theorem dX11_shift_149 : decode mX11_shift.2.1 149 = .ok (.iload 5, 2) := by decide +kernel
theorem dX11_shift_151 : decode mX11_shift.2.1 151 = .ok (.if_icmp .ge 31, 3) := by decide +kernel
theorem dX11_shift_154 : decode mX11_shift.2.1 154 = .ok (.aload_n 0, 1) := by decide +kernel
theorem dX11_shift_155 : decode mX11_shift.2.1 155 = .ok (.getfield 58, 3) := by decide +kernel
theorem dX11_shift_158 : decode mX11_shift.2.1 158 = .ok (.bipush 60, 2) := by decide +kernel
theorem dX11_shift_160 : decode mX11_shift.2.1 160 = .ok (.iload_n 3, 1) := by decide +kernel
theorem dX11_shift_161 : decode mX11_shift.2.1 161 = .ok (.imul, 1) := by decide +kernel
theorem dX11_shift_162 : decode mX11_shift.2.1 162 = .ok (.iload 4, 2) := by decide +kernel
theorem dX11_shift_164 : decode mX11_shift.2.1 164 = .ok (.iadd, 1) := by decide +kernel
theorem dX11_shift_165 : decode mX11_shift.2.1 165 = .ok (.iload 6, 2) := by decide +kernel
theorem dX11_shift_167 : decode mX11_shift.2.1 167 = .ok (.iadd, 1) := by decide +kernel
theorem dX11_shift_168 : decode mX11_shift.2.1 168 = .ok (.aload_n 0, 1) := by decide +kernel
theorem dX11_shift_169 : decode mX11_shift.2.1 169 = .ok (.getfield 124, 3) := by decide +kernel
theorem dX11_shift_172 : decode mX11_shift.2.1 172 = .ok (.iload 6, 2) := by decide +kernel
theorem dX11_shift_174 : decode mX11_shift.2.1 174 = .ok (.laload, 1) := by decide +kernel
theorem dX11_shift_175 : decode mX11_shift.2.1 175 = .ok (.lastore, 1) := by decide +kernel
theorem dX11_shift_176 : decode mX11_shift.2.1 176 = .ok (.iinc 6 1, 3) := by decide +kernel
theorem dX11_shift_179 : decode mX11_shift.2.1 179 = .ok (.goto (-32), 3) := by decide +kernel
theorem dX11_shift_182 : decode mX11_shift.2.1 182 = .ok (.iload 5, 2) := by decide +kernel
theorem dX11_shift_184 : decode mX11_shift.2.1 184 = .ok (.ireturn, 1) := by decide +kernel
def mX11_judge : String × ByteArray × Nat := (RX11, cX11_judge, 5)
theorem dX11_judge_0 : decode mX11_judge.2.1 0 = .ok (.iload_n 1, 1) := by decide +kernel
theorem dX11_judge_1 : decode mX11_judge.2.1 1 = .ok (.invokestatic 133, 3) := by decide +kernel
theorem dX11_judge_4 : decode mX11_judge.2.1 4 = .ok (.ifCond .eq 10, 3) := by decide +kernel
theorem dX11_judge_7 : decode mX11_judge.2.1 7 = .ok (.iload_n 3, 1) := by decide +kernel
theorem dX11_judge_8 : decode mX11_judge.2.1 8 = .ok (.invokestatic 133, 3) := by decide +kernel
theorem dX11_judge_11 : decode mX11_judge.2.1 11 = .ok (.ifCond .ne 5, 3) := by decide +kernel
theorem dX11_judge_14 : decode mX11_judge.2.1 14 = .ok (.iconst (-1), 1) := by decide +kernel
theorem dX11_judge_15 : decode mX11_judge.2.1 15 = .ok (.ireturn, 1) := by decide +kernel
theorem dX11_judge_16 : decode mX11_judge.2.1 16 = .ok (.aload_n 0, 1) := by decide +kernel
theorem dX11_judge_17 : decode mX11_judge.2.1 17 = .ok (.getfield 52, 3) := by decide +kernel
theorem dX11_judge_20 : decode mX11_judge.2.1 20 = .ok (.iload_n 1, 1) := by decide +kernel
theorem dX11_judge_21 : decode mX11_judge.2.1 21 = .ok (.iaload, 1) := by decide +kernel
theorem dX11_judge_22 : decode mX11_judge.2.1 22 = .ok (.ifCond .lt 16, 3) := by decide +kernel
theorem dX11_judge_25 : decode mX11_judge.2.1 25 = .ok (.aload_n 0, 1) := by decide +kernel
theorem dX11_judge_26 : decode mX11_judge.2.1 26 = .ok (.getfield 52, 3) := by decide +kernel
theorem dX11_judge_29 : decode mX11_judge.2.1 29 = .ok (.iload_n 1, 1) := by decide +kernel
theorem dX11_judge_30 : decode mX11_judge.2.1 30 = .ok (.iaload, 1) := by decide +kernel
theorem dX11_judge_31 : decode mX11_judge.2.1 31 = .ok (.iconst 1, 1) := by decide +kernel
theorem dX11_judge_32 : decode mX11_judge.2.1 32 = .ok (.if_icmp .eq 6, 3) := by decide +kernel
theorem dX11_judge_35 : decode mX11_judge.2.1 35 = .ok (.bipush (-12), 2) := by decide +kernel
theorem dX11_judge_37 : decode mX11_judge.2.1 37 = .ok (.ireturn, 1) := by decide +kernel
theorem dX11_judge_38 : decode mX11_judge.2.1 38 = .ok (.aload_n 0, 1) := by decide +kernel
theorem dX11_judge_39 : decode mX11_judge.2.1 39 = .ok (.getfield 52, 3) := by decide +kernel
theorem dX11_judge_42 : decode mX11_judge.2.1 42 = .ok (.iload_n 1, 1) := by decide +kernel
theorem dX11_judge_43 : decode mX11_judge.2.1 43 = .ok (.iaload, 1) := by decide +kernel
theorem dX11_judge_44 : decode mX11_judge.2.1 44 = .ok (.ifCond .lt 7, 3) := by decide +kernel
theorem dX11_judge_47 : decode mX11_judge.2.1 47 = .ok (.iload_n 2, 1) := by decide +kernel
theorem dX11_judge_48 : decode mX11_judge.2.1 48 = .ok (.ifCond .ge 6, 3) := by decide +kernel
theorem dX11_judge_51 : decode mX11_judge.2.1 51 = .ok (.bipush 100, 2) := by decide +kernel
theorem dX11_judge_53 : decode mX11_judge.2.1 53 = .ok (.ireturn, 1) := by decide +kernel
theorem dX11_judge_54 : decode mX11_judge.2.1 54 = .ok (.aload_n 0, 1) := by decide +kernel
theorem dX11_judge_55 : decode mX11_judge.2.1 55 = .ok (.iload_n 3, 1) := by decide +kernel
theorem dX11_judge_56 : decode mX11_judge.2.1 56 = .ok (.invokevirtual 193, 3) := by decide +kernel
theorem dX11_judge_59 : decode mX11_judge.2.1 59 = .ok (.iconst 0, 1) := by decide +kernel
theorem dX11_judge_60 : decode mX11_judge.2.1 60 = .ok (.istore 4, 2) := by decide +kernel
theorem dX11_judge_62 : decode mX11_judge.2.1 62 = .ok (.iload 4, 2) := by decide +kernel
theorem dX11_judge_64 : decode mX11_judge.2.1 64 = .ok (.aload_n 0, 1) := by decide +kernel
theorem dX11_judge_65 : decode mX11_judge.2.1 65 = .ok (.getfield 22, 3) := by decide +kernel
theorem dX11_judge_68 : decode mX11_judge.2.1 68 = .ok (.iload_n 3, 1) := by decide +kernel
theorem dX11_judge_69 : decode mX11_judge.2.1 69 = .ok (.iaload, 1) := by decide +kernel
theorem dX11_judge_70 : decode mX11_judge.2.1 70 = .ok (.if_icmp .gt 61, 3) := by decide +kernel
theorem dX11_judge_73 : decode mX11_judge.2.1 73 = .ok (.iload_n 2, 1) := by decide +kernel
theorem dX11_judge_74 : decode mX11_judge.2.1 74 = .ok (.i2l, 1) := by decide +kernel
theorem dX11_judge_75 : decode mX11_judge.2.1 75 = .ok (.iload 4, 2) := by decide +kernel
theorem dX11_judge_77 : decode mX11_judge.2.1 77 = .ok (.i2l, 1) := by decide +kernel
theorem dX11_judge_78 : decode mX11_judge.2.1 78 = .ok (.ladd, 1) := by decide +kernel
theorem dX11_judge_79 : decode mX11_judge.2.1 79 = .ok (.aload_n 0, 1) := by decide +kernel
theorem dX11_judge_80 : decode mX11_judge.2.1 80 = .ok (.getfield 55, 3) := by decide +kernel
theorem dX11_judge_83 : decode mX11_judge.2.1 83 = .ok (.iload_n 1, 1) := by decide +kernel
theorem dX11_judge_84 : decode mX11_judge.2.1 84 = .ok (.iaload, 1) := by decide +kernel
theorem dX11_judge_85 : decode mX11_judge.2.1 85 = .ok (.i2l, 1) := by decide +kernel
theorem dX11_judge_86 : decode mX11_judge.2.1 86 = .ok (.lcmp, 1) := by decide +kernel
theorem dX11_judge_87 : decode mX11_judge.2.1 87 = .ok (.ifCond .lt 9, 3) := by decide +kernel
theorem dX11_judge_90 : decode mX11_judge.2.1 90 = .ok (.bipush 100, 2) := by decide +kernel
theorem dX11_judge_92 : decode mX11_judge.2.1 92 = .ok (.iload 4, 2) := by decide +kernel
theorem dX11_judge_94 : decode mX11_judge.2.1 94 = .ok (.iadd, 1) := by decide +kernel
theorem dX11_judge_95 : decode mX11_judge.2.1 95 = .ok (.ireturn, 1) := by decide +kernel
theorem dX11_judge_96 : decode mX11_judge.2.1 96 = .ok (.aload_n 0, 1) := by decide +kernel
theorem dX11_judge_97 : decode mX11_judge.2.1 97 = .ok (.getfield 58, 3) := by decide +kernel
theorem dX11_judge_100 : decode mX11_judge.2.1 100 = .ok (.bipush 60, 2) := by decide +kernel
theorem dX11_judge_102 : decode mX11_judge.2.1 102 = .ok (.iload_n 1, 1) := by decide +kernel
theorem dX11_judge_103 : decode mX11_judge.2.1 103 = .ok (.imul, 1) := by decide +kernel
theorem dX11_judge_104 : decode mX11_judge.2.1 104 = .ok (.iload_n 2, 1) := by decide +kernel
theorem dX11_judge_105 : decode mX11_judge.2.1 105 = .ok (.iadd, 1) := by decide +kernel
theorem dX11_judge_106 : decode mX11_judge.2.1 106 = .ok (.iload 4, 2) := by decide +kernel
theorem dX11_judge_108 : decode mX11_judge.2.1 108 = .ok (.iadd, 1) := by decide +kernel
theorem dX11_judge_109 : decode mX11_judge.2.1 109 = .ok (.laload, 1) := by decide +kernel
theorem dX11_judge_110 : decode mX11_judge.2.1 110 = .ok (.aload_n 0, 1) := by decide +kernel
theorem dX11_judge_111 : decode mX11_judge.2.1 111 = .ok (.getfield 103, 3) := by decide +kernel
theorem dX11_judge_114 : decode mX11_judge.2.1 114 = .ok (.iload 4, 2) := by decide +kernel
theorem dX11_judge_116 : decode mX11_judge.2.1 116 = .ok (.iaload, 1) := by decide +kernel
theorem dX11_judge_117 : decode mX11_judge.2.1 117 = .ok (.i2l, 1) := by decide +kernel
theorem dX11_judge_118 : decode mX11_judge.2.1 118 = .ok (.lcmp, 1) := by decide +kernel
theorem dX11_judge_119 : decode mX11_judge.2.1 119 = .ok (.ifCond .eq 6, 3) := by decide +kernel
theorem dX11_judge_122 : decode mX11_judge.2.1 122 = .ok (.iload 4, 2) := by decide +kernel
theorem dX11_judge_124 : decode mX11_judge.2.1 124 = .ok (.ireturn, 1) := by decide +kernel
theorem dX11_judge_125 : decode mX11_judge.2.1 125 = .ok (.iinc 4 1, 3) := by decide +kernel
theorem dX11_judge_128 : decode mX11_judge.2.1 128 = .ok (.goto (-66), 3) := by decide +kernel
theorem dX11_judge_131 : decode mX11_judge.2.1 131 = .ok (.bipush (-5), 2) := by decide +kernel
theorem dX11_judge_133 : decode mX11_judge.2.1 133 = .ok (.ireturn, 1) := by decide +kernel
def mJ6_bitCount_0f7a4 : String × ByteArray × Nat := (RJ6, cJ6_bitCount_0f7a4, 1)
theorem dJ6_bitCount_0f7a4_0 : decode mJ6_bitCount_0f7a4.2.1 0 = .ok (.iload_n 0, 1) := by decide +kernel
theorem dJ6_bitCount_0f7a4_1 : decode mJ6_bitCount_0f7a4.2.1 1 = .ok (.iload_n 0, 1) := by decide +kernel
theorem dJ6_bitCount_0f7a4_2 : decode mJ6_bitCount_0f7a4.2.1 2 = .ok (.iconst 1, 1) := by decide +kernel
theorem dJ6_bitCount_0f7a4_3 : decode mJ6_bitCount_0f7a4.2.1 3 = .ok (.iushr, 1) := by decide +kernel
theorem dJ6_bitCount_0f7a4_4 : decode mJ6_bitCount_0f7a4.2.1 4 = .ok (.ldc_w 265, 3) := by decide +kernel
theorem dJ6_bitCount_0f7a4_7 : decode mJ6_bitCount_0f7a4.2.1 7 = .ok (.iand, 1) := by decide +kernel
theorem dJ6_bitCount_0f7a4_8 : decode mJ6_bitCount_0f7a4.2.1 8 = .ok (.isub, 1) := by decide +kernel
theorem dJ6_bitCount_0f7a4_9 : decode mJ6_bitCount_0f7a4.2.1 9 = .ok (.istore_n 0, 1) := by decide +kernel
theorem dJ6_bitCount_0f7a4_10 : decode mJ6_bitCount_0f7a4.2.1 10 = .ok (.iload_n 0, 1) := by decide +kernel
theorem dJ6_bitCount_0f7a4_11 : decode mJ6_bitCount_0f7a4.2.1 11 = .ok (.ldc_w 266, 3) := by decide +kernel
theorem dJ6_bitCount_0f7a4_14 : decode mJ6_bitCount_0f7a4.2.1 14 = .ok (.iand, 1) := by decide +kernel
theorem dJ6_bitCount_0f7a4_15 : decode mJ6_bitCount_0f7a4.2.1 15 = .ok (.iload_n 0, 1) := by decide +kernel
theorem dJ6_bitCount_0f7a4_16 : decode mJ6_bitCount_0f7a4.2.1 16 = .ok (.iconst 2, 1) := by decide +kernel
theorem dJ6_bitCount_0f7a4_17 : decode mJ6_bitCount_0f7a4.2.1 17 = .ok (.iushr, 1) := by decide +kernel
theorem dJ6_bitCount_0f7a4_18 : decode mJ6_bitCount_0f7a4.2.1 18 = .ok (.ldc_w 266, 3) := by decide +kernel
theorem dJ6_bitCount_0f7a4_21 : decode mJ6_bitCount_0f7a4.2.1 21 = .ok (.iand, 1) := by decide +kernel
theorem dJ6_bitCount_0f7a4_22 : decode mJ6_bitCount_0f7a4.2.1 22 = .ok (.iadd, 1) := by decide +kernel
theorem dJ6_bitCount_0f7a4_23 : decode mJ6_bitCount_0f7a4.2.1 23 = .ok (.istore_n 0, 1) := by decide +kernel
theorem dJ6_bitCount_0f7a4_24 : decode mJ6_bitCount_0f7a4.2.1 24 = .ok (.iload_n 0, 1) := by decide +kernel
theorem dJ6_bitCount_0f7a4_25 : decode mJ6_bitCount_0f7a4.2.1 25 = .ok (.iload_n 0, 1) := by decide +kernel
theorem dJ6_bitCount_0f7a4_26 : decode mJ6_bitCount_0f7a4.2.1 26 = .ok (.iconst 4, 1) := by decide +kernel
theorem dJ6_bitCount_0f7a4_27 : decode mJ6_bitCount_0f7a4.2.1 27 = .ok (.iushr, 1) := by decide +kernel
theorem dJ6_bitCount_0f7a4_28 : decode mJ6_bitCount_0f7a4.2.1 28 = .ok (.iadd, 1) := by decide +kernel
theorem dJ6_bitCount_0f7a4_29 : decode mJ6_bitCount_0f7a4.2.1 29 = .ok (.ldc_w 267, 3) := by decide +kernel
theorem dJ6_bitCount_0f7a4_32 : decode mJ6_bitCount_0f7a4.2.1 32 = .ok (.iand, 1) := by decide +kernel
theorem dJ6_bitCount_0f7a4_33 : decode mJ6_bitCount_0f7a4.2.1 33 = .ok (.istore_n 0, 1) := by decide +kernel
theorem dJ6_bitCount_0f7a4_34 : decode mJ6_bitCount_0f7a4.2.1 34 = .ok (.iload_n 0, 1) := by decide +kernel
theorem dJ6_bitCount_0f7a4_35 : decode mJ6_bitCount_0f7a4.2.1 35 = .ok (.iload_n 0, 1) := by decide +kernel
theorem dJ6_bitCount_0f7a4_36 : decode mJ6_bitCount_0f7a4.2.1 36 = .ok (.bipush 8, 2) := by decide +kernel
theorem dJ6_bitCount_0f7a4_38 : decode mJ6_bitCount_0f7a4.2.1 38 = .ok (.iushr, 1) := by decide +kernel
theorem dJ6_bitCount_0f7a4_39 : decode mJ6_bitCount_0f7a4.2.1 39 = .ok (.iadd, 1) := by decide +kernel
theorem dJ6_bitCount_0f7a4_40 : decode mJ6_bitCount_0f7a4.2.1 40 = .ok (.istore_n 0, 1) := by decide +kernel
theorem dJ6_bitCount_0f7a4_41 : decode mJ6_bitCount_0f7a4.2.1 41 = .ok (.iload_n 0, 1) := by decide +kernel
theorem dJ6_bitCount_0f7a4_42 : decode mJ6_bitCount_0f7a4.2.1 42 = .ok (.iload_n 0, 1) := by decide +kernel
theorem dJ6_bitCount_0f7a4_43 : decode mJ6_bitCount_0f7a4.2.1 43 = .ok (.bipush 16, 2) := by decide +kernel
theorem dJ6_bitCount_0f7a4_45 : decode mJ6_bitCount_0f7a4.2.1 45 = .ok (.iushr, 1) := by decide +kernel
theorem dJ6_bitCount_0f7a4_46 : decode mJ6_bitCount_0f7a4.2.1 46 = .ok (.iadd, 1) := by decide +kernel
theorem dJ6_bitCount_0f7a4_47 : decode mJ6_bitCount_0f7a4.2.1 47 = .ok (.istore_n 0, 1) := by decide +kernel
theorem dJ6_bitCount_0f7a4_48 : decode mJ6_bitCount_0f7a4.2.1 48 = .ok (.iload_n 0, 1) := by decide +kernel
theorem dJ6_bitCount_0f7a4_49 : decode mJ6_bitCount_0f7a4.2.1 49 = .ok (.bipush 63, 2) := by decide +kernel
theorem dJ6_bitCount_0f7a4_51 : decode mJ6_bitCount_0f7a4.2.1 51 = .ok (.iand, 1) := by decide +kernel
theorem dJ6_bitCount_0f7a4_52 : decode mJ6_bitCount_0f7a4.2.1 52 = .ok (.ireturn, 1) := by decide +kernel
def mJ9_max_7cf53 : String × ByteArray × Nat := (RJ9, cJ9_max_7cf53, 2)
theorem dJ9_max_7cf53_0 : decode mJ9_max_7cf53.2.1 0 = .ok (.iload_n 0, 1) := by decide +kernel
theorem dJ9_max_7cf53_1 : decode mJ9_max_7cf53.2.1 1 = .ok (.iload_n 1, 1) := by decide +kernel
theorem dJ9_max_7cf53_2 : decode mJ9_max_7cf53.2.1 2 = .ok (.if_icmp .lt 7, 3) := by decide +kernel
theorem dJ9_max_7cf53_5 : decode mJ9_max_7cf53.2.1 5 = .ok (.iload_n 0, 1) := by decide +kernel
theorem dJ9_max_7cf53_6 : decode mJ9_max_7cf53.2.1 6 = .ok (.goto 4, 3) := by decide +kernel
theorem dJ9_max_7cf53_9 : decode mJ9_max_7cf53.2.1 9 = .ok (.iload_n 1, 1) := by decide +kernel
theorem dJ9_max_7cf53_10 : decode mJ9_max_7cf53.2.1 10 = .ok (.ireturn, 1) := by decide +kernel
def mJ9_min_7cf53 : String × ByteArray × Nat := (RJ9, cJ9_min_7cf53, 2)
theorem dJ9_min_7cf53_0 : decode mJ9_min_7cf53.2.1 0 = .ok (.iload_n 0, 1) := by decide +kernel
theorem dJ9_min_7cf53_1 : decode mJ9_min_7cf53.2.1 1 = .ok (.iload_n 1, 1) := by decide +kernel
theorem dJ9_min_7cf53_2 : decode mJ9_min_7cf53.2.1 2 = .ok (.if_icmp .gt 7, 3) := by decide +kernel
theorem dJ9_min_7cf53_5 : decode mJ9_min_7cf53.2.1 5 = .ok (.iload_n 0, 1) := by decide +kernel
theorem dJ9_min_7cf53_6 : decode mJ9_min_7cf53.2.1 6 = .ok (.goto 4, 3) := by decide +kernel
theorem dJ9_min_7cf53_9 : decode mJ9_min_7cf53.2.1 9 = .ok (.iload_n 1, 1) := by decide +kernel
theorem dJ9_min_7cf53_10 : decode mJ9_min_7cf53.2.1 10 = .ok (.ireturn, 1) := by decide +kernel
def mJ7_fill_d0a16 : String × ByteArray × Nat := (RJ7, cJ7_fill_d0a16, 5)
theorem dJ7_fill_d0a16_0 : decode mJ7_fill_d0a16.2.1 0 = .ok (.iconst 0, 1) := by decide +kernel
theorem dJ7_fill_d0a16_1 : decode mJ7_fill_d0a16.2.1 1 = .ok (.istore_n 3, 1) := by decide +kernel
theorem dJ7_fill_d0a16_2 : decode mJ7_fill_d0a16.2.1 2 = .ok (.aload_n 0, 1) := by decide +kernel
theorem dJ7_fill_d0a16_3 : decode mJ7_fill_d0a16.2.1 3 = .ok (.arraylength, 1) := by decide +kernel
theorem dJ7_fill_d0a16_4 : decode mJ7_fill_d0a16.2.1 4 = .ok (.istore 4, 2) := by decide +kernel
theorem dJ7_fill_d0a16_6 : decode mJ7_fill_d0a16.2.1 6 = .ok (.iload_n 3, 1) := by decide +kernel
theorem dJ7_fill_d0a16_7 : decode mJ7_fill_d0a16.2.1 7 = .ok (.iload 4, 2) := by decide +kernel
theorem dJ7_fill_d0a16_9 : decode mJ7_fill_d0a16.2.1 9 = .ok (.if_icmp .ge 13, 3) := by decide +kernel
theorem dJ7_fill_d0a16_12 : decode mJ7_fill_d0a16.2.1 12 = .ok (.aload_n 0, 1) := by decide +kernel
theorem dJ7_fill_d0a16_13 : decode mJ7_fill_d0a16.2.1 13 = .ok (.iload_n 3, 1) := by decide +kernel
theorem dJ7_fill_d0a16_14 : decode mJ7_fill_d0a16.2.1 14 = .ok (.lload_n 1, 1) := by decide +kernel
theorem dJ7_fill_d0a16_15 : decode mJ7_fill_d0a16.2.1 15 = .ok (.lastore, 1) := by decide +kernel
theorem dJ7_fill_d0a16_16 : decode mJ7_fill_d0a16.2.1 16 = .ok (.iinc 3 1, 3) := by decide +kernel
theorem dJ7_fill_d0a16_19 : decode mJ7_fill_d0a16.2.1 19 = .ok (.goto (-13), 3) := by decide +kernel
theorem dJ7_fill_d0a16_22 : decode mJ7_fill_d0a16.2.1 22 = .ok (.return_, 1) := by decide +kernel
def mJ7_fill_53178 : String × ByteArray × Nat := (RJ7, cJ7_fill_53178, 4)
theorem dJ7_fill_53178_0 : decode mJ7_fill_53178.2.1 0 = .ok (.iconst 0, 1) := by decide +kernel
theorem dJ7_fill_53178_1 : decode mJ7_fill_53178.2.1 1 = .ok (.istore_n 2, 1) := by decide +kernel
theorem dJ7_fill_53178_2 : decode mJ7_fill_53178.2.1 2 = .ok (.aload_n 0, 1) := by decide +kernel
theorem dJ7_fill_53178_3 : decode mJ7_fill_53178.2.1 3 = .ok (.arraylength, 1) := by decide +kernel
theorem dJ7_fill_53178_4 : decode mJ7_fill_53178.2.1 4 = .ok (.istore_n 3, 1) := by decide +kernel
theorem dJ7_fill_53178_5 : decode mJ7_fill_53178.2.1 5 = .ok (.iload_n 2, 1) := by decide +kernel
theorem dJ7_fill_53178_6 : decode mJ7_fill_53178.2.1 6 = .ok (.iload_n 3, 1) := by decide +kernel
theorem dJ7_fill_53178_7 : decode mJ7_fill_53178.2.1 7 = .ok (.if_icmp .ge 13, 3) := by decide +kernel
theorem dJ7_fill_53178_10 : decode mJ7_fill_53178.2.1 10 = .ok (.aload_n 0, 1) := by decide +kernel
theorem dJ7_fill_53178_11 : decode mJ7_fill_53178.2.1 11 = .ok (.iload_n 2, 1) := by decide +kernel
theorem dJ7_fill_53178_12 : decode mJ7_fill_53178.2.1 12 = .ok (.iload_n 1, 1) := by decide +kernel
theorem dJ7_fill_53178_13 : decode mJ7_fill_53178.2.1 13 = .ok (.iastore, 1) := by decide +kernel
theorem dJ7_fill_53178_14 : decode mJ7_fill_53178.2.1 14 = .ok (.iinc 2 1, 3) := by decide +kernel
theorem dJ7_fill_53178_17 : decode mJ7_fill_53178.2.1 17 = .ok (.goto (-12), 3) := by decide +kernel
theorem dJ7_fill_53178_20 : decode mJ7_fill_53178.2.1 20 = .ok (.return_, 1) := by decide +kernel

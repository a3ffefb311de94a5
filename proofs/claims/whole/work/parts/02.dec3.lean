def mX11_turn : String × ByteArray × Nat := (RX11, cX11_turn, 4)
theorem dX11_turn_0 : decode mX11_turn.2.1 0 = .ok (.iload_n 1, 1) := by decide +kernel
theorem dX11_turn_1 : decode mX11_turn.2.1 1 = .ok (.invokestatic 133, 3) := by decide +kernel
theorem dX11_turn_4 : decode mX11_turn.2.1 4 = .ok (.ifCond .ne 5, 3) := by decide +kernel
theorem dX11_turn_7 : decode mX11_turn.2.1 7 = .ok (.iconst (-1), 1) := by decide +kernel
theorem dX11_turn_8 : decode mX11_turn.2.1 8 = .ok (.ireturn, 1) := by decide +kernel
theorem dX11_turn_9 : decode mX11_turn.2.1 9 = .ok (.aload_n 0, 1) := by decide +kernel
theorem dX11_turn_10 : decode mX11_turn.2.1 10 = .ok (.getfield 9, 3) := by decide +kernel
theorem dX11_turn_13 : decode mX11_turn.2.1 13 = .ok (.iload_n 1, 1) := by decide +kernel
theorem dX11_turn_14 : decode mX11_turn.2.1 14 = .ok (.iaload, 1) := by decide +kernel
theorem dX11_turn_15 : decode mX11_turn.2.1 15 = .ok (.istore_n 2, 1) := by decide +kernel
theorem dX11_turn_16 : decode mX11_turn.2.1 16 = .ok (.iconst 0, 1) := by decide +kernel
theorem dX11_turn_17 : decode mX11_turn.2.1 17 = .ok (.istore_n 3, 1) := by decide +kernel
theorem dX11_turn_18 : decode mX11_turn.2.1 18 = .ok (.iload_n 3, 1) := by decide +kernel
theorem dX11_turn_19 : decode mX11_turn.2.1 19 = .ok (.iload_n 2, 1) := by decide +kernel
theorem dX11_turn_20 : decode mX11_turn.2.1 20 = .ok (.if_icmp .ge 32, 3) := by decide +kernel
theorem dX11_turn_23 : decode mX11_turn.2.1 23 = .ok (.aload_n 0, 1) := by decide +kernel
theorem dX11_turn_24 : decode mX11_turn.2.1 24 = .ok (.getfield 97, 3) := by decide +kernel
theorem dX11_turn_27 : decode mX11_turn.2.1 27 = .ok (.iload_n 3, 1) := by decide +kernel
theorem dX11_turn_28 : decode mX11_turn.2.1 28 = .ok (.iconst 1, 1) := by decide +kernel
theorem dX11_turn_29 : decode mX11_turn.2.1 29 = .ok (.aload_n 0, 1) := by decide +kernel
theorem dX11_turn_30 : decode mX11_turn.2.1 30 = .ok (.getfield 15, 3) := by decide +kernel
theorem dX11_turn_33 : decode mX11_turn.2.1 33 = .ok (.bipush 12, 2) := by decide +kernel
theorem dX11_turn_35 : decode mX11_turn.2.1 35 = .ok (.iload_n 1, 1) := by decide +kernel
theorem dX11_turn_36 : decode mX11_turn.2.1 36 = .ok (.imul, 1) := by decide +kernel
theorem dX11_turn_37 : decode mX11_turn.2.1 37 = .ok (.iload_n 2, 1) := by decide +kernel
theorem dX11_turn_38 : decode mX11_turn.2.1 38 = .ok (.iadd, 1) := by decide +kernel
theorem dX11_turn_39 : decode mX11_turn.2.1 39 = .ok (.iconst 1, 1) := by decide +kernel
theorem dX11_turn_40 : decode mX11_turn.2.1 40 = .ok (.isub, 1) := by decide +kernel
theorem dX11_turn_41 : decode mX11_turn.2.1 41 = .ok (.iload_n 3, 1) := by decide +kernel
theorem dX11_turn_42 : decode mX11_turn.2.1 42 = .ok (.isub, 1) := by decide +kernel
theorem dX11_turn_43 : decode mX11_turn.2.1 43 = .ok (.iaload, 1) := by decide +kernel
theorem dX11_turn_44 : decode mX11_turn.2.1 44 = .ok (.isub, 1) := by decide +kernel
theorem dX11_turn_45 : decode mX11_turn.2.1 45 = .ok (.iastore, 1) := by decide +kernel
theorem dX11_turn_46 : decode mX11_turn.2.1 46 = .ok (.iinc 3 1, 3) := by decide +kernel
theorem dX11_turn_49 : decode mX11_turn.2.1 49 = .ok (.goto (-31), 3) := by decide +kernel
theorem dX11_turn_52 : decode mX11_turn.2.1 52 = .ok (.iconst 0, 1) := by decide +kernel
theorem dX11_turn_53 : decode mX11_turn.2.1 53 = .ok (.istore_n 3, 1) := by decide +kernel
theorem dX11_turn_54 : decode mX11_turn.2.1 54 = .ok (.iload_n 3, 1) := by decide +kernel
theorem dX11_turn_55 : decode mX11_turn.2.1 55 = .ok (.iload_n 2, 1) := by decide +kernel
theorem dX11_turn_56 : decode mX11_turn.2.1 56 = .ok (.if_icmp .ge 26, 3) := by decide +kernel
theorem dX11_turn_59 : decode mX11_turn.2.1 59 = .ok (.aload_n 0, 1) := by decide +kernel
theorem dX11_turn_60 : decode mX11_turn.2.1 60 = .ok (.getfield 15, 3) := by decide +kernel
theorem dX11_turn_63 : decode mX11_turn.2.1 63 = .ok (.bipush 12, 2) := by decide +kernel
theorem dX11_turn_65 : decode mX11_turn.2.1 65 = .ok (.iload_n 1, 1) := by decide +kernel
theorem dX11_turn_66 : decode mX11_turn.2.1 66 = .ok (.imul, 1) := by decide +kernel
theorem dX11_turn_67 : decode mX11_turn.2.1 67 = .ok (.iload_n 3, 1) := by decide +kernel
theorem dX11_turn_68 : decode mX11_turn.2.1 68 = .ok (.iadd, 1) := by decide +kernel
theorem dX11_turn_69 : decode mX11_turn.2.1 69 = .ok (.aload_n 0, 1) := by decide +kernel
theorem dX11_turn_70 : decode mX11_turn.2.1 70 = .ok (.getfield 97, 3) := by decide +kernel
theorem dX11_turn_73 : decode mX11_turn.2.1 73 = .ok (.iload_n 3, 1) := by decide +kernel
theorem dX11_turn_74 : decode mX11_turn.2.1 74 = .ok (.iaload, 1) := by decide +kernel
theorem dX11_turn_75 : decode mX11_turn.2.1 75 = .ok (.iastore, 1) := by decide +kernel
theorem dX11_turn_76 : decode mX11_turn.2.1 76 = .ok (.iinc 3 1, 3) := by decide +kernel
theorem dX11_turn_79 : decode mX11_turn.2.1 79 = .ok (.goto (-25), 3) := by decide +kernel
theorem dX11_turn_82 : decode mX11_turn.2.1 82 = .ok (.iload_n 2, 1) := by decide +kernel
theorem dX11_turn_83 : decode mX11_turn.2.1 83 = .ok (.ireturn, 1) := by decide +kernel
def mX11_lettersU : String × ByteArray × Nat := (RX11, cX11_lettersU, 4)
theorem dX11_lettersU_0 : decode mX11_lettersU.2.1 0 = .ok (.iconst 0, 1) := by decide +kernel
theorem dX11_lettersU_1 : decode mX11_lettersU.2.1 1 = .ok (.istore_n 2, 1) := by decide +kernel
theorem dX11_lettersU_2 : decode mX11_lettersU.2.1 2 = .ok (.iconst 0, 1) := by decide +kernel
theorem dX11_lettersU_3 : decode mX11_lettersU.2.1 3 = .ok (.istore_n 3, 1) := by decide +kernel
theorem dX11_lettersU_4 : decode mX11_lettersU.2.1 4 = .ok (.iload_n 3, 1) := by decide +kernel
theorem dX11_lettersU_5 : decode mX11_lettersU.2.1 5 = .ok (.aload_n 0, 1) := by decide +kernel
theorem dX11_lettersU_6 : decode mX11_lettersU.2.1 6 = .ok (.getfield 9, 3) := by decide +kernel
theorem dX11_lettersU_9 : decode mX11_lettersU.2.1 9 = .ok (.iload_n 1, 1) := by decide +kernel
theorem dX11_lettersU_10 : decode mX11_lettersU.2.1 10 = .ok (.iaload, 1) := by decide +kernel
theorem dX11_lettersU_11 : decode mX11_lettersU.2.1 11 = .ok (.if_icmp .ge 31, 3) := by decide +kernel
theorem dX11_lettersU_14 : decode mX11_lettersU.2.1 14 = .ok (.iload_n 2, 1) := by decide +kernel
theorem dX11_lettersU_15 : decode mX11_lettersU.2.1 15 = .ok (.aload_n 0, 1) := by decide +kernel
theorem dX11_lettersU_16 : decode mX11_lettersU.2.1 16 = .ok (.getfield 15, 3) := by decide +kernel
theorem dX11_lettersU_19 : decode mX11_lettersU.2.1 19 = .ok (.bipush 12, 2) := by decide +kernel
theorem dX11_lettersU_21 : decode mX11_lettersU.2.1 21 = .ok (.iload_n 1, 1) := by decide +kernel
theorem dX11_lettersU_22 : decode mX11_lettersU.2.1 22 = .ok (.imul, 1) := by decide +kernel
theorem dX11_lettersU_23 : decode mX11_lettersU.2.1 23 = .ok (.iload_n 3, 1) := by decide +kernel
theorem dX11_lettersU_24 : decode mX11_lettersU.2.1 24 = .ok (.iadd, 1) := by decide +kernel
theorem dX11_lettersU_25 : decode mX11_lettersU.2.1 25 = .ok (.iaload, 1) := by decide +kernel
theorem dX11_lettersU_26 : decode mX11_lettersU.2.1 26 = .ok (.ifCond .ne 7, 3) := by decide +kernel
theorem dX11_lettersU_29 : decode mX11_lettersU.2.1 29 = .ok (.iconst 1, 1) := by decide +kernel
theorem dX11_lettersU_30 : decode mX11_lettersU.2.1 30 = .ok (.goto 4, 3) := by decide +kernel
theorem dX11_lettersU_33 : decode mX11_lettersU.2.1 33 = .ok (.iconst 0, 1) := by decide +kernel
theorem dX11_lettersU_34 : decode mX11_lettersU.2.1 34 = .ok (.iadd, 1) := by decide +kernel
theorem dX11_lettersU_35 : decode mX11_lettersU.2.1 35 = .ok (.istore_n 2, 1) := by decide +kernel
theorem dX11_lettersU_36 : decode mX11_lettersU.2.1 36 = .ok (.iinc 3 1, 3) := by decide +kernel
theorem dX11_lettersU_39 : decode mX11_lettersU.2.1 39 = .ok (.goto (-35), 3) := by decide +kernel
theorem dX11_lettersU_42 : decode mX11_lettersU.2.1 42 = .ok (.iload_n 2, 1) := by decide +kernel
theorem dX11_lettersU_43 : decode mX11_lettersU.2.1 43 = .ok (.ireturn, 1) := by decide +kernel
def mX11_word : String × ByteArray × Nat := (RX11, cX11_word, 3)
theorem dX11_word_0 : decode mX11_word.2.1 0 = .ok (.iload_n 1, 1) := by decide +kernel
theorem dX11_word_1 : decode mX11_word.2.1 1 = .ok (.invokestatic 133, 3) := by decide +kernel
theorem dX11_word_4 : decode mX11_word.2.1 4 = .ok (.ifCond .eq 9, 3) := by decide +kernel
theorem dX11_word_7 : decode mX11_word.2.1 7 = .ok (.iload_n 2, 1) := by decide +kernel
theorem dX11_word_8 : decode mX11_word.2.1 8 = .ok (.bipush (-2), 2) := by decide +kernel
theorem dX11_word_10 : decode mX11_word.2.1 10 = .ok (.if_icmp .ge 5, 3) := by decide +kernel
theorem dX11_word_13 : decode mX11_word.2.1 13 = .ok (.iconst (-1), 1) := by decide +kernel
theorem dX11_word_14 : decode mX11_word.2.1 14 = .ok (.ireturn, 1) := by decide +kernel
theorem dX11_word_15 : decode mX11_word.2.1 15 = .ok (.iload_n 2, 1) := by decide +kernel
theorem dX11_word_16 : decode mX11_word.2.1 16 = .ok (.ifCond .ge 23, 3) := by decide +kernel
theorem dX11_word_19 : decode mX11_word.2.1 19 = .ok (.iload_n 2, 1) := by decide +kernel
theorem dX11_word_20 : decode mX11_word.2.1 20 = .ok (.iconst (-1), 1) := by decide +kernel
theorem dX11_word_21 : decode mX11_word.2.1 21 = .ok (.if_icmp .ne 12, 3) := by decide +kernel
theorem dX11_word_24 : decode mX11_word.2.1 24 = .ok (.aload_n 0, 1) := by decide +kernel
theorem dX11_word_25 : decode mX11_word.2.1 25 = .ok (.getfield 9, 3) := by decide +kernel
theorem dX11_word_28 : decode mX11_word.2.1 28 = .ok (.iload_n 1, 1) := by decide +kernel
theorem dX11_word_29 : decode mX11_word.2.1 29 = .ok (.iaload, 1) := by decide +kernel
theorem dX11_word_30 : decode mX11_word.2.1 30 = .ok (.goto 8, 3) := by decide +kernel
theorem dX11_word_33 : decode mX11_word.2.1 33 = .ok (.aload_n 0, 1) := by decide +kernel
theorem dX11_word_34 : decode mX11_word.2.1 34 = .ok (.iload_n 1, 1) := by decide +kernel
theorem dX11_word_35 : decode mX11_word.2.1 35 = .ok (.invokevirtual 143, 3) := by decide +kernel
theorem dX11_word_38 : decode mX11_word.2.1 38 = .ok (.ireturn, 1) := by decide +kernel
theorem dX11_word_39 : decode mX11_word.2.1 39 = .ok (.iload_n 2, 1) := by decide +kernel
theorem dX11_word_40 : decode mX11_word.2.1 40 = .ok (.aload_n 0, 1) := by decide +kernel
theorem dX11_word_41 : decode mX11_word.2.1 41 = .ok (.getfield 9, 3) := by decide +kernel
theorem dX11_word_44 : decode mX11_word.2.1 44 = .ok (.iload_n 1, 1) := by decide +kernel
theorem dX11_word_45 : decode mX11_word.2.1 45 = .ok (.iaload, 1) := by decide +kernel
theorem dX11_word_46 : decode mX11_word.2.1 46 = .ok (.if_icmp .ge 17, 3) := by decide +kernel
theorem dX11_word_49 : decode mX11_word.2.1 49 = .ok (.aload_n 0, 1) := by decide +kernel
theorem dX11_word_50 : decode mX11_word.2.1 50 = .ok (.getfield 15, 3) := by decide +kernel
theorem dX11_word_53 : decode mX11_word.2.1 53 = .ok (.bipush 12, 2) := by decide +kernel
theorem dX11_word_55 : decode mX11_word.2.1 55 = .ok (.iload_n 1, 1) := by decide +kernel
theorem dX11_word_56 : decode mX11_word.2.1 56 = .ok (.imul, 1) := by decide +kernel
theorem dX11_word_57 : decode mX11_word.2.1 57 = .ok (.iload_n 2, 1) := by decide +kernel
theorem dX11_word_58 : decode mX11_word.2.1 58 = .ok (.iadd, 1) := by decide +kernel
theorem dX11_word_59 : decode mX11_word.2.1 59 = .ok (.iaload, 1) := by decide +kernel
theorem dX11_word_60 : decode mX11_word.2.1 60 = .ok (.goto 5, 3) := by decide +kernel
theorem dX11_word_63 : decode mX11_word.2.1 63 = .ok (.bipush (-5), 2) := by decide +kernel
theorem dX11_word_65 : decode mX11_word.2.1 65 = .ok (.ireturn, 1) := by decide +kernel
def mX11_acted : String × ByteArray × Nat := (RX11, cX11_acted, 8)
theorem dX11_acted_0 : decode mX11_acted.2.1 0 = .ok (.iload_n 1, 1) := by decide +kernel
theorem dX11_acted_1 : decode mX11_acted.2.1 1 = .ok (.invokestatic 133, 3) := by decide +kernel
theorem dX11_acted_4 : decode mX11_acted.2.1 4 = .ok (.ifCond .eq 25, 3) := by decide +kernel
theorem dX11_acted_7 : decode mX11_acted.2.1 7 = .ok (.iload_n 2, 1) := by decide +kernel
theorem dX11_acted_8 : decode mX11_acted.2.1 8 = .ok (.i2l, 1) := by decide +kernel
theorem dX11_acted_9 : decode mX11_acted.2.1 9 = .ok (.lconst 0, 1) := by decide +kernel
theorem dX11_acted_10 : decode mX11_acted.2.1 10 = .ok (.ldc2_w 147, 3) := by decide +kernel
theorem dX11_acted_13 : decode mX11_acted.2.1 13 = .ok (.invokestatic 129, 3) := by decide +kernel
theorem dX11_acted_16 : decode mX11_acted.2.1 16 = .ok (.ifCond .eq 13, 3) := by decide +kernel
theorem dX11_acted_19 : decode mX11_acted.2.1 19 = .ok (.iload_n 3, 1) := by decide +kernel
theorem dX11_acted_20 : decode mX11_acted.2.1 20 = .ok (.i2l, 1) := by decide +kernel
theorem dX11_acted_21 : decode mX11_acted.2.1 21 = .ok (.lconst 0, 1) := by decide +kernel
theorem dX11_acted_22 : decode mX11_acted.2.1 22 = .ok (.lconst 1, 1) := by decide +kernel
theorem dX11_acted_23 : decode mX11_acted.2.1 23 = .ok (.invokestatic 129, 3) := by decide +kernel
theorem dX11_acted_26 : decode mX11_acted.2.1 26 = .ok (.ifCond .ne 7, 3) := by decide +kernel
theorem dX11_acted_29 : decode mX11_acted.2.1 29 = .ok (.ldc2_w 149, 3) := by decide +kernel
theorem dX11_acted_32 : decode mX11_acted.2.1 32 = .ok (.lreturn, 1) := by decide +kernel
theorem dX11_acted_33 : decode mX11_acted.2.1 33 = .ok (.lconst 1, 1) := by decide +kernel
theorem dX11_acted_34 : decode mX11_acted.2.1 34 = .ok (.lstore 4, 2) := by decide +kernel
theorem dX11_acted_36 : decode mX11_acted.2.1 36 = .ok (.iload_n 2, 1) := by decide +kernel
theorem dX11_acted_37 : decode mX11_acted.2.1 37 = .ok (.istore 6, 2) := by decide +kernel
theorem dX11_acted_39 : decode mX11_acted.2.1 39 = .ok (.aload_n 0, 1) := by decide +kernel
theorem dX11_acted_40 : decode mX11_acted.2.1 40 = .ok (.getfield 9, 3) := by decide +kernel
theorem dX11_acted_43 : decode mX11_acted.2.1 43 = .ok (.iload_n 1, 1) := by decide +kernel
theorem dX11_acted_44 : decode mX11_acted.2.1 44 = .ok (.iaload, 1) := by decide +kernel
theorem dX11_acted_45 : decode mX11_acted.2.1 45 = .ok (.iconst 1, 1) := by decide +kernel
theorem dX11_acted_46 : decode mX11_acted.2.1 46 = .ok (.isub, 1) := by decide +kernel
theorem dX11_acted_47 : decode mX11_acted.2.1 47 = .ok (.istore 7, 2) := by decide +kernel
theorem dX11_acted_49 : decode mX11_acted.2.1 49 = .ok (.iload 7, 2) := by decide +kernel
theorem dX11_acted_51 : decode mX11_acted.2.1 51 = .ok (.ifCond .lt 53, 3) := by decide +kernel
theorem dX11_acted_54 : decode mX11_acted.2.1 54 = .ok (.aload_n 0, 1) := by decide +kernel
theorem dX11_acted_55 : decode mX11_acted.2.1 55 = .ok (.getfield 15, 3) := by decide +kernel
theorem dX11_acted_58 : decode mX11_acted.2.1 58 = .ok (.bipush 12, 2) := by decide +kernel
theorem dX11_acted_60 : decode mX11_acted.2.1 60 = .ok (.iload_n 1, 1) := by decide +kernel
theorem dX11_acted_61 : decode mX11_acted.2.1 61 = .ok (.imul, 1) := by decide +kernel
theorem dX11_acted_62 : decode mX11_acted.2.1 62 = .ok (.iload 7, 2) := by decide +kernel
theorem dX11_acted_64 : decode mX11_acted.2.1 64 = .ok (.iadd, 1) := by decide +kernel
theorem dX11_acted_65 : decode mX11_acted.2.1 65 = .ok (.iaload, 1) := by decide +kernel
theorem dX11_acted_66 : decode mX11_acted.2.1 66 = .ok (.ifCond .ne 9, 3) := by decide +kernel
theorem dX11_acted_69 : decode mX11_acted.2.1 69 = .ok (.iinc 6 1, 3) := by decide +kernel
theorem dX11_acted_72 : decode mX11_acted.2.1 72 = .ok (.goto 26, 3) := by decide +kernel
theorem dX11_acted_75 : decode mX11_acted.2.1 75 = .ok (.lload 4, 2) := by decide +kernel
theorem dX11_acted_77 : decode mX11_acted.2.1 77 = .ok (.iload 6, 2) := by decide +kernel
theorem dX11_acted_79 : decode mX11_acted.2.1 79 = .ok (.i2l, 1) := by decide +kernel
theorem dX11_acted_80 : decode mX11_acted.2.1 80 = .ok (.lmul, 1) := by decide +kernel
theorem dX11_acted_81 : decode mX11_acted.2.1 81 = .ok (.lstore 4, 2) := by decide +kernel
theorem dX11_acted_83 : decode mX11_acted.2.1 83 = .ok (.iload 6, 2) := by decide +kernel
theorem dX11_acted_85 : decode mX11_acted.2.1 85 = .ok (.iload 6, 2) := by decide +kernel
theorem dX11_acted_87 : decode mX11_acted.2.1 87 = .ok (.ifCond .le 7, 3) := by decide +kernel
theorem dX11_acted_90 : decode mX11_acted.2.1 90 = .ok (.iconst 1, 1) := by decide +kernel
theorem dX11_acted_91 : decode mX11_acted.2.1 91 = .ok (.goto 4, 3) := by decide +kernel
theorem dX11_acted_94 : decode mX11_acted.2.1 94 = .ok (.iconst 0, 1) := by decide +kernel
theorem dX11_acted_95 : decode mX11_acted.2.1 95 = .ok (.isub, 1) := by decide +kernel
theorem dX11_acted_96 : decode mX11_acted.2.1 96 = .ok (.istore 6, 2) := by decide +kernel
theorem dX11_acted_98 : decode mX11_acted.2.1 98 = .ok (.iinc 7 (-1), 3) := by decide +kernel
theorem dX11_acted_101 : decode mX11_acted.2.1 101 = .ok (.goto (-52), 3) := by decide +kernel
theorem dX11_acted_104 : decode mX11_acted.2.1 104 = .ok (.iload_n 3, 1) := by decide +kernel
theorem dX11_acted_105 : decode mX11_acted.2.1 105 = .ok (.ifCond .ne 8, 3) := by decide +kernel
theorem dX11_acted_108 : decode mX11_acted.2.1 108 = .ok (.lload 4, 2) := by decide +kernel
theorem dX11_acted_110 : decode mX11_acted.2.1 110 = .ok (.goto 6, 3) := by decide +kernel
theorem dX11_acted_113 : decode mX11_acted.2.1 113 = .ok (.iload 6, 2) := by decide +kernel
theorem dX11_acted_115 : decode mX11_acted.2.1 115 = .ok (.i2l, 1) := by decide +kernel
theorem dX11_acted_116 : decode mX11_acted.2.1 116 = .ok (.lreturn, 1) := by decide +kernel
def mX11_layOrders : String × ByteArray × Nat := (RX11, cX11_layOrders, 5)
theorem dX11_layOrders_0 : decode mX11_layOrders.2.1 0 = .ok (.iconst 0, 1) := by decide +kernel
theorem dX11_layOrders_1 : decode mX11_layOrders.2.1 1 = .ok (.istore_n 2, 1) := by decide +kernel
theorem dX11_layOrders_2 : decode mX11_layOrders.2.1 2 = .ok (.iconst 0, 1) := by decide +kernel
theorem dX11_layOrders_3 : decode mX11_layOrders.2.1 3 = .ok (.istore_n 3, 1) := by decide +kernel
theorem dX11_layOrders_4 : decode mX11_layOrders.2.1 4 = .ok (.iload_n 3, 1) := by decide +kernel
theorem dX11_layOrders_5 : decode mX11_layOrders.2.1 5 = .ok (.bipush 14, 2) := by decide +kernel
theorem dX11_layOrders_7 : decode mX11_layOrders.2.1 7 = .ok (.if_icmp .ge 24, 3) := by decide +kernel
theorem dX11_layOrders_10 : decode mX11_layOrders.2.1 10 = .ok (.aload_n 0, 1) := by decide +kernel
theorem dX11_layOrders_11 : decode mX11_layOrders.2.1 11 = .ok (.getfield 85, 3) := by decide +kernel
theorem dX11_layOrders_14 : decode mX11_layOrders.2.1 14 = .ok (.iload_n 3, 1) := by decide +kernel
theorem dX11_layOrders_15 : decode mX11_layOrders.2.1 15 = .ok (.iload_n 3, 1) := by decide +kernel
theorem dX11_layOrders_16 : decode mX11_layOrders.2.1 16 = .ok (.ifCond .ne 7, 3) := by decide +kernel
theorem dX11_layOrders_19 : decode mX11_layOrders.2.1 19 = .ok (.lconst 1, 1) := by decide +kernel
theorem dX11_layOrders_20 : decode mX11_layOrders.2.1 20 = .ok (.goto 4, 3) := by decide +kernel
theorem dX11_layOrders_23 : decode mX11_layOrders.2.1 23 = .ok (.lconst 0, 1) := by decide +kernel
theorem dX11_layOrders_24 : decode mX11_layOrders.2.1 24 = .ok (.lastore, 1) := by decide +kernel
theorem dX11_layOrders_25 : decode mX11_layOrders.2.1 25 = .ok (.iinc 3 1, 3) := by decide +kernel
theorem dX11_layOrders_28 : decode mX11_layOrders.2.1 28 = .ok (.goto (-24), 3) := by decide +kernel
theorem dX11_layOrders_31 : decode mX11_layOrders.2.1 31 = .ok (.iconst 0, 1) := by decide +kernel
theorem dX11_layOrders_32 : decode mX11_layOrders.2.1 32 = .ok (.istore_n 3, 1) := by decide +kernel
theorem dX11_layOrders_33 : decode mX11_layOrders.2.1 33 = .ok (.iload_n 3, 1) := by decide +kernel
theorem dX11_layOrders_34 : decode mX11_layOrders.2.1 34 = .ok (.aload_n 0, 1) := by decide +kernel
theorem dX11_layOrders_35 : decode mX11_layOrders.2.1 35 = .ok (.getfield 9, 3) := by decide +kernel
theorem dX11_layOrders_38 : decode mX11_layOrders.2.1 38 = .ok (.iload_n 1, 1) := by decide +kernel
theorem dX11_layOrders_39 : decode mX11_layOrders.2.1 39 = .ok (.iaload, 1) := by decide +kernel
theorem dX11_layOrders_40 : decode mX11_layOrders.2.1 40 = .ok (.if_icmp .ge 80, 3) := by decide +kernel
theorem dX11_layOrders_43 : decode mX11_layOrders.2.1 43 = .ok (.aload_n 0, 1) := by decide +kernel
theorem dX11_layOrders_44 : decode mX11_layOrders.2.1 44 = .ok (.getfield 15, 3) := by decide +kernel
theorem dX11_layOrders_47 : decode mX11_layOrders.2.1 47 = .ok (.bipush 12, 2) := by decide +kernel
theorem dX11_layOrders_49 : decode mX11_layOrders.2.1 49 = .ok (.iload_n 1, 1) := by decide +kernel
theorem dX11_layOrders_50 : decode mX11_layOrders.2.1 50 = .ok (.imul, 1) := by decide +kernel
theorem dX11_layOrders_51 : decode mX11_layOrders.2.1 51 = .ok (.iload_n 3, 1) := by decide +kernel
theorem dX11_layOrders_52 : decode mX11_layOrders.2.1 52 = .ok (.iadd, 1) := by decide +kernel
theorem dX11_layOrders_53 : decode mX11_layOrders.2.1 53 = .ok (.iaload, 1) := by decide +kernel
theorem dX11_layOrders_54 : decode mX11_layOrders.2.1 54 = .ok (.iconst 1, 1) := by decide +kernel
theorem dX11_layOrders_55 : decode mX11_layOrders.2.1 55 = .ok (.if_icmp .ne 9, 3) := by decide +kernel
theorem dX11_layOrders_58 : decode mX11_layOrders.2.1 58 = .ok (.iinc 2 1, 3) := by decide +kernel
theorem dX11_layOrders_61 : decode mX11_layOrders.2.1 61 = .ok (.goto 53, 3) := by decide +kernel
theorem dX11_layOrders_64 : decode mX11_layOrders.2.1 64 = .ok (.bipush 12, 2) := by decide +kernel
theorem dX11_layOrders_66 : decode mX11_layOrders.2.1 66 = .ok (.istore 4, 2) := by decide +kernel
theorem dX11_layOrders_68 : decode mX11_layOrders.2.1 68 = .ok (.iload 4, 2) := by decide +kernel
theorem dX11_layOrders_70 : decode mX11_layOrders.2.1 70 = .ok (.ifCond .lt 44, 3) := by decide +kernel
theorem dX11_layOrders_73 : decode mX11_layOrders.2.1 73 = .ok (.aload_n 0, 1) := by decide +kernel
theorem dX11_layOrders_74 : decode mX11_layOrders.2.1 74 = .ok (.getfield 85, 3) := by decide +kernel
theorem dX11_layOrders_77 : decode mX11_layOrders.2.1 77 = .ok (.iload 4, 2) := by decide +kernel
theorem dX11_layOrders_79 : decode mX11_layOrders.2.1 79 = .ok (.iconst 1, 1) := by decide +kernel
theorem dX11_layOrders_80 : decode mX11_layOrders.2.1 80 = .ok (.iadd, 1) := by decide +kernel
theorem dX11_layOrders_81 : decode mX11_layOrders.2.1 81 = .ok (.dup2, 1) := by decide +kernel
theorem dX11_layOrders_82 : decode mX11_layOrders.2.1 82 = .ok (.laload, 1) := by decide +kernel
theorem dX11_layOrders_83 : decode mX11_layOrders.2.1 83 = .ok (.iload 4, 2) := by decide +kernel
theorem dX11_layOrders_85 : decode mX11_layOrders.2.1 85 = .ok (.iload_n 2, 1) := by decide +kernel
theorem dX11_layOrders_86 : decode mX11_layOrders.2.1 86 = .ok (.if_icmp .ge 19, 3) := by decide +kernel
theorem dX11_layOrders_89 : decode mX11_layOrders.2.1 89 = .ok (.aload_n 0, 1) := by decide +kernel
theorem dX11_layOrders_90 : decode mX11_layOrders.2.1 90 = .ok (.getfield 85, 3) := by decide +kernel
theorem dX11_layOrders_93 : decode mX11_layOrders.2.1 93 = .ok (.iload 4, 2) := by decide +kernel
theorem dX11_layOrders_95 : decode mX11_layOrders.2.1 95 = .ok (.laload, 1) := by decide +kernel
theorem dX11_layOrders_96 : decode mX11_layOrders.2.1 96 = .ok (.iload_n 2, 1) := by decide +kernel
theorem dX11_layOrders_97 : decode mX11_layOrders.2.1 97 = .ok (.iload 4, 2) := by decide +kernel
theorem dX11_layOrders_99 : decode mX11_layOrders.2.1 99 = .ok (.isub, 1) := by decide +kernel
theorem dX11_layOrders_100 : decode mX11_layOrders.2.1 100 = .ok (.i2l, 1) := by decide +kernel
theorem dX11_layOrders_101 : decode mX11_layOrders.2.1 101 = .ok (.lmul, 1) := by decide +kernel
theorem dX11_layOrders_102 : decode mX11_layOrders.2.1 102 = .ok (.goto 4, 3) := by decide +kernel
theorem dX11_layOrders_105 : decode mX11_layOrders.2.1 105 = .ok (.lconst 0, 1) := by decide +kernel
theorem dX11_layOrders_106 : decode mX11_layOrders.2.1 106 = .ok (.ladd, 1) := by decide +kernel
theorem dX11_layOrders_107 : decode mX11_layOrders.2.1 107 = .ok (.lastore, 1) := by decide +kernel
theorem dX11_layOrders_108 : decode mX11_layOrders.2.1 108 = .ok (.iinc 4 (-1), 3) := by decide +kernel
theorem dX11_layOrders_111 : decode mX11_layOrders.2.1 111 = .ok (.goto (-43), 3) := by decide +kernel
theorem dX11_layOrders_114 : decode mX11_layOrders.2.1 114 = .ok (.iinc 3 1, 3) := by decide +kernel
theorem dX11_layOrders_117 : decode mX11_layOrders.2.1 117 = .ok (.goto (-84), 3) := by decide +kernel
theorem dX11_layOrders_120 : decode mX11_layOrders.2.1 120 = .ok (.return_, 1) := by decide +kernel
def mX11_order : String × ByteArray × Nat := (RX11, cX11_order, 3)
theorem dX11_order_0 : decode mX11_order.2.1 0 = .ok (.iload_n 1, 1) := by decide +kernel
theorem dX11_order_1 : decode mX11_order.2.1 1 = .ok (.invokestatic 133, 3) := by decide +kernel
theorem dX11_order_4 : decode mX11_order.2.1 4 = .ok (.ifCond .eq 7, 3) := by decide +kernel
theorem dX11_order_7 : decode mX11_order.2.1 7 = .ok (.iload_n 2, 1) := by decide +kernel
theorem dX11_order_8 : decode mX11_order.2.1 8 = .ok (.ifCond .ge 7, 3) := by decide +kernel
theorem dX11_order_11 : decode mX11_order.2.1 11 = .ok (.ldc2_w 149, 3) := by decide +kernel
theorem dX11_order_14 : decode mX11_order.2.1 14 = .ok (.lreturn, 1) := by decide +kernel
theorem dX11_order_15 : decode mX11_order.2.1 15 = .ok (.aload_n 0, 1) := by decide +kernel
theorem dX11_order_16 : decode mX11_order.2.1 16 = .ok (.iload_n 1, 1) := by decide +kernel
theorem dX11_order_17 : decode mX11_order.2.1 17 = .ok (.invokevirtual 151, 3) := by decide +kernel
theorem dX11_order_20 : decode mX11_order.2.1 20 = .ok (.iload_n 2, 1) := by decide +kernel
theorem dX11_order_21 : decode mX11_order.2.1 21 = .ok (.bipush 14, 2) := by decide +kernel
theorem dX11_order_23 : decode mX11_order.2.1 23 = .ok (.if_icmp .ge 12, 3) := by decide +kernel
theorem dX11_order_26 : decode mX11_order.2.1 26 = .ok (.aload_n 0, 1) := by decide +kernel
theorem dX11_order_27 : decode mX11_order.2.1 27 = .ok (.getfield 85, 3) := by decide +kernel
theorem dX11_order_30 : decode mX11_order.2.1 30 = .ok (.iload_n 2, 1) := by decide +kernel
theorem dX11_order_31 : decode mX11_order.2.1 31 = .ok (.laload, 1) := by decide +kernel
theorem dX11_order_32 : decode mX11_order.2.1 32 = .ok (.goto 4, 3) := by decide +kernel
theorem dX11_order_35 : decode mX11_order.2.1 35 = .ok (.lconst 0, 1) := by decide +kernel
theorem dX11_order_36 : decode mX11_order.2.1 36 = .ok (.lreturn, 1) := by decide +kernel
def mX11_numbersMany : String × ByteArray × Nat := (RX11, cX11_numbersMany, 3)
theorem dX11_numbersMany_0 : decode mX11_numbersMany.2.1 0 = .ok (.iconst 0, 1) := by decide +kernel
theorem dX11_numbersMany_1 : decode mX11_numbersMany.2.1 1 = .ok (.istore_n 1, 1) := by decide +kernel
theorem dX11_numbersMany_2 : decode mX11_numbersMany.2.1 2 = .ok (.iconst 0, 1) := by decide +kernel
theorem dX11_numbersMany_3 : decode mX11_numbersMany.2.1 3 = .ok (.istore_n 2, 1) := by decide +kernel
theorem dX11_numbersMany_4 : decode mX11_numbersMany.2.1 4 = .ok (.iload_n 2, 1) := by decide +kernel
theorem dX11_numbersMany_5 : decode mX11_numbersMany.2.1 5 = .ok (.sipush 169, 3) := by decide +kernel
theorem dX11_numbersMany_8 : decode mX11_numbersMany.2.1 8 = .ok (.if_icmp .ge 28, 3) := by decide +kernel
theorem dX11_numbersMany_11 : decode mX11_numbersMany.2.1 11 = .ok (.iload_n 1, 1) := by decide +kernel
theorem dX11_numbersMany_12 : decode mX11_numbersMany.2.1 12 = .ok (.aload_n 0, 1) := by decide +kernel
theorem dX11_numbersMany_13 : decode mX11_numbersMany.2.1 13 = .ok (.getfield 18, 3) := by decide +kernel
theorem dX11_numbersMany_16 : decode mX11_numbersMany.2.1 16 = .ok (.iload_n 2, 1) := by decide +kernel
theorem dX11_numbersMany_17 : decode mX11_numbersMany.2.1 17 = .ok (.laload, 1) := by decide +kernel
theorem dX11_numbersMany_18 : decode mX11_numbersMany.2.1 18 = .ok (.lconst 0, 1) := by decide +kernel
theorem dX11_numbersMany_19 : decode mX11_numbersMany.2.1 19 = .ok (.lcmp, 1) := by decide +kernel
theorem dX11_numbersMany_20 : decode mX11_numbersMany.2.1 20 = .ok (.ifCond .eq 7, 3) := by decide +kernel
theorem dX11_numbersMany_23 : decode mX11_numbersMany.2.1 23 = .ok (.iconst 1, 1) := by decide +kernel
theorem dX11_numbersMany_24 : decode mX11_numbersMany.2.1 24 = .ok (.goto 4, 3) := by decide +kernel
theorem dX11_numbersMany_27 : decode mX11_numbersMany.2.1 27 = .ok (.iconst 0, 1) := by decide +kernel
theorem dX11_numbersMany_28 : decode mX11_numbersMany.2.1 28 = .ok (.iadd, 1) := by decide +kernel
theorem dX11_numbersMany_29 : decode mX11_numbersMany.2.1 29 = .ok (.istore_n 1, 1) := by decide +kernel
theorem dX11_numbersMany_30 : decode mX11_numbersMany.2.1 30 = .ok (.iinc 2 1, 3) := by decide +kernel
theorem dX11_numbersMany_33 : decode mX11_numbersMany.2.1 33 = .ok (.goto (-29), 3) := by decide +kernel
theorem dX11_numbersMany_36 : decode mX11_numbersMany.2.1 36 = .ok (.iload_n 1, 1) := by decide +kernel
theorem dX11_numbersMany_37 : decode mX11_numbersMany.2.1 37 = .ok (.ireturn, 1) := by decide +kernel
def mX11_clear : String × ByteArray × Nat := (RX11, cX11_clear, 3)
theorem dX11_clear_0 : decode mX11_clear.2.1 0 = .ok (.aload_n 0, 1) := by decide +kernel
theorem dX11_clear_1 : decode mX11_clear.2.1 1 = .ok (.invokevirtual 155, 3) := by decide +kernel
theorem dX11_clear_4 : decode mX11_clear.2.1 4 = .ok (.istore_n 1, 1) := by decide +kernel
theorem dX11_clear_5 : decode mX11_clear.2.1 5 = .ok (.iconst 0, 1) := by decide +kernel
theorem dX11_clear_6 : decode mX11_clear.2.1 6 = .ok (.istore_n 2, 1) := by decide +kernel
theorem dX11_clear_7 : decode mX11_clear.2.1 7 = .ok (.iload_n 2, 1) := by decide +kernel
theorem dX11_clear_8 : decode mX11_clear.2.1 8 = .ok (.sipush 169, 3) := by decide +kernel
theorem dX11_clear_11 : decode mX11_clear.2.1 11 = .ok (.if_icmp .ge 16, 3) := by decide +kernel
theorem dX11_clear_14 : decode mX11_clear.2.1 14 = .ok (.aload_n 0, 1) := by decide +kernel
theorem dX11_clear_15 : decode mX11_clear.2.1 15 = .ok (.getfield 18, 3) := by decide +kernel
theorem dX11_clear_18 : decode mX11_clear.2.1 18 = .ok (.iload_n 2, 1) := by decide +kernel
theorem dX11_clear_19 : decode mX11_clear.2.1 19 = .ok (.lconst 0, 1) := by decide +kernel
theorem dX11_clear_20 : decode mX11_clear.2.1 20 = .ok (.lastore, 1) := by decide +kernel
theorem dX11_clear_21 : decode mX11_clear.2.1 21 = .ok (.iinc 2 1, 3) := by decide +kernel
theorem dX11_clear_24 : decode mX11_clear.2.1 24 = .ok (.goto (-17), 3) := by decide +kernel
theorem dX11_clear_27 : decode mX11_clear.2.1 27 = .ok (.iload_n 1, 1) := by decide +kernel
theorem dX11_clear_28 : decode mX11_clear.2.1 28 = .ok (.ireturn, 1) := by decide +kernel
def mX11_add : String × ByteArray × Nat := (RX11, cX11_add, 6)
theorem dX11_add_0 : decode mX11_add.2.1 0 = .ok (.iload_n 1, 1) := by decide +kernel
theorem dX11_add_1 : decode mX11_add.2.1 1 = .ok (.invokestatic 133, 3) := by decide +kernel
theorem dX11_add_4 : decode mX11_add.2.1 4 = .ok (.ifCond .ne 5, 3) := by decide +kernel
theorem dX11_add_7 : decode mX11_add.2.1 7 = .ok (.iconst (-1), 1) := by decide +kernel
theorem dX11_add_8 : decode mX11_add.2.1 8 = .ok (.ireturn, 1) := by decide +kernel
theorem dX11_add_9 : decode mX11_add.2.1 9 = .ok (.iload_n 2, 1) := by decide +kernel
theorem dX11_add_10 : decode mX11_add.2.1 10 = .ok (.i2l, 1) := by decide +kernel
theorem dX11_add_11 : decode mX11_add.2.1 11 = .ok (.ldc2_w 159, 3) := by decide +kernel
theorem dX11_add_14 : decode mX11_add.2.1 14 = .ok (.ldc2_w 161, 3) := by decide +kernel
theorem dX11_add_17 : decode mX11_add.2.1 17 = .ok (.invokestatic 129, 3) := by decide +kernel
theorem dX11_add_20 : decode mX11_add.2.1 20 = .ok (.ifCond .ne 6, 3) := by decide +kernel
theorem dX11_add_23 : decode mX11_add.2.1 23 = .ok (.bipush (-2), 2) := by decide +kernel
theorem dX11_add_25 : decode mX11_add.2.1 25 = .ok (.ireturn, 1) := by decide +kernel
theorem dX11_add_26 : decode mX11_add.2.1 26 = .ok (.aload_n 0, 1) := by decide +kernel
theorem dX11_add_27 : decode mX11_add.2.1 27 = .ok (.iload_n 1, 1) := by decide +kernel
theorem dX11_add_28 : decode mX11_add.2.1 28 = .ok (.invokevirtual 151, 3) := by decide +kernel
theorem dX11_add_31 : decode mX11_add.2.1 31 = .ok (.aload_n 0, 1) := by decide +kernel
theorem dX11_add_32 : decode mX11_add.2.1 32 = .ok (.iload_n 1, 1) := by decide +kernel
theorem dX11_add_33 : decode mX11_add.2.1 33 = .ok (.invokevirtual 143, 3) := by decide +kernel
theorem dX11_add_36 : decode mX11_add.2.1 36 = .ok (.istore_n 3, 1) := by decide +kernel
theorem dX11_add_37 : decode mX11_add.2.1 37 = .ok (.aload_n 0, 1) := by decide +kernel
theorem dX11_add_38 : decode mX11_add.2.1 38 = .ok (.getfield 9, 3) := by decide +kernel
theorem dX11_add_41 : decode mX11_add.2.1 41 = .ok (.iload_n 1, 1) := by decide +kernel
theorem dX11_add_42 : decode mX11_add.2.1 42 = .ok (.iaload, 1) := by decide +kernel
theorem dX11_add_43 : decode mX11_add.2.1 43 = .ok (.iload_n 3, 1) := by decide +kernel
theorem dX11_add_44 : decode mX11_add.2.1 44 = .ok (.isub, 1) := by decide +kernel
theorem dX11_add_45 : decode mX11_add.2.1 45 = .ok (.istore 4, 2) := by decide +kernel
theorem dX11_add_47 : decode mX11_add.2.1 47 = .ok (.iconst 0, 1) := by decide +kernel
theorem dX11_add_48 : decode mX11_add.2.1 48 = .ok (.istore 5, 2) := by decide +kernel
theorem dX11_add_50 : decode mX11_add.2.1 50 = .ok (.iload 5, 2) := by decide +kernel
theorem dX11_add_52 : decode mX11_add.2.1 52 = .ok (.iload_n 3, 1) := by decide +kernel
theorem dX11_add_53 : decode mX11_add.2.1 53 = .ok (.if_icmp .gt 60, 3) := by decide +kernel
theorem dX11_add_56 : decode mX11_add.2.1 56 = .ok (.iload 5, 2) := by decide +kernel
theorem dX11_add_58 : decode mX11_add.2.1 58 = .ok (.iload 4, 2) := by decide +kernel
theorem dX11_add_60 : decode mX11_add.2.1 60 = .ok (.if_icmp .gt 53, 3) := by decide +kernel
theorem dX11_add_63 : decode mX11_add.2.1 63 = .ok (.aload_n 0, 1) := by decide +kernel
theorem dX11_add_64 : decode mX11_add.2.1 64 = .ok (.getfield 18, 3) := by decide +kernel
theorem dX11_add_67 : decode mX11_add.2.1 67 = .ok (.bipush 13, 2) := by decide +kernel
theorem dX11_add_69 : decode mX11_add.2.1 69 = .ok (.iload_n 3, 1) := by decide +kernel
theorem dX11_add_70 : decode mX11_add.2.1 70 = .ok (.iload 5, 2) := by decide +kernel
theorem dX11_add_72 : decode mX11_add.2.1 72 = .ok (.isub, 1) := by decide +kernel
theorem dX11_add_73 : decode mX11_add.2.1 73 = .ok (.imul, 1) := by decide +kernel
theorem dX11_add_74 : decode mX11_add.2.1 74 = .ok (.iload 4, 2) := by decide +kernel
theorem dX11_add_76 : decode mX11_add.2.1 76 = .ok (.iadd, 1) := by decide +kernel
theorem dX11_add_77 : decode mX11_add.2.1 77 = .ok (.iload 5, 2) := by decide +kernel
theorem dX11_add_79 : decode mX11_add.2.1 79 = .ok (.isub, 1) := by decide +kernel
theorem dX11_add_80 : decode mX11_add.2.1 80 = .ok (.laload, 1) := by decide +kernel
theorem dX11_add_81 : decode mX11_add.2.1 81 = .ok (.iload_n 2, 1) := by decide +kernel
theorem dX11_add_82 : decode mX11_add.2.1 82 = .ok (.i2l, 1) := by decide +kernel
theorem dX11_add_83 : decode mX11_add.2.1 83 = .ok (.aload_n 0, 1) := by decide +kernel
theorem dX11_add_84 : decode mX11_add.2.1 84 = .ok (.getfield 85, 3) := by decide +kernel
theorem dX11_add_87 : decode mX11_add.2.1 87 = .ok (.iload 5, 2) := by decide +kernel
theorem dX11_add_89 : decode mX11_add.2.1 89 = .ok (.laload, 1) := by decide +kernel
theorem dX11_add_90 : decode mX11_add.2.1 90 = .ok (.lmul, 1) := by decide +kernel
theorem dX11_add_91 : decode mX11_add.2.1 91 = .ok (.ladd, 1) := by decide +kernel
theorem dX11_add_92 : decode mX11_add.2.1 92 = .ok (.ldc2_w 163, 3) := by decide +kernel
theorem dX11_add_95 : decode mX11_add.2.1 95 = .ok (.ldc2_w 165, 3) := by decide +kernel
theorem dX11_add_98 : decode mX11_add.2.1 98 = .ok (.invokestatic 129, 3) := by decide +kernel
theorem dX11_add_101 : decode mX11_add.2.1 101 = .ok (.ifCond .ne 6, 3) := by decide +kernel
theorem dX11_add_104 : decode mX11_add.2.1 104 = .ok (.bipush (-6), 2) := by decide +kernel
theorem dX11_add_106 : decode mX11_add.2.1 106 = .ok (.ireturn, 1) := by decide +kernel
theorem dX11_add_107 : decode mX11_add.2.1 107 = .ok (.iinc 5 1, 3) := by decide +kernel
theorem dX11_add_110 : decode mX11_add.2.1 110 = .ok (.goto (-60), 3) := by decide +kernel
theorem dX11_add_113 : decode mX11_add.2.1 113 = .ok (.iconst 0, 1) := by decide +kernel
theorem dX11_add_114 : decode mX11_add.2.1 114 = .ok (.istore 5, 2) := by decide +kernel
theorem dX11_add_116 : decode mX11_add.2.1 116 = .ok (.iload 5, 2) := by decide +kernel
theorem dX11_add_118 : decode mX11_add.2.1 118 = .ok (.iload_n 3, 1) := by decide +kernel
theorem dX11_add_119 : decode mX11_add.2.1 119 = .ok (.if_icmp .gt 47, 3) := by decide +kernel
theorem dX11_add_122 : decode mX11_add.2.1 122 = .ok (.iload 5, 2) := by decide +kernel
theorem dX11_add_124 : decode mX11_add.2.1 124 = .ok (.iload 4, 2) := by decide +kernel
theorem dX11_add_126 : decode mX11_add.2.1 126 = .ok (.if_icmp .gt 40, 3) := by decide +kernel
theorem dX11_add_129 : decode mX11_add.2.1 129 = .ok (.aload_n 0, 1) := by decide +kernel
theorem dX11_add_130 : decode mX11_add.2.1 130 = .ok (.getfield 18, 3) := by decide +kernel
theorem dX11_add_133 : decode mX11_add.2.1 133 = .ok (.bipush 13, 2) := by decide +kernel
theorem dX11_add_135 : decode mX11_add.2.1 135 = .ok (.iload_n 3, 1) := by decide +kernel
theorem dX11_add_136 : decode mX11_add.2.1 136 = .ok (.iload 5, 2) := by decide +kernel
theorem dX11_add_138 : decode mX11_add.2.1 138 = .ok (.isub, 1) := by decide +kernel
theorem dX11_add_139 : decode mX11_add.2.1 139 = .ok (.imul, 1) := by decide +kernel
theorem dX11_add_140 : decode mX11_add.2.1 140 = .ok (.iload 4, 2) := by decide +kernel
theorem dX11_add_142 : decode mX11_add.2.1 142 = .ok (.iadd, 1) := by decide +kernel
theorem dX11_add_143 : decode mX11_add.2.1 143 = .ok (.iload 5, 2) := by decide +kernel
theorem dX11_add_145 : decode mX11_add.2.1 145 = .ok (.isub, 1) := by decide +kernel
theorem dX11_add_146 : decode mX11_add.2.1 146 = .ok (.dup2, 1) := by decide +kernel
theorem dX11_add_147 : decode mX11_add.2.1 147 = .ok (.laload, 1) := by decide +kernel
theorem dX11_add_148 : decode mX11_add.2.1 148 = .ok (.iload_n 2, 1) := by decide +kernel
theorem dX11_add_149 : decode mX11_add.2.1 149 = .ok (.i2l, 1) := by decide +kernel
theorem dX11_add_150 : decode mX11_add.2.1 150 = .ok (.aload_n 0, 1) := by decide +kernel
theorem dX11_add_151 : decode mX11_add.2.1 151 = .ok (.getfield 85, 3) := by decide +kernel
theorem dX11_add_154 : decode mX11_add.2.1 154 = .ok (.iload 5, 2) := by decide +kernel
theorem dX11_add_156 : decode mX11_add.2.1 156 = .ok (.laload, 1) := by decide +kernel
theorem dX11_add_157 : decode mX11_add.2.1 157 = .ok (.lmul, 1) := by decide +kernel
theorem dX11_add_158 : decode mX11_add.2.1 158 = .ok (.ladd, 1) := by decide +kernel
theorem dX11_add_159 : decode mX11_add.2.1 159 = .ok (.lastore, 1) := by decide +kernel
theorem dX11_add_160 : decode mX11_add.2.1 160 = .ok (.iinc 5 1, 3) := by decide +kernel
theorem dX11_add_163 : decode mX11_add.2.1 163 = .ok (.goto (-47), 3) := by decide +kernel
theorem dX11_add_166 : decode mX11_add.2.1 166 = .ok (.aload_n 0, 1) := by decide +kernel
theorem dX11_add_167 : decode mX11_add.2.1 167 = .ok (.invokevirtual 155, 3) := by decide +kernel
theorem dX11_add_170 : decode mX11_add.2.1 170 = .ok (.ireturn, 1) := by decide +kernel
def mX11_isTimes : String × ByteArray × Nat := (RX11, cX11_isTimes, 7)
theorem dX11_isTimes_0 : decode mX11_isTimes.2.1 0 = .ok (.iconst 0, 1) := by decide +kernel
theorem dX11_isTimes_1 : decode mX11_isTimes.2.1 1 = .ok (.istore_n 2, 1) := by decide +kernel
theorem dX11_isTimes_2 : decode mX11_isTimes.2.1 2 = .ok (.iload_n 2, 1) := by decide +kernel
theorem dX11_isTimes_3 : decode mX11_isTimes.2.1 3 = .ok (.sipush 196, 3) := by decide +kernel
theorem dX11_isTimes_6 : decode mX11_isTimes.2.1 6 = .ok (.if_icmp .ge 16, 3) := by decide +kernel
theorem dX11_isTimes_9 : decode mX11_isTimes.2.1 9 = .ok (.aload_n 0, 1) := by decide +kernel
theorem dX11_isTimes_10 : decode mX11_isTimes.2.1 10 = .ok (.getfield 91, 3) := by decide +kernel
theorem dX11_isTimes_13 : decode mX11_isTimes.2.1 13 = .ok (.iload_n 2, 1) := by decide +kernel
theorem dX11_isTimes_14 : decode mX11_isTimes.2.1 14 = .ok (.lconst 0, 1) := by decide +kernel
theorem dX11_isTimes_15 : decode mX11_isTimes.2.1 15 = .ok (.lastore, 1) := by decide +kernel
theorem dX11_isTimes_16 : decode mX11_isTimes.2.1 16 = .ok (.iinc 2 1, 3) := by decide +kernel
theorem dX11_isTimes_19 : decode mX11_isTimes.2.1 19 = .ok (.goto (-17), 3) := by decide +kernel
theorem dX11_isTimes_22 : decode mX11_isTimes.2.1 22 = .ok (.iconst 0, 1) := by decide +kernel
theorem dX11_isTimes_23 : decode mX11_isTimes.2.1 23 = .ok (.istore_n 2, 1) := by decide +kernel
theorem dX11_isTimes_24 : decode mX11_isTimes.2.1 24 = .ok (.iload_n 2, 1) := by decide +kernel
theorem dX11_isTimes_25 : decode mX11_isTimes.2.1 25 = .ok (.bipush 13, 2) := by decide +kernel
theorem dX11_isTimes_27 : decode mX11_isTimes.2.1 27 = .ok (.if_icmp .ge 105, 3) := by decide +kernel
theorem dX11_isTimes_30 : decode mX11_isTimes.2.1 30 = .ok (.iconst 0, 1) := by decide +kernel
theorem dX11_isTimes_31 : decode mX11_isTimes.2.1 31 = .ok (.istore_n 3, 1) := by decide +kernel
theorem dX11_isTimes_32 : decode mX11_isTimes.2.1 32 = .ok (.iload_n 3, 1) := by decide +kernel
theorem dX11_isTimes_33 : decode mX11_isTimes.2.1 33 = .ok (.bipush 13, 2) := by decide +kernel
theorem dX11_isTimes_35 : decode mX11_isTimes.2.1 35 = .ok (.if_icmp .ge 91, 3) := by decide +kernel
theorem dX11_isTimes_38 : decode mX11_isTimes.2.1 38 = .ok (.aload_n 0, 1) := by decide +kernel
theorem dX11_isTimes_39 : decode mX11_isTimes.2.1 39 = .ok (.getfield 88, 3) := by decide +kernel
theorem dX11_isTimes_42 : decode mX11_isTimes.2.1 42 = .ok (.bipush 14, 2) := by decide +kernel
theorem dX11_isTimes_44 : decode mX11_isTimes.2.1 44 = .ok (.iload_n 2, 1) := by decide +kernel
theorem dX11_isTimes_45 : decode mX11_isTimes.2.1 45 = .ok (.imul, 1) := by decide +kernel
theorem dX11_isTimes_46 : decode mX11_isTimes.2.1 46 = .ok (.iload_n 3, 1) := by decide +kernel
theorem dX11_isTimes_47 : decode mX11_isTimes.2.1 47 = .ok (.iadd, 1) := by decide +kernel
theorem dX11_isTimes_48 : decode mX11_isTimes.2.1 48 = .ok (.laload, 1) := by decide +kernel
theorem dX11_isTimes_49 : decode mX11_isTimes.2.1 49 = .ok (.lstore 4, 2) := by decide +kernel
theorem dX11_isTimes_51 : decode mX11_isTimes.2.1 51 = .ok (.iload_n 1, 1) := by decide +kernel
theorem dX11_isTimes_52 : decode mX11_isTimes.2.1 52 = .ok (.iconst 1, 1) := by decide +kernel
theorem dX11_isTimes_53 : decode mX11_isTimes.2.1 53 = .ok (.if_icmp .ne 24, 3) := by decide +kernel
theorem dX11_isTimes_56 : decode mX11_isTimes.2.1 56 = .ok (.aload_n 0, 1) := by decide +kernel
theorem dX11_isTimes_57 : decode mX11_isTimes.2.1 57 = .ok (.getfield 91, 3) := by decide +kernel
theorem dX11_isTimes_60 : decode mX11_isTimes.2.1 60 = .ok (.bipush 14, 2) := by decide +kernel
theorem dX11_isTimes_62 : decode mX11_isTimes.2.1 62 = .ok (.iload_n 2, 1) := by decide +kernel
theorem dX11_isTimes_63 : decode mX11_isTimes.2.1 63 = .ok (.imul, 1) := by decide +kernel
theorem dX11_isTimes_64 : decode mX11_isTimes.2.1 64 = .ok (.iload_n 3, 1) := by decide +kernel
theorem dX11_isTimes_65 : decode mX11_isTimes.2.1 65 = .ok (.iadd, 1) := by decide +kernel
theorem dX11_isTimes_66 : decode mX11_isTimes.2.1 66 = .ok (.iconst 1, 1) := by decide +kernel
theorem dX11_isTimes_67 : decode mX11_isTimes.2.1 67 = .ok (.iadd, 1) := by decide +kernel
theorem dX11_isTimes_68 : decode mX11_isTimes.2.1 68 = .ok (.dup2, 1) := by decide +kernel
theorem dX11_isTimes_69 : decode mX11_isTimes.2.1 69 = .ok (.laload, 1) := by decide +kernel
theorem dX11_isTimes_70 : decode mX11_isTimes.2.1 70 = .ok (.lload 4, 2) := by decide +kernel
theorem dX11_isTimes_72 : decode mX11_isTimes.2.1 72 = .ok (.ladd, 1) := by decide +kernel
theorem dX11_isTimes_73 : decode mX11_isTimes.2.1 73 = .ok (.lastore, 1) := by decide +kernel
theorem dX11_isTimes_74 : decode mX11_isTimes.2.1 74 = .ok (.goto 46, 3) := by decide +kernel
theorem dX11_isTimes_77 : decode mX11_isTimes.2.1 77 = .ok (.aload_n 0, 1) := by decide +kernel
theorem dX11_isTimes_78 : decode mX11_isTimes.2.1 78 = .ok (.getfield 91, 3) := by decide +kernel
theorem dX11_isTimes_81 : decode mX11_isTimes.2.1 81 = .ok (.bipush 14, 2) := by decide +kernel
theorem dX11_isTimes_83 : decode mX11_isTimes.2.1 83 = .ok (.iload_n 2, 1) := by decide +kernel
theorem dX11_isTimes_84 : decode mX11_isTimes.2.1 84 = .ok (.iconst 1, 1) := by decide +kernel
theorem dX11_isTimes_85 : decode mX11_isTimes.2.1 85 = .ok (.iadd, 1) := by decide +kernel
theorem dX11_isTimes_86 : decode mX11_isTimes.2.1 86 = .ok (.imul, 1) := by decide +kernel
theorem dX11_isTimes_87 : decode mX11_isTimes.2.1 87 = .ok (.iload_n 3, 1) := by decide +kernel
theorem dX11_isTimes_88 : decode mX11_isTimes.2.1 88 = .ok (.iadd, 1) := by decide +kernel
theorem dX11_isTimes_89 : decode mX11_isTimes.2.1 89 = .ok (.dup2, 1) := by decide +kernel
theorem dX11_isTimes_90 : decode mX11_isTimes.2.1 90 = .ok (.laload, 1) := by decide +kernel
theorem dX11_isTimes_91 : decode mX11_isTimes.2.1 91 = .ok (.lload 4, 2) := by decide +kernel
theorem dX11_isTimes_93 : decode mX11_isTimes.2.1 93 = .ok (.ladd, 1) := by decide +kernel
theorem dX11_isTimes_94 : decode mX11_isTimes.2.1 94 = .ok (.lastore, 1) := by decide +kernel
theorem dX11_isTimes_95 : decode mX11_isTimes.2.1 95 = .ok (.iload_n 3, 1) := by decide +kernel
theorem dX11_isTimes_96 : decode mX11_isTimes.2.1 96 = .ok (.ifCond .le 24, 3) := by decide +kernel
theorem dX11_isTimes_99 : decode mX11_isTimes.2.1 99 = .ok (.aload_n 0, 1) := by decide +kernel
theorem dX11_isTimes_100 : decode mX11_isTimes.2.1 100 = .ok (.getfield 91, 3) := by decide +kernel
theorem dX11_isTimes_103 : decode mX11_isTimes.2.1 103 = .ok (.bipush 14, 2) := by decide +kernel
theorem dX11_isTimes_105 : decode mX11_isTimes.2.1 105 = .ok (.iload_n 2, 1) := by decide +kernel
theorem dX11_isTimes_106 : decode mX11_isTimes.2.1 106 = .ok (.imul, 1) := by decide +kernel
theorem dX11_isTimes_107 : decode mX11_isTimes.2.1 107 = .ok (.iload_n 3, 1) := by decide +kernel
theorem dX11_isTimes_108 : decode mX11_isTimes.2.1 108 = .ok (.iadd, 1) := by decide +kernel
theorem dX11_isTimes_109 : decode mX11_isTimes.2.1 109 = .ok (.iconst 1, 1) := by decide +kernel
theorem dX11_isTimes_110 : decode mX11_isTimes.2.1 110 = .ok (.isub, 1) := by decide +kernel
theorem dX11_isTimes_111 : decode mX11_isTimes.2.1 111 = .ok (.dup2, 1) := by decide +kernel
theorem dX11_isTimes_112 : decode mX11_isTimes.2.1 112 = .ok (.laload, 1) := by decide +kernel
theorem dX11_isTimes_113 : decode mX11_isTimes.2.1 113 = .ok (.iload_n 3, 1) := by decide +kernel
theorem dX11_isTimes_114 : decode mX11_isTimes.2.1 114 = .ok (.i2l, 1) := by decide +kernel
theorem dX11_isTimes_115 : decode mX11_isTimes.2.1 115 = .ok (.lload 4, 2) := by decide +kernel
theorem dX11_isTimes_117 : decode mX11_isTimes.2.1 117 = .ok (.lmul, 1) := by decide +kernel
theorem dX11_isTimes_118 : decode mX11_isTimes.2.1 118 = .ok (.ladd, 1) := by decide +kernel
theorem dX11_isTimes_119 : decode mX11_isTimes.2.1 119 = .ok (.lastore, 1) := by decide +kernel
theorem dX11_isTimes_120 : decode mX11_isTimes.2.1 120 = .ok (.iinc 3 1, 3) := by decide +kernel
theorem dX11_isTimes_123 : decode mX11_isTimes.2.1 123 = .ok (.goto (-91), 3) := by decide +kernel
theorem dX11_isTimes_126 : decode mX11_isTimes.2.1 126 = .ok (.iinc 2 1, 3) := by decide +kernel
theorem dX11_isTimes_129 : decode mX11_isTimes.2.1 129 = .ok (.goto (-105), 3) := by decide +kernel
theorem dX11_isTimes_132 : decode mX11_isTimes.2.1 132 = .ok (.iconst 1, 1) := by decide +kernel
theorem dX11_isTimes_133 : decode mX11_isTimes.2.1 133 = .ok (.istore_n 2, 1) := by decide +kernel
theorem dX11_isTimes_134 : decode mX11_isTimes.2.1 134 = .ok (.iconst 0, 1) := by decide +kernel
theorem dX11_isTimes_135 : decode mX11_isTimes.2.1 135 = .ok (.istore_n 3, 1) := by decide +kernel
theorem dX11_isTimes_136 : decode mX11_isTimes.2.1 136 = .ok (.iload_n 3, 1) := by decide +kernel
theorem dX11_isTimes_137 : decode mX11_isTimes.2.1 137 = .ok (.bipush 14, 2) := by decide +kernel
theorem dX11_isTimes_139 : decode mX11_isTimes.2.1 139 = .ok (.if_icmp .ge 97, 3) := by decide +kernel
theorem dX11_isTimes_142 : decode mX11_isTimes.2.1 142 = .ok (.iconst 0, 1) := by decide +kernel
theorem dX11_isTimes_143 : decode mX11_isTimes.2.1 143 = .ok (.istore 4, 2) := by decide +kernel
theorem dX11_isTimes_145 : decode mX11_isTimes.2.1 145 = .ok (.iload 4, 2) := by decide +kernel
theorem dX11_isTimes_147 : decode mX11_isTimes.2.1 147 = .ok (.bipush 14, 2) := by decide +kernel
theorem dX11_isTimes_149 : decode mX11_isTimes.2.1 149 = .ok (.if_icmp .ge 81, 3) := by decide +kernel
theorem dX11_isTimes_152 : decode mX11_isTimes.2.1 152 = .ok (.aload_n 0, 1) := by decide +kernel
theorem dX11_isTimes_153 : decode mX11_isTimes.2.1 153 = .ok (.getfield 91, 3) := by decide +kernel
theorem dX11_isTimes_156 : decode mX11_isTimes.2.1 156 = .ok (.bipush 14, 2) := by decide +kernel
theorem dX11_isTimes_158 : decode mX11_isTimes.2.1 158 = .ok (.iload_n 3, 1) := by decide +kernel
theorem dX11_isTimes_159 : decode mX11_isTimes.2.1 159 = .ok (.imul, 1) := by decide +kernel
theorem dX11_isTimes_160 : decode mX11_isTimes.2.1 160 = .ok (.iload 4, 2) := by decide +kernel
theorem dX11_isTimes_162 : decode mX11_isTimes.2.1 162 = .ok (.iadd, 1) := by decide +kernel
theorem dX11_isTimes_163 : decode mX11_isTimes.2.1 163 = .ok (.laload, 1) := by decide +kernel
theorem dX11_isTimes_164 : decode mX11_isTimes.2.1 164 = .ok (.lstore 5, 2) := by decide +kernel
theorem dX11_isTimes_166 : decode mX11_isTimes.2.1 166 = .ok (.iload_n 2, 1) := by decide +kernel
theorem dX11_isTimes_167 : decode mX11_isTimes.2.1 167 = .ok (.ifCond .eq 41, 3) := by decide +kernel
theorem dX11_isTimes_170 : decode mX11_isTimes.2.1 170 = .ok (.lload 5, 2) := by decide +kernel
theorem dX11_isTimes_172 : decode mX11_isTimes.2.1 172 = .ok (.ldc2_w 163, 3) := by decide +kernel
theorem dX11_isTimes_175 : decode mX11_isTimes.2.1 175 = .ok (.ldc2_w 165, 3) := by decide +kernel
theorem dX11_isTimes_178 : decode mX11_isTimes.2.1 178 = .ok (.invokestatic 129, 3) := by decide +kernel
theorem dX11_isTimes_181 : decode mX11_isTimes.2.1 181 = .ok (.ifCond .eq 27, 3) := by decide +kernel
theorem dX11_isTimes_184 : decode mX11_isTimes.2.1 184 = .ok (.lload 5, 2) := by decide +kernel
theorem dX11_isTimes_186 : decode mX11_isTimes.2.1 186 = .ok (.lconst 0, 1) := by decide +kernel
theorem dX11_isTimes_187 : decode mX11_isTimes.2.1 187 = .ok (.lcmp, 1) := by decide +kernel
theorem dX11_isTimes_188 : decode mX11_isTimes.2.1 188 = .ok (.ifCond .eq 16, 3) := by decide +kernel
theorem dX11_isTimes_191 : decode mX11_isTimes.2.1 191 = .ok (.iload_n 3, 1) := by decide +kernel
theorem dX11_isTimes_192 : decode mX11_isTimes.2.1 192 = .ok (.bipush 13, 2) := by decide +kernel
theorem dX11_isTimes_194 : decode mX11_isTimes.2.1 194 = .ok (.if_icmp .ge 14, 3) := by decide +kernel
theorem dX11_isTimes_197 : decode mX11_isTimes.2.1 197 = .ok (.iload 4, 2) := by decide +kernel
theorem dX11_isTimes_199 : decode mX11_isTimes.2.1 199 = .ok (.bipush 13, 2) := by decide +kernel
theorem dX11_isTimes_201 : decode mX11_isTimes.2.1 201 = .ok (.if_icmp .ge 7, 3) := by decide +kernel
theorem dX11_isTimes_204 : decode mX11_isTimes.2.1 204 = .ok (.iconst 1, 1) := by decide +kernel
theorem dX11_isTimes_205 : decode mX11_isTimes.2.1 205 = .ok (.goto 4, 3) := by decide +kernel
theorem dX11_isTimes_208 : decode mX11_isTimes.2.1 208 = .ok (.iconst 0, 1) := by decide +kernel
theorem dX11_isTimes_209 : decode mX11_isTimes.2.1 209 = .ok (.istore_n 2, 1) := by decide +kernel
theorem dX11_isTimes_210 : decode mX11_isTimes.2.1 210 = .ok (.aload_n 0, 1) := by decide +kernel
theorem dX11_isTimes_211 : decode mX11_isTimes.2.1 211 = .ok (.getfield 88, 3) := by decide +kernel
theorem dX11_isTimes_214 : decode mX11_isTimes.2.1 214 = .ok (.bipush 14, 2) := by decide +kernel
theorem dX11_isTimes_216 : decode mX11_isTimes.2.1 216 = .ok (.iload_n 3, 1) := by decide +kernel
theorem dX11_isTimes_217 : decode mX11_isTimes.2.1 217 = .ok (.imul, 1) := by decide +kernel
theorem dX11_isTimes_218 : decode mX11_isTimes.2.1 218 = .ok (.iload 4, 2) := by decide +kernel
theorem dX11_isTimes_220 : decode mX11_isTimes.2.1 220 = .ok (.iadd, 1) := by decide +kernel
theorem dX11_isTimes_221 : decode mX11_isTimes.2.1 221 = .ok (.lload 5, 2) := by decide +kernel
theorem dX11_isTimes_223 : decode mX11_isTimes.2.1 223 = .ok (.lastore, 1) := by decide +kernel
theorem dX11_isTimes_224 : decode mX11_isTimes.2.1 224 = .ok (.iinc 4 1, 3) := by decide +kernel
theorem dX11_isTimes_227 : decode mX11_isTimes.2.1 227 = .ok (.goto (-82), 3) := by decide +kernel
theorem dX11_isTimes_230 : decode mX11_isTimes.2.1 230 = .ok (.iinc 3 1, 3) := by decide +kernel
theorem dX11_isTimes_233 : decode mX11_isTimes.2.1 233 = .ok (.goto (-97), 3) := by decide +kernel
theorem dX11_isTimes_236 : decode mX11_isTimes.2.1 236 = .ok (.iload_n 2, 1) := by decide +kernel
theorem dX11_isTimes_237 : decode mX11_isTimes.2.1 237 = .ok (.ireturn, 1) := by decide +kernel
def mX11_times : String × ByteArray × Nat := (RX11, cX11_times, 4)
theorem dX11_times_0 : decode mX11_times.2.1 0 = .ok (.iload_n 1, 1) := by decide +kernel
theorem dX11_times_1 : decode mX11_times.2.1 1 = .ok (.invokestatic 133, 3) := by decide +kernel
theorem dX11_times_4 : decode mX11_times.2.1 4 = .ok (.ifCond .ne 5, 3) := by decide +kernel
theorem dX11_times_7 : decode mX11_times.2.1 7 = .ok (.iconst (-1), 1) := by decide +kernel
theorem dX11_times_8 : decode mX11_times.2.1 8 = .ok (.ireturn, 1) := by decide +kernel
theorem dX11_times_9 : decode mX11_times.2.1 9 = .ok (.iconst 0, 1) := by decide +kernel
theorem dX11_times_10 : decode mX11_times.2.1 10 = .ok (.istore_n 2, 1) := by decide +kernel
theorem dX11_times_11 : decode mX11_times.2.1 11 = .ok (.iload_n 2, 1) := by decide +kernel
theorem dX11_times_12 : decode mX11_times.2.1 12 = .ok (.bipush 14, 2) := by decide +kernel
theorem dX11_times_14 : decode mX11_times.2.1 14 = .ok (.if_icmp .ge 61, 3) := by decide +kernel
theorem dX11_times_17 : decode mX11_times.2.1 17 = .ok (.iconst 0, 1) := by decide +kernel
theorem dX11_times_18 : decode mX11_times.2.1 18 = .ok (.istore_n 3, 1) := by decide +kernel
theorem dX11_times_19 : decode mX11_times.2.1 19 = .ok (.iload_n 3, 1) := by decide +kernel
theorem dX11_times_20 : decode mX11_times.2.1 20 = .ok (.bipush 14, 2) := by decide +kernel
theorem dX11_times_22 : decode mX11_times.2.1 22 = .ok (.if_icmp .ge 47, 3) := by decide +kernel
theorem dX11_times_25 : decode mX11_times.2.1 25 = .ok (.aload_n 0, 1) := by decide +kernel
theorem dX11_times_26 : decode mX11_times.2.1 26 = .ok (.getfield 88, 3) := by decide +kernel
theorem dX11_times_29 : decode mX11_times.2.1 29 = .ok (.bipush 14, 2) := by decide +kernel
theorem dX11_times_31 : decode mX11_times.2.1 31 = .ok (.iload_n 2, 1) := by decide +kernel
theorem dX11_times_32 : decode mX11_times.2.1 32 = .ok (.imul, 1) := by decide +kernel
theorem dX11_times_33 : decode mX11_times.2.1 33 = .ok (.iload_n 3, 1) := by decide +kernel
theorem dX11_times_34 : decode mX11_times.2.1 34 = .ok (.iadd, 1) := by decide +kernel
theorem dX11_times_35 : decode mX11_times.2.1 35 = .ok (.iload_n 2, 1) := by decide +kernel
theorem dX11_times_36 : decode mX11_times.2.1 36 = .ok (.bipush 13, 2) := by decide +kernel
theorem dX11_times_38 : decode mX11_times.2.1 38 = .ok (.if_icmp .ge 23, 3) := by decide +kernel
theorem dX11_times_41 : decode mX11_times.2.1 41 = .ok (.iload_n 3, 1) := by decide +kernel
theorem dX11_times_42 : decode mX11_times.2.1 42 = .ok (.bipush 13, 2) := by decide +kernel
theorem dX11_times_44 : decode mX11_times.2.1 44 = .ok (.if_icmp .ge 17, 3) := by decide +kernel
theorem dX11_times_47 : decode mX11_times.2.1 47 = .ok (.aload_n 0, 1) := by decide +kernel
theorem dX11_times_48 : decode mX11_times.2.1 48 = .ok (.getfield 18, 3) := by decide +kernel
theorem dX11_times_51 : decode mX11_times.2.1 51 = .ok (.bipush 13, 2) := by decide +kernel
theorem dX11_times_53 : decode mX11_times.2.1 53 = .ok (.iload_n 2, 1) := by decide +kernel
theorem dX11_times_54 : decode mX11_times.2.1 54 = .ok (.imul, 1) := by decide +kernel
theorem dX11_times_55 : decode mX11_times.2.1 55 = .ok (.iload_n 3, 1) := by decide +kernel
theorem dX11_times_56 : decode mX11_times.2.1 56 = .ok (.iadd, 1) := by decide +kernel
theorem dX11_times_57 : decode mX11_times.2.1 57 = .ok (.laload, 1) := by decide +kernel
theorem dX11_times_58 : decode mX11_times.2.1 58 = .ok (.goto 4, 3) := by decide +kernel
theorem dX11_times_61 : decode mX11_times.2.1 61 = .ok (.lconst 0, 1) := by decide +kernel
theorem dX11_times_62 : decode mX11_times.2.1 62 = .ok (.lastore, 1) := by decide +kernel
theorem dX11_times_63 : decode mX11_times.2.1 63 = .ok (.iinc 3 1, 3) := by decide +kernel
theorem dX11_times_66 : decode mX11_times.2.1 66 = .ok (.goto (-47), 3) := by decide +kernel
theorem dX11_times_69 : decode mX11_times.2.1 69 = .ok (.iinc 2 1, 3) := by decide +kernel
theorem dX11_times_72 : decode mX11_times.2.1 72 = .ok (.goto (-61), 3) := by decide +kernel
theorem dX11_times_75 : decode mX11_times.2.1 75 = .ok (.iconst 0, 1) := by decide +kernel
theorem dX11_times_76 : decode mX11_times.2.1 76 = .ok (.istore_n 2, 1) := by decide +kernel
theorem dX11_times_77 : decode mX11_times.2.1 77 = .ok (.iload_n 2, 1) := by decide +kernel
theorem dX11_times_78 : decode mX11_times.2.1 78 = .ok (.aload_n 0, 1) := by decide +kernel
theorem dX11_times_79 : decode mX11_times.2.1 79 = .ok (.getfield 9, 3) := by decide +kernel
theorem dX11_times_82 : decode mX11_times.2.1 82 = .ok (.iload_n 1, 1) := by decide +kernel
theorem dX11_times_83 : decode mX11_times.2.1 83 = .ok (.iaload, 1) := by decide +kernel
theorem dX11_times_84 : decode mX11_times.2.1 84 = .ok (.if_icmp .ge 30, 3) := by decide +kernel
theorem dX11_times_87 : decode mX11_times.2.1 87 = .ok (.aload_n 0, 1) := by decide +kernel
theorem dX11_times_88 : decode mX11_times.2.1 88 = .ok (.aload_n 0, 1) := by decide +kernel
theorem dX11_times_89 : decode mX11_times.2.1 89 = .ok (.getfield 15, 3) := by decide +kernel
theorem dX11_times_92 : decode mX11_times.2.1 92 = .ok (.bipush 12, 2) := by decide +kernel
theorem dX11_times_94 : decode mX11_times.2.1 94 = .ok (.iload_n 1, 1) := by decide +kernel
theorem dX11_times_95 : decode mX11_times.2.1 95 = .ok (.imul, 1) := by decide +kernel
theorem dX11_times_96 : decode mX11_times.2.1 96 = .ok (.iload_n 2, 1) := by decide +kernel
theorem dX11_times_97 : decode mX11_times.2.1 97 = .ok (.iadd, 1) := by decide +kernel
theorem dX11_times_98 : decode mX11_times.2.1 98 = .ok (.iaload, 1) := by decide +kernel
theorem dX11_times_99 : decode mX11_times.2.1 99 = .ok (.invokevirtual 167, 3) := by decide +kernel
theorem dX11_times_102 : decode mX11_times.2.1 102 = .ok (.ifCond .ne 6, 3) := by decide +kernel
theorem dX11_times_105 : decode mX11_times.2.1 105 = .ok (.bipush (-6), 2) := by decide +kernel
theorem dX11_times_107 : decode mX11_times.2.1 107 = .ok (.ireturn, 1) := by decide +kernel
theorem dX11_times_108 : decode mX11_times.2.1 108 = .ok (.iinc 2 1, 3) := by decide +kernel
theorem dX11_times_111 : decode mX11_times.2.1 111 = .ok (.goto (-34), 3) := by decide +kernel
theorem dX11_times_114 : decode mX11_times.2.1 114 = .ok (.iconst 0, 1) := by decide +kernel
theorem dX11_times_115 : decode mX11_times.2.1 115 = .ok (.istore_n 2, 1) := by decide +kernel
theorem dX11_times_116 : decode mX11_times.2.1 116 = .ok (.iload_n 2, 1) := by decide +kernel
theorem dX11_times_117 : decode mX11_times.2.1 117 = .ok (.bipush 13, 2) := by decide +kernel
theorem dX11_times_119 : decode mX11_times.2.1 119 = .ok (.if_icmp .ge 45, 3) := by decide +kernel
theorem dX11_times_122 : decode mX11_times.2.1 122 = .ok (.iconst 0, 1) := by decide +kernel
theorem dX11_times_123 : decode mX11_times.2.1 123 = .ok (.istore_n 3, 1) := by decide +kernel
theorem dX11_times_124 : decode mX11_times.2.1 124 = .ok (.iload_n 3, 1) := by decide +kernel
theorem dX11_times_125 : decode mX11_times.2.1 125 = .ok (.bipush 13, 2) := by decide +kernel
theorem dX11_times_127 : decode mX11_times.2.1 127 = .ok (.if_icmp .ge 31, 3) := by decide +kernel
theorem dX11_times_130 : decode mX11_times.2.1 130 = .ok (.aload_n 0, 1) := by decide +kernel
theorem dX11_times_131 : decode mX11_times.2.1 131 = .ok (.getfield 18, 3) := by decide +kernel
theorem dX11_times_134 : decode mX11_times.2.1 134 = .ok (.bipush 13, 2) := by decide +kernel
theorem dX11_times_136 : decode mX11_times.2.1 136 = .ok (.iload_n 2, 1) := by decide +kernel
theorem dX11_times_137 : decode mX11_times.2.1 137 = .ok (.imul, 1) := by decide +kernel
theorem dX11_times_138 : decode mX11_times.2.1 138 = .ok (.iload_n 3, 1) := by decide +kernel
theorem dX11_times_139 : decode mX11_times.2.1 139 = .ok (.iadd, 1) := by decide +kernel
theorem dX11_times_140 : decode mX11_times.2.1 140 = .ok (.aload_n 0, 1) := by decide +kernel
theorem dX11_times_141 : decode mX11_times.2.1 141 = .ok (.getfield 88, 3) := by decide +kernel
theorem dX11_times_144 : decode mX11_times.2.1 144 = .ok (.bipush 14, 2) := by decide +kernel
theorem dX11_times_146 : decode mX11_times.2.1 146 = .ok (.iload_n 2, 1) := by decide +kernel
theorem dX11_times_147 : decode mX11_times.2.1 147 = .ok (.imul, 1) := by decide +kernel
theorem dX11_times_148 : decode mX11_times.2.1 148 = .ok (.iload_n 3, 1) := by decide +kernel
theorem dX11_times_149 : decode mX11_times.2.1 149 = .ok (.iadd, 1) := by decide +kernel
theorem dX11_times_150 : decode mX11_times.2.1 150 = .ok (.laload, 1) := by decide +kernel
theorem dX11_times_151 : decode mX11_times.2.1 151 = .ok (.lastore, 1) := by decide +kernel
theorem dX11_times_152 : decode mX11_times.2.1 152 = .ok (.iinc 3 1, 3) := by decide +kernel
theorem dX11_times_155 : decode mX11_times.2.1 155 = .ok (.goto (-31), 3) := by decide +kernel
theorem dX11_times_158 : decode mX11_times.2.1 158 = .ok (.iinc 2 1, 3) := by decide +kernel
theorem dX11_times_161 : decode mX11_times.2.1 161 = .ok (.goto (-45), 3) := by decide +kernel
theorem dX11_times_164 : decode mX11_times.2.1 164 = .ok (.aload_n 0, 1) := by decide +kernel
theorem dX11_times_165 : decode mX11_times.2.1 165 = .ok (.invokevirtual 155, 3) := by decide +kernel
theorem dX11_times_168 : decode mX11_times.2.1 168 = .ok (.ireturn, 1) := by decide +kernel
def mX11_number : String × ByteArray × Nat := (RX11, cX11_number, 3)
theorem dX11_number_0 : decode mX11_number.2.1 0 = .ok (.iload_n 1, 1) := by decide +kernel
theorem dX11_number_1 : decode mX11_number.2.1 1 = .ok (.i2l, 1) := by decide +kernel
theorem dX11_number_2 : decode mX11_number.2.1 2 = .ok (.lconst 0, 1) := by decide +kernel
theorem dX11_number_3 : decode mX11_number.2.1 3 = .ok (.ldc2_w 170, 3) := by decide +kernel
theorem dX11_number_6 : decode mX11_number.2.1 6 = .ok (.invokestatic 129, 3) := by decide +kernel
theorem dX11_number_9 : decode mX11_number.2.1 9 = .ok (.ifCond .eq 29, 3) := by decide +kernel
theorem dX11_number_12 : decode mX11_number.2.1 12 = .ok (.iload_n 2, 1) := by decide +kernel
theorem dX11_number_13 : decode mX11_number.2.1 13 = .ok (.i2l, 1) := by decide +kernel
theorem dX11_number_14 : decode mX11_number.2.1 14 = .ok (.lconst 0, 1) := by decide +kernel
theorem dX11_number_15 : decode mX11_number.2.1 15 = .ok (.ldc2_w 170, 3) := by decide +kernel
theorem dX11_number_18 : decode mX11_number.2.1 18 = .ok (.invokestatic 129, 3) := by decide +kernel
theorem dX11_number_21 : decode mX11_number.2.1 21 = .ok (.ifCond .eq 17, 3) := by decide +kernel
theorem dX11_number_24 : decode mX11_number.2.1 24 = .ok (.aload_n 0, 1) := by decide +kernel
theorem dX11_number_25 : decode mX11_number.2.1 25 = .ok (.getfield 18, 3) := by decide +kernel
theorem dX11_number_28 : decode mX11_number.2.1 28 = .ok (.bipush 13, 2) := by decide +kernel
theorem dX11_number_30 : decode mX11_number.2.1 30 = .ok (.iload_n 1, 1) := by decide +kernel
theorem dX11_number_31 : decode mX11_number.2.1 31 = .ok (.imul, 1) := by decide +kernel
theorem dX11_number_32 : decode mX11_number.2.1 32 = .ok (.iload_n 2, 1) := by decide +kernel
theorem dX11_number_33 : decode mX11_number.2.1 33 = .ok (.iadd, 1) := by decide +kernel
theorem dX11_number_34 : decode mX11_number.2.1 34 = .ok (.laload, 1) := by decide +kernel
theorem dX11_number_35 : decode mX11_number.2.1 35 = .ok (.goto 4, 3) := by decide +kernel
theorem dX11_number_38 : decode mX11_number.2.1 38 = .ok (.lconst 0, 1) := by decide +kernel
theorem dX11_number_39 : decode mX11_number.2.1 39 = .ok (.lreturn, 1) := by decide +kernel
def mX11_ones : String × ByteArray × Nat := (RX11, cX11_ones, 3)
theorem dX11_ones_0 : decode mX11_ones.2.1 0 = .ok (.iconst 0, 1) := by decide +kernel
theorem dX11_ones_1 : decode mX11_ones.2.1 1 = .ok (.istore_n 1, 1) := by decide +kernel
theorem dX11_ones_2 : decode mX11_ones.2.1 2 = .ok (.iload_n 0, 1) := by decide +kernel
theorem dX11_ones_3 : decode mX11_ones.2.1 3 = .ok (.istore_n 2, 1) := by decide +kernel
theorem dX11_ones_4 : decode mX11_ones.2.1 4 = .ok (.iload_n 2, 1) := by decide +kernel
theorem dX11_ones_5 : decode mX11_ones.2.1 5 = .ok (.ifCond .le 16, 3) := by decide +kernel
theorem dX11_ones_8 : decode mX11_ones.2.1 8 = .ok (.iload_n 1, 1) := by decide +kernel
theorem dX11_ones_9 : decode mX11_ones.2.1 9 = .ok (.iload_n 2, 1) := by decide +kernel
theorem dX11_ones_10 : decode mX11_ones.2.1 10 = .ok (.iconst 2, 1) := by decide +kernel
theorem dX11_ones_11 : decode mX11_ones.2.1 11 = .ok (.irem, 1) := by decide +kernel
theorem dX11_ones_12 : decode mX11_ones.2.1 12 = .ok (.iadd, 1) := by decide +kernel
theorem dX11_ones_13 : decode mX11_ones.2.1 13 = .ok (.istore_n 1, 1) := by decide +kernel
theorem dX11_ones_14 : decode mX11_ones.2.1 14 = .ok (.iload_n 2, 1) := by decide +kernel
theorem dX11_ones_15 : decode mX11_ones.2.1 15 = .ok (.iconst 2, 1) := by decide +kernel
theorem dX11_ones_16 : decode mX11_ones.2.1 16 = .ok (.idiv, 1) := by decide +kernel
theorem dX11_ones_17 : decode mX11_ones.2.1 17 = .ok (.istore_n 2, 1) := by decide +kernel
theorem dX11_ones_18 : decode mX11_ones.2.1 18 = .ok (.goto (-14), 3) := by decide +kernel
theorem dX11_ones_21 : decode mX11_ones.2.1 21 = .ok (.iload_n 1, 1) := by decide +kernel
theorem dX11_ones_22 : decode mX11_ones.2.1 22 = .ok (.ireturn, 1) := by decide +kernel
def mX11_cells : String × ByteArray × Nat := (RX11, cX11_cells, 4)
theorem dX11_cells_0 : decode mX11_cells.2.1 0 = .ok (.iconst 0, 1) := by decide +kernel
theorem dX11_cells_1 : decode mX11_cells.2.1 1 = .ok (.istore_n 2, 1) := by decide +kernel
theorem dX11_cells_2 : decode mX11_cells.2.1 2 = .ok (.iconst 0, 1) := by decide +kernel
theorem dX11_cells_3 : decode mX11_cells.2.1 3 = .ok (.istore_n 3, 1) := by decide +kernel
theorem dX11_cells_4 : decode mX11_cells.2.1 4 = .ok (.iload_n 3, 1) := by decide +kernel
theorem dX11_cells_5 : decode mX11_cells.2.1 5 = .ok (.aload_n 0, 1) := by decide +kernel
theorem dX11_cells_6 : decode mX11_cells.2.1 6 = .ok (.getfield 22, 3) := by decide +kernel
theorem dX11_cells_9 : decode mX11_cells.2.1 9 = .ok (.iload_n 1, 1) := by decide +kernel
theorem dX11_cells_10 : decode mX11_cells.2.1 10 = .ok (.iaload, 1) := by decide +kernel
theorem dX11_cells_11 : decode mX11_cells.2.1 11 = .ok (.if_icmp .ge 26, 3) := by decide +kernel
theorem dX11_cells_14 : decode mX11_cells.2.1 14 = .ok (.iload_n 2, 1) := by decide +kernel
theorem dX11_cells_15 : decode mX11_cells.2.1 15 = .ok (.aload_n 0, 1) := by decide +kernel
theorem dX11_cells_16 : decode mX11_cells.2.1 16 = .ok (.getfield 25, 3) := by decide +kernel
theorem dX11_cells_19 : decode mX11_cells.2.1 19 = .ok (.bipush 6, 2) := by decide +kernel
theorem dX11_cells_21 : decode mX11_cells.2.1 21 = .ok (.iload_n 1, 1) := by decide +kernel
theorem dX11_cells_22 : decode mX11_cells.2.1 22 = .ok (.imul, 1) := by decide +kernel
theorem dX11_cells_23 : decode mX11_cells.2.1 23 = .ok (.iload_n 3, 1) := by decide +kernel
theorem dX11_cells_24 : decode mX11_cells.2.1 24 = .ok (.iadd, 1) := by decide +kernel
theorem dX11_cells_25 : decode mX11_cells.2.1 25 = .ok (.iaload, 1) := by decide +kernel
theorem dX11_cells_26 : decode mX11_cells.2.1 26 = .ok (.invokestatic 172, 3) := by decide +kernel
theorem dX11_cells_29 : decode mX11_cells.2.1 29 = .ok (.iadd, 1) := by decide +kernel
theorem dX11_cells_30 : decode mX11_cells.2.1 30 = .ok (.istore_n 2, 1) := by decide +kernel
theorem dX11_cells_31 : decode mX11_cells.2.1 31 = .ok (.iinc 3 1, 3) := by decide +kernel
theorem dX11_cells_34 : decode mX11_cells.2.1 34 = .ok (.goto (-30), 3) := by decide +kernel
theorem dX11_cells_37 : decode mX11_cells.2.1 37 = .ok (.iload_n 2, 1) := by decide +kernel
theorem dX11_cells_38 : decode mX11_cells.2.1 38 = .ok (.ireturn, 1) := by decide +kernel
def mX11_has : String × ByteArray × Nat := (RX11, cX11_has, 4)
theorem dX11_has_0 : decode mX11_has.2.1 0 = .ok (.aload_n 0, 1) := by decide +kernel
theorem dX11_has_1 : decode mX11_has.2.1 1 = .ok (.getfield 25, 3) := by decide +kernel
theorem dX11_has_4 : decode mX11_has.2.1 4 = .ok (.bipush 6, 2) := by decide +kernel
theorem dX11_has_6 : decode mX11_has.2.1 6 = .ok (.iload_n 1, 1) := by decide +kernel
theorem dX11_has_7 : decode mX11_has.2.1 7 = .ok (.imul, 1) := by decide +kernel
theorem dX11_has_8 : decode mX11_has.2.1 8 = .ok (.iload_n 2, 1) := by decide +kernel
theorem dX11_has_9 : decode mX11_has.2.1 9 = .ok (.iadd, 1) := by decide +kernel
theorem dX11_has_10 : decode mX11_has.2.1 10 = .ok (.iaload, 1) := by decide +kernel
theorem dX11_has_11 : decode mX11_has.2.1 11 = .ok (.iload_n 3, 1) := by decide +kernel
theorem dX11_has_12 : decode mX11_has.2.1 12 = .ok (.ishr, 1) := by decide +kernel
theorem dX11_has_13 : decode mX11_has.2.1 13 = .ok (.iconst 1, 1) := by decide +kernel
theorem dX11_has_14 : decode mX11_has.2.1 14 = .ok (.iand, 1) := by decide +kernel
theorem dX11_has_15 : decode mX11_has.2.1 15 = .ok (.iconst 1, 1) := by decide +kernel
theorem dX11_has_16 : decode mX11_has.2.1 16 = .ok (.if_icmp .ne 7, 3) := by decide +kernel
theorem dX11_has_19 : decode mX11_has.2.1 19 = .ok (.iconst 1, 1) := by decide +kernel
theorem dX11_has_20 : decode mX11_has.2.1 20 = .ok (.goto 4, 3) := by decide +kernel
theorem dX11_has_23 : decode mX11_has.2.1 23 = .ok (.iconst 0, 1) := by decide +kernel
theorem dX11_has_24 : decode mX11_has.2.1 24 = .ok (.ireturn, 1) := by decide +kernel
def mX11_bare : String × ByteArray × Nat := (RX11, cX11_bare, 4)
theorem dX11_bare_0 : decode mX11_bare.2.1 0 = .ok (.aload_n 0, 1) := by decide +kernel
theorem dX11_bare_1 : decode mX11_bare.2.1 1 = .ok (.getfield 22, 3) := by decide +kernel
theorem dX11_bare_4 : decode mX11_bare.2.1 4 = .ok (.iload_n 1, 1) := by decide +kernel
theorem dX11_bare_5 : decode mX11_bare.2.1 5 = .ok (.iload_n 2, 1) := by decide +kernel
theorem dX11_bare_6 : decode mX11_bare.2.1 6 = .ok (.iastore, 1) := by decide +kernel
theorem dX11_bare_7 : decode mX11_bare.2.1 7 = .ok (.iconst 0, 1) := by decide +kernel
theorem dX11_bare_8 : decode mX11_bare.2.1 8 = .ok (.istore_n 3, 1) := by decide +kernel
theorem dX11_bare_9 : decode mX11_bare.2.1 9 = .ok (.iload_n 3, 1) := by decide +kernel
theorem dX11_bare_10 : decode mX11_bare.2.1 10 = .ok (.bipush 6, 2) := by decide +kernel
theorem dX11_bare_12 : decode mX11_bare.2.1 12 = .ok (.if_icmp .ge 21, 3) := by decide +kernel
theorem dX11_bare_15 : decode mX11_bare.2.1 15 = .ok (.aload_n 0, 1) := by decide +kernel
theorem dX11_bare_16 : decode mX11_bare.2.1 16 = .ok (.getfield 25, 3) := by decide +kernel
theorem dX11_bare_19 : decode mX11_bare.2.1 19 = .ok (.bipush 6, 2) := by decide +kernel
theorem dX11_bare_21 : decode mX11_bare.2.1 21 = .ok (.iload_n 1, 1) := by decide +kernel
theorem dX11_bare_22 : decode mX11_bare.2.1 22 = .ok (.imul, 1) := by decide +kernel
theorem dX11_bare_23 : decode mX11_bare.2.1 23 = .ok (.iload_n 3, 1) := by decide +kernel
theorem dX11_bare_24 : decode mX11_bare.2.1 24 = .ok (.iadd, 1) := by decide +kernel
theorem dX11_bare_25 : decode mX11_bare.2.1 25 = .ok (.iconst 0, 1) := by decide +kernel
theorem dX11_bare_26 : decode mX11_bare.2.1 26 = .ok (.iastore, 1) := by decide +kernel
theorem dX11_bare_27 : decode mX11_bare.2.1 27 = .ok (.iinc 3 1, 3) := by decide +kernel
theorem dX11_bare_30 : decode mX11_bare.2.1 30 = .ok (.goto (-21), 3) := by decide +kernel
theorem dX11_bare_33 : decode mX11_bare.2.1 33 = .ok (.aload_n 0, 1) := by decide +kernel
theorem dX11_bare_34 : decode mX11_bare.2.1 34 = .ok (.iconst 0, 1) := by decide +kernel
theorem dX11_bare_35 : decode mX11_bare.2.1 35 = .ok (.putfield 175, 3) := by decide +kernel
theorem dX11_bare_38 : decode mX11_bare.2.1 38 = .ok (.return_, 1) := by decide +kernel
def mX11_side : String × ByteArray × Nat := (RX11, cX11_side, 4)
theorem dX11_side_0 : decode mX11_side.2.1 0 = .ok (.iload_n 1, 1) := by decide +kernel
theorem dX11_side_1 : decode mX11_side.2.1 1 = .ok (.invokestatic 133, 3) := by decide +kernel
theorem dX11_side_4 : decode mX11_side.2.1 4 = .ok (.ifCond .ne 5, 3) := by decide +kernel
theorem dX11_side_7 : decode mX11_side.2.1 7 = .ok (.iconst (-1), 1) := by decide +kernel
theorem dX11_side_8 : decode mX11_side.2.1 8 = .ok (.ireturn, 1) := by decide +kernel
theorem dX11_side_9 : decode mX11_side.2.1 9 = .ok (.iload_n 2, 1) := by decide +kernel
theorem dX11_side_10 : decode mX11_side.2.1 10 = .ok (.i2l, 1) := by decide +kernel
theorem dX11_side_11 : decode mX11_side.2.1 11 = .ok (.lconst 1, 1) := by decide +kernel
theorem dX11_side_12 : decode mX11_side.2.1 12 = .ok (.ldc2_w 137, 3) := by decide +kernel
theorem dX11_side_15 : decode mX11_side.2.1 15 = .ok (.invokestatic 129, 3) := by decide +kernel
theorem dX11_side_18 : decode mX11_side.2.1 18 = .ok (.ifCond .ne 6, 3) := by decide +kernel
theorem dX11_side_21 : decode mX11_side.2.1 21 = .ok (.bipush (-2), 2) := by decide +kernel
theorem dX11_side_23 : decode mX11_side.2.1 23 = .ok (.ireturn, 1) := by decide +kernel
theorem dX11_side_24 : decode mX11_side.2.1 24 = .ok (.aload_n 0, 1) := by decide +kernel
theorem dX11_side_25 : decode mX11_side.2.1 25 = .ok (.getfield 22, 3) := by decide +kernel
theorem dX11_side_28 : decode mX11_side.2.1 28 = .ok (.iload_n 1, 1) := by decide +kernel
theorem dX11_side_29 : decode mX11_side.2.1 29 = .ok (.iaload, 1) := by decide +kernel
theorem dX11_side_30 : decode mX11_side.2.1 30 = .ok (.istore_n 3, 1) := by decide +kernel
theorem dX11_side_31 : decode mX11_side.2.1 31 = .ok (.aload_n 0, 1) := by decide +kernel
theorem dX11_side_32 : decode mX11_side.2.1 32 = .ok (.iload_n 1, 1) := by decide +kernel
theorem dX11_side_33 : decode mX11_side.2.1 33 = .ok (.iload_n 2, 1) := by decide +kernel
theorem dX11_side_34 : decode mX11_side.2.1 34 = .ok (.invokevirtual 179, 3) := by decide +kernel
theorem dX11_side_37 : decode mX11_side.2.1 37 = .ok (.iload_n 3, 1) := by decide +kernel
theorem dX11_side_38 : decode mX11_side.2.1 38 = .ok (.ireturn, 1) := by decide +kernel
def mX11_keep : String × ByteArray × Nat := (RX11, cX11_keep, 5)
theorem dX11_keep_0 : decode mX11_keep.2.1 0 = .ok (.aload_n 0, 1) := by decide +kernel
theorem dX11_keep_1 : decode mX11_keep.2.1 1 = .ok (.getfield 175, 3) := by decide +kernel
theorem dX11_keep_4 : decode mX11_keep.2.1 4 = .ok (.bipush 10, 2) := by decide +kernel
theorem dX11_keep_6 : decode mX11_keep.2.1 6 = .ok (.if_icmp .ne 73, 3) := by decide +kernel
theorem dX11_keep_9 : decode mX11_keep.2.1 9 = .ok (.iconst 1, 1) := by decide +kernel
theorem dX11_keep_10 : decode mX11_keep.2.1 10 = .ok (.istore 4, 2) := by decide +kernel
theorem dX11_keep_12 : decode mX11_keep.2.1 12 = .ok (.iload 4, 2) := by decide +kernel
theorem dX11_keep_14 : decode mX11_keep.2.1 14 = .ok (.bipush 10, 2) := by decide +kernel
theorem dX11_keep_16 : decode mX11_keep.2.1 16 = .ok (.if_icmp .ge 57, 3) := by decide +kernel
theorem dX11_keep_19 : decode mX11_keep.2.1 19 = .ok (.aload_n 0, 1) := by decide +kernel
theorem dX11_keep_20 : decode mX11_keep.2.1 20 = .ok (.getfield 37, 3) := by decide +kernel
theorem dX11_keep_23 : decode mX11_keep.2.1 23 = .ok (.iload 4, 2) := by decide +kernel
theorem dX11_keep_25 : decode mX11_keep.2.1 25 = .ok (.iconst 1, 1) := by decide +kernel
theorem dX11_keep_26 : decode mX11_keep.2.1 26 = .ok (.isub, 1) := by decide +kernel
theorem dX11_keep_27 : decode mX11_keep.2.1 27 = .ok (.aload_n 0, 1) := by decide +kernel
theorem dX11_keep_28 : decode mX11_keep.2.1 28 = .ok (.getfield 37, 3) := by decide +kernel
theorem dX11_keep_31 : decode mX11_keep.2.1 31 = .ok (.iload 4, 2) := by decide +kernel
theorem dX11_keep_33 : decode mX11_keep.2.1 33 = .ok (.iaload, 1) := by decide +kernel
theorem dX11_keep_34 : decode mX11_keep.2.1 34 = .ok (.iastore, 1) := by decide +kernel
theorem dX11_keep_35 : decode mX11_keep.2.1 35 = .ok (.aload_n 0, 1) := by decide +kernel
theorem dX11_keep_36 : decode mX11_keep.2.1 36 = .ok (.getfield 40, 3) := by decide +kernel
theorem dX11_keep_39 : decode mX11_keep.2.1 39 = .ok (.iload 4, 2) := by decide +kernel
theorem dX11_keep_41 : decode mX11_keep.2.1 41 = .ok (.iconst 1, 1) := by decide +kernel
theorem dX11_keep_42 : decode mX11_keep.2.1 42 = .ok (.isub, 1) := by decide +kernel
theorem dX11_keep_43 : decode mX11_keep.2.1 43 = .ok (.aload_n 0, 1) := by decide +kernel
theorem dX11_keep_44 : decode mX11_keep.2.1 44 = .ok (.getfield 40, 3) := by decide +kernel
theorem dX11_keep_47 : decode mX11_keep.2.1 47 = .ok (.iload 4, 2) := by decide +kernel
theorem dX11_keep_49 : decode mX11_keep.2.1 49 = .ok (.iaload, 1) := by decide +kernel
theorem dX11_keep_50 : decode mX11_keep.2.1 50 = .ok (.iastore, 1) := by decide +kernel
theorem dX11_keep_51 : decode mX11_keep.2.1 51 = .ok (.aload_n 0, 1) := by decide +kernel
theorem dX11_keep_52 : decode mX11_keep.2.1 52 = .ok (.getfield 43, 3) := by decide +kernel
theorem dX11_keep_55 : decode mX11_keep.2.1 55 = .ok (.iload 4, 2) := by decide +kernel
theorem dX11_keep_57 : decode mX11_keep.2.1 57 = .ok (.iconst 1, 1) := by decide +kernel
theorem dX11_keep_58 : decode mX11_keep.2.1 58 = .ok (.isub, 1) := by decide +kernel
theorem dX11_keep_59 : decode mX11_keep.2.1 59 = .ok (.aload_n 0, 1) := by decide +kernel
theorem dX11_keep_60 : decode mX11_keep.2.1 60 = .ok (.getfield 43, 3) := by decide +kernel
theorem dX11_keep_63 : decode mX11_keep.2.1 63 = .ok (.iload 4, 2) := by decide +kernel
theorem dX11_keep_65 : decode mX11_keep.2.1 65 = .ok (.iaload, 1) := by decide +kernel
theorem dX11_keep_66 : decode mX11_keep.2.1 66 = .ok (.iastore, 1) := by decide +kernel
theorem dX11_keep_67 : decode mX11_keep.2.1 67 = .ok (.iinc 4 1, 3) := by decide +kernel
theorem dX11_keep_70 : decode mX11_keep.2.1 70 = .ok (.goto (-58), 3) := by decide +kernel
theorem dX11_keep_73 : decode mX11_keep.2.1 73 = .ok (.aload_n 0, 1) := by decide +kernel
theorem dX11_keep_74 : decode mX11_keep.2.1 74 = .ok (.bipush 9, 2) := by decide +kernel
theorem dX11_keep_76 : decode mX11_keep.2.1 76 = .ok (.putfield 175, 3) := by decide +kernel
theorem dX11_keep_79 : decode mX11_keep.2.1 79 = .ok (.aload_n 0, 1) := by decide +kernel
theorem dX11_keep_80 : decode mX11_keep.2.1 80 = .ok (.getfield 37, 3) := by decide +kernel
theorem dX11_keep_83 : decode mX11_keep.2.1 83 = .ok (.aload_n 0, 1) := by decide +kernel
theorem dX11_keep_84 : decode mX11_keep.2.1 84 = .ok (.getfield 175, 3) := by decide +kernel
theorem dX11_keep_87 : decode mX11_keep.2.1 87 = .ok (.iload_n 1, 1) := by decide +kernel
theorem dX11_keep_88 : decode mX11_keep.2.1 88 = .ok (.iastore, 1) := by decide +kernel
theorem dX11_keep_89 : decode mX11_keep.2.1 89 = .ok (.aload_n 0, 1) := by decide +kernel
theorem dX11_keep_90 : decode mX11_keep.2.1 90 = .ok (.getfield 40, 3) := by decide +kernel
theorem dX11_keep_93 : decode mX11_keep.2.1 93 = .ok (.aload_n 0, 1) := by decide +kernel
theorem dX11_keep_94 : decode mX11_keep.2.1 94 = .ok (.getfield 175, 3) := by decide +kernel
theorem dX11_keep_97 : decode mX11_keep.2.1 97 = .ok (.iload_n 2, 1) := by decide +kernel
theorem dX11_keep_98 : decode mX11_keep.2.1 98 = .ok (.iastore, 1) := by decide +kernel
theorem dX11_keep_99 : decode mX11_keep.2.1 99 = .ok (.aload_n 0, 1) := by decide +kernel
theorem dX11_keep_100 : decode mX11_keep.2.1 100 = .ok (.getfield 43, 3) := by decide +kernel
theorem dX11_keep_103 : decode mX11_keep.2.1 103 = .ok (.aload_n 0, 1) := by decide +kernel
theorem dX11_keep_104 : decode mX11_keep.2.1 104 = .ok (.getfield 175, 3) := by decide +kernel
theorem dX11_keep_107 : decode mX11_keep.2.1 107 = .ok (.iload_n 3, 1) := by decide +kernel
theorem dX11_keep_108 : decode mX11_keep.2.1 108 = .ok (.iastore, 1) := by decide +kernel
theorem dX11_keep_109 : decode mX11_keep.2.1 109 = .ok (.aload_n 0, 1) := by decide +kernel
theorem dX11_keep_110 : decode mX11_keep.2.1 110 = .ok (.dup, 1) := by decide +kernel
theorem dX11_keep_111 : decode mX11_keep.2.1 111 = .ok (.getfield 175, 3) := by decide +kernel
theorem dX11_keep_114 : decode mX11_keep.2.1 114 = .ok (.iconst 1, 1) := by decide +kernel
theorem dX11_keep_115 : decode mX11_keep.2.1 115 = .ok (.iadd, 1) := by decide +kernel
theorem dX11_keep_116 : decode mX11_keep.2.1 116 = .ok (.putfield 175, 3) := by decide +kernel
theorem dX11_keep_119 : decode mX11_keep.2.1 119 = .ok (.return_, 1) := by decide +kernel
def mX11_cell : String × ByteArray × Nat := (RX11, cX11_cell, 4)
theorem dX11_cell_0 : decode mX11_cell.2.1 0 = .ok (.iload_n 1, 1) := by decide +kernel
theorem dX11_cell_1 : decode mX11_cell.2.1 1 = .ok (.invokestatic 133, 3) := by decide +kernel
theorem dX11_cell_4 : decode mX11_cell.2.1 4 = .ok (.ifCond .eq 39, 3) := by decide +kernel
theorem dX11_cell_7 : decode mX11_cell.2.1 7 = .ok (.iload_n 2, 1) := by decide +kernel
theorem dX11_cell_8 : decode mX11_cell.2.1 8 = .ok (.i2l, 1) := by decide +kernel
theorem dX11_cell_9 : decode mX11_cell.2.1 9 = .ok (.lconst 0, 1) := by decide +kernel
theorem dX11_cell_10 : decode mX11_cell.2.1 10 = .ok (.aload_n 0, 1) := by decide +kernel
theorem dX11_cell_11 : decode mX11_cell.2.1 11 = .ok (.getfield 22, 3) := by decide +kernel
theorem dX11_cell_14 : decode mX11_cell.2.1 14 = .ok (.iload_n 1, 1) := by decide +kernel
theorem dX11_cell_15 : decode mX11_cell.2.1 15 = .ok (.iaload, 1) := by decide +kernel
theorem dX11_cell_16 : decode mX11_cell.2.1 16 = .ok (.iconst 1, 1) := by decide +kernel
theorem dX11_cell_17 : decode mX11_cell.2.1 17 = .ok (.isub, 1) := by decide +kernel
theorem dX11_cell_18 : decode mX11_cell.2.1 18 = .ok (.i2l, 1) := by decide +kernel
theorem dX11_cell_19 : decode mX11_cell.2.1 19 = .ok (.invokestatic 129, 3) := by decide +kernel
theorem dX11_cell_22 : decode mX11_cell.2.1 22 = .ok (.ifCond .eq 21, 3) := by decide +kernel
theorem dX11_cell_25 : decode mX11_cell.2.1 25 = .ok (.iload_n 3, 1) := by decide +kernel
theorem dX11_cell_26 : decode mX11_cell.2.1 26 = .ok (.i2l, 1) := by decide +kernel
theorem dX11_cell_27 : decode mX11_cell.2.1 27 = .ok (.lconst 0, 1) := by decide +kernel
theorem dX11_cell_28 : decode mX11_cell.2.1 28 = .ok (.aload_n 0, 1) := by decide +kernel
theorem dX11_cell_29 : decode mX11_cell.2.1 29 = .ok (.getfield 22, 3) := by decide +kernel
theorem dX11_cell_32 : decode mX11_cell.2.1 32 = .ok (.iload_n 1, 1) := by decide +kernel
theorem dX11_cell_33 : decode mX11_cell.2.1 33 = .ok (.iaload, 1) := by decide +kernel
theorem dX11_cell_34 : decode mX11_cell.2.1 34 = .ok (.iconst 1, 1) := by decide +kernel
theorem dX11_cell_35 : decode mX11_cell.2.1 35 = .ok (.isub, 1) := by decide +kernel
theorem dX11_cell_36 : decode mX11_cell.2.1 36 = .ok (.i2l, 1) := by decide +kernel
theorem dX11_cell_37 : decode mX11_cell.2.1 37 = .ok (.invokestatic 129, 3) := by decide +kernel
theorem dX11_cell_40 : decode mX11_cell.2.1 40 = .ok (.ifCond .ne 5, 3) := by decide +kernel
theorem dX11_cell_43 : decode mX11_cell.2.1 43 = .ok (.iconst (-1), 1) := by decide +kernel
theorem dX11_cell_44 : decode mX11_cell.2.1 44 = .ok (.ireturn, 1) := by decide +kernel
theorem dX11_cell_45 : decode mX11_cell.2.1 45 = .ok (.aload_n 0, 1) := by decide +kernel
theorem dX11_cell_46 : decode mX11_cell.2.1 46 = .ok (.iload_n 1, 1) := by decide +kernel
theorem dX11_cell_47 : decode mX11_cell.2.1 47 = .ok (.iload_n 2, 1) := by decide +kernel
theorem dX11_cell_48 : decode mX11_cell.2.1 48 = .ok (.aload_n 0, 1) := by decide +kernel
theorem dX11_cell_49 : decode mX11_cell.2.1 49 = .ok (.getfield 25, 3) := by decide +kernel
theorem dX11_cell_52 : decode mX11_cell.2.1 52 = .ok (.bipush 6, 2) := by decide +kernel
theorem dX11_cell_54 : decode mX11_cell.2.1 54 = .ok (.iload_n 1, 1) := by decide +kernel
theorem dX11_cell_55 : decode mX11_cell.2.1 55 = .ok (.imul, 1) := by decide +kernel
theorem dX11_cell_56 : decode mX11_cell.2.1 56 = .ok (.iload_n 2, 1) := by decide +kernel
theorem dX11_cell_57 : decode mX11_cell.2.1 57 = .ok (.iadd, 1) := by decide +kernel
theorem dX11_cell_58 : decode mX11_cell.2.1 58 = .ok (.iaload, 1) := by decide +kernel
theorem dX11_cell_59 : decode mX11_cell.2.1 59 = .ok (.invokevirtual 183, 3) := by decide +kernel
theorem dX11_cell_62 : decode mX11_cell.2.1 62 = .ok (.aload_n 0, 1) := by decide +kernel
theorem dX11_cell_63 : decode mX11_cell.2.1 63 = .ok (.getfield 25, 3) := by decide +kernel
theorem dX11_cell_66 : decode mX11_cell.2.1 66 = .ok (.bipush 6, 2) := by decide +kernel
theorem dX11_cell_68 : decode mX11_cell.2.1 68 = .ok (.iload_n 1, 1) := by decide +kernel
theorem dX11_cell_69 : decode mX11_cell.2.1 69 = .ok (.imul, 1) := by decide +kernel
theorem dX11_cell_70 : decode mX11_cell.2.1 70 = .ok (.iload_n 2, 1) := by decide +kernel
theorem dX11_cell_71 : decode mX11_cell.2.1 71 = .ok (.iadd, 1) := by decide +kernel
theorem dX11_cell_72 : decode mX11_cell.2.1 72 = .ok (.dup2, 1) := by decide +kernel
theorem dX11_cell_73 : decode mX11_cell.2.1 73 = .ok (.iaload, 1) := by decide +kernel
theorem dX11_cell_74 : decode mX11_cell.2.1 74 = .ok (.iconst 1, 1) := by decide +kernel
theorem dX11_cell_75 : decode mX11_cell.2.1 75 = .ok (.iload_n 3, 1) := by decide +kernel
theorem dX11_cell_76 : decode mX11_cell.2.1 76 = .ok (.ishl, 1) := by decide +kernel
theorem dX11_cell_77 : decode mX11_cell.2.1 77 = .ok (.ixor, 1) := by decide +kernel
theorem dX11_cell_78 : decode mX11_cell.2.1 78 = .ok (.iastore, 1) := by decide +kernel
theorem dX11_cell_79 : decode mX11_cell.2.1 79 = .ok (.aload_n 0, 1) := by decide +kernel
theorem dX11_cell_80 : decode mX11_cell.2.1 80 = .ok (.iload_n 1, 1) := by decide +kernel
theorem dX11_cell_81 : decode mX11_cell.2.1 81 = .ok (.invokevirtual 186, 3) := by decide +kernel
theorem dX11_cell_84 : decode mX11_cell.2.1 84 = .ok (.ireturn, 1) := by decide +kernel
def mX11_board : String × ByteArray × Nat := (RX11, cX11_board, 10)
theorem dX11_board_0 : decode mX11_board.2.1 0 = .ok (.iload_n 1, 1) := by decide +kernel
theorem dX11_board_1 : decode mX11_board.2.1 1 = .ok (.invokestatic 133, 3) := by decide +kernel
theorem dX11_board_4 : decode mX11_board.2.1 4 = .ok (.ifCond .eq 10, 3) := by decide +kernel
theorem dX11_board_7 : decode mX11_board.2.1 7 = .ok (.iload_n 2, 1) := by decide +kernel
theorem dX11_board_8 : decode mX11_board.2.1 8 = .ok (.invokestatic 133, 3) := by decide +kernel
theorem dX11_board_11 : decode mX11_board.2.1 11 = .ok (.ifCond .ne 5, 3) := by decide +kernel
theorem dX11_board_14 : decode mX11_board.2.1 14 = .ok (.iconst (-1), 1) := by decide +kernel
theorem dX11_board_15 : decode mX11_board.2.1 15 = .ok (.ireturn, 1) := by decide +kernel
theorem dX11_board_16 : decode mX11_board.2.1 16 = .ok (.aload_n 0, 1) := by decide +kernel
theorem dX11_board_17 : decode mX11_board.2.1 17 = .ok (.iload_n 2, 1) := by decide +kernel
theorem dX11_board_18 : decode mX11_board.2.1 18 = .ok (.invokevirtual 143, 3) := by decide +kernel
theorem dX11_board_21 : decode mX11_board.2.1 21 = .ok (.istore_n 3, 1) := by decide +kernel
theorem dX11_board_22 : decode mX11_board.2.1 22 = .ok (.aload_n 0, 1) := by decide +kernel
theorem dX11_board_23 : decode mX11_board.2.1 23 = .ok (.getfield 9, 3) := by decide +kernel
theorem dX11_board_26 : decode mX11_board.2.1 26 = .ok (.iload_n 2, 1) := by decide +kernel
theorem dX11_board_27 : decode mX11_board.2.1 27 = .ok (.iaload, 1) := by decide +kernel
theorem dX11_board_28 : decode mX11_board.2.1 28 = .ok (.iload_n 3, 1) := by decide +kernel
theorem dX11_board_29 : decode mX11_board.2.1 29 = .ok (.isub, 1) := by decide +kernel
theorem dX11_board_30 : decode mX11_board.2.1 30 = .ok (.istore 4, 2) := by decide +kernel
theorem dX11_board_32 : decode mX11_board.2.1 32 = .ok (.iload_n 3, 1) := by decide +kernel
theorem dX11_board_33 : decode mX11_board.2.1 33 = .ok (.bipush 6, 2) := by decide +kernel
theorem dX11_board_35 : decode mX11_board.2.1 35 = .ok (.if_icmp .gt 10, 3) := by decide +kernel
theorem dX11_board_38 : decode mX11_board.2.1 38 = .ok (.iload 4, 2) := by decide +kernel
theorem dX11_board_40 : decode mX11_board.2.1 40 = .ok (.bipush 6, 2) := by decide +kernel
theorem dX11_board_42 : decode mX11_board.2.1 42 = .ok (.if_icmp .le 6, 3) := by decide +kernel
theorem dX11_board_45 : decode mX11_board.2.1 45 = .ok (.bipush (-3), 2) := by decide +kernel
theorem dX11_board_47 : decode mX11_board.2.1 47 = .ok (.ireturn, 1) := by decide +kernel
theorem dX11_board_48 : decode mX11_board.2.1 48 = .ok (.iload_n 3, 1) := by decide +kernel
theorem dX11_board_49 : decode mX11_board.2.1 49 = .ok (.iload 4, 2) := by decide +kernel
theorem dX11_board_51 : decode mX11_board.2.1 51 = .ok (.if_icmp .le 7, 3) := by decide +kernel
theorem dX11_board_54 : decode mX11_board.2.1 54 = .ok (.iload_n 3, 1) := by decide +kernel
theorem dX11_board_55 : decode mX11_board.2.1 55 = .ok (.goto 5, 3) := by decide +kernel
theorem dX11_board_58 : decode mX11_board.2.1 58 = .ok (.iload 4, 2) := by decide +kernel
theorem dX11_board_60 : decode mX11_board.2.1 60 = .ok (.istore 5, 2) := by decide +kernel
theorem dX11_board_62 : decode mX11_board.2.1 62 = .ok (.aload_n 0, 1) := by decide +kernel
theorem dX11_board_63 : decode mX11_board.2.1 63 = .ok (.iload_n 1, 1) := by decide +kernel
theorem dX11_board_64 : decode mX11_board.2.1 64 = .ok (.iload 5, 2) := by decide +kernel
theorem dX11_board_66 : decode mX11_board.2.1 66 = .ok (.iconst 1, 1) := by decide +kernel
theorem dX11_board_67 : decode mX11_board.2.1 67 = .ok (.if_icmp .ge 7, 3) := by decide +kernel
theorem dX11_board_70 : decode mX11_board.2.1 70 = .ok (.iconst 1, 1) := by decide +kernel
theorem dX11_board_71 : decode mX11_board.2.1 71 = .ok (.goto 5, 3) := by decide +kernel
theorem dX11_board_74 : decode mX11_board.2.1 74 = .ok (.iload 5, 2) := by decide +kernel
theorem dX11_board_76 : decode mX11_board.2.1 76 = .ok (.invokevirtual 179, 3) := by decide +kernel
theorem dX11_board_79 : decode mX11_board.2.1 79 = .ok (.iconst 0, 1) := by decide +kernel
theorem dX11_board_80 : decode mX11_board.2.1 80 = .ok (.istore 6, 2) := by decide +kernel
theorem dX11_board_82 : decode mX11_board.2.1 82 = .ok (.iconst 0, 1) := by decide +kernel
theorem dX11_board_83 : decode mX11_board.2.1 83 = .ok (.istore 7, 2) := by decide +kernel
theorem dX11_board_85 : decode mX11_board.2.1 85 = .ok (.iconst 0, 1) := by decide +kernel
theorem dX11_board_86 : decode mX11_board.2.1 86 = .ok (.istore 8, 2) := by decide +kernel
theorem dX11_board_88 : decode mX11_board.2.1 88 = .ok (.iload 8, 2) := by decide +kernel
theorem dX11_board_90 : decode mX11_board.2.1 90 = .ok (.aload_n 0, 1) := by decide +kernel
theorem dX11_board_91 : decode mX11_board.2.1 91 = .ok (.getfield 9, 3) := by decide +kernel
theorem dX11_board_94 : decode mX11_board.2.1 94 = .ok (.iload_n 2, 1) := by decide +kernel
theorem dX11_board_95 : decode mX11_board.2.1 95 = .ok (.iaload, 1) := by decide +kernel
theorem dX11_board_96 : decode mX11_board.2.1 96 = .ok (.if_icmp .ge 69, 3) := by decide +kernel
theorem dX11_board_99 : decode mX11_board.2.1 99 = .ok (.aload_n 0, 1) := by decide +kernel
theorem dX11_board_100 : decode mX11_board.2.1 100 = .ok (.getfield 15, 3) := by decide +kernel
theorem dX11_board_103 : decode mX11_board.2.1 103 = .ok (.bipush 12, 2) := by decide +kernel
theorem dX11_board_105 : decode mX11_board.2.1 105 = .ok (.iload_n 2, 1) := by decide +kernel
theorem dX11_board_106 : decode mX11_board.2.1 106 = .ok (.imul, 1) := by decide +kernel
theorem dX11_board_107 : decode mX11_board.2.1 107 = .ok (.iload 8, 2) := by decide +kernel
theorem dX11_board_109 : decode mX11_board.2.1 109 = .ok (.iadd, 1) := by decide +kernel
theorem dX11_board_110 : decode mX11_board.2.1 110 = .ok (.iaload, 1) := by decide +kernel
theorem dX11_board_111 : decode mX11_board.2.1 111 = .ok (.iconst 1, 1) := by decide +kernel
theorem dX11_board_112 : decode mX11_board.2.1 112 = .ok (.if_icmp .ne 9, 3) := by decide +kernel
theorem dX11_board_115 : decode mX11_board.2.1 115 = .ok (.iinc 6 1, 3) := by decide +kernel
theorem dX11_board_118 : decode mX11_board.2.1 118 = .ok (.goto 41, 3) := by decide +kernel
theorem dX11_board_121 : decode mX11_board.2.1 121 = .ok (.iconst 0, 1) := by decide +kernel
theorem dX11_board_122 : decode mX11_board.2.1 122 = .ok (.istore 9, 2) := by decide +kernel
theorem dX11_board_124 : decode mX11_board.2.1 124 = .ok (.iload 9, 2) := by decide +kernel
theorem dX11_board_126 : decode mX11_board.2.1 126 = .ok (.iload 6, 2) := by decide +kernel
theorem dX11_board_128 : decode mX11_board.2.1 128 = .ok (.if_icmp .ge 28, 3) := by decide +kernel
theorem dX11_board_131 : decode mX11_board.2.1 131 = .ok (.aload_n 0, 1) := by decide +kernel
theorem dX11_board_132 : decode mX11_board.2.1 132 = .ok (.getfield 25, 3) := by decide +kernel
theorem dX11_board_135 : decode mX11_board.2.1 135 = .ok (.bipush 6, 2) := by decide +kernel
theorem dX11_board_137 : decode mX11_board.2.1 137 = .ok (.iload_n 1, 1) := by decide +kernel
theorem dX11_board_138 : decode mX11_board.2.1 138 = .ok (.imul, 1) := by decide +kernel
theorem dX11_board_139 : decode mX11_board.2.1 139 = .ok (.iload 9, 2) := by decide +kernel
theorem dX11_board_141 : decode mX11_board.2.1 141 = .ok (.iadd, 1) := by decide +kernel
theorem dX11_board_142 : decode mX11_board.2.1 142 = .ok (.dup2, 1) := by decide +kernel
theorem dX11_board_143 : decode mX11_board.2.1 143 = .ok (.iaload, 1) := by decide +kernel
theorem dX11_board_144 : decode mX11_board.2.1 144 = .ok (.iconst 1, 1) := by decide +kernel
theorem dX11_board_145 : decode mX11_board.2.1 145 = .ok (.iload 7, 2) := by decide +kernel
theorem dX11_board_147 : decode mX11_board.2.1 147 = .ok (.ishl, 1) := by decide +kernel
theorem dX11_board_148 : decode mX11_board.2.1 148 = .ok (.ior, 1) := by decide +kernel
theorem dX11_board_149 : decode mX11_board.2.1 149 = .ok (.iastore, 1) := by decide +kernel
theorem dX11_board_150 : decode mX11_board.2.1 150 = .ok (.iinc 9 1, 3) := by decide +kernel
theorem dX11_board_153 : decode mX11_board.2.1 153 = .ok (.goto (-29), 3) := by decide +kernel
theorem dX11_board_156 : decode mX11_board.2.1 156 = .ok (.iinc 7 1, 3) := by decide +kernel
theorem dX11_board_159 : decode mX11_board.2.1 159 = .ok (.iinc 8 1, 3) := by decide +kernel
theorem dX11_board_162 : decode mX11_board.2.1 162 = .ok (.goto (-74), 3) := by decide +kernel
theorem dX11_board_165 : decode mX11_board.2.1 165 = .ok (.aload_n 0, 1) := by decide +kernel
theorem dX11_board_166 : decode mX11_board.2.1 166 = .ok (.iload_n 1, 1) := by decide +kernel
theorem dX11_board_167 : decode mX11_board.2.1 167 = .ok (.invokevirtual 186, 3) := by decide +kernel
theorem dX11_board_170 : decode mX11_board.2.1 170 = .ok (.ireturn, 1) := by decide +kernel
def mX11_steps : String × ByteArray × Nat := (RX11, cX11_steps, 7)
theorem dX11_steps_0 : decode mX11_steps.2.1 0 = .ok (.iload_n 1, 1) := by decide +kernel
theorem dX11_steps_1 : decode mX11_steps.2.1 1 = .ok (.invokestatic 133, 3) := by decide +kernel
theorem dX11_steps_4 : decode mX11_steps.2.1 4 = .ok (.ifCond .ne 5, 3) := by decide +kernel
theorem dX11_steps_7 : decode mX11_steps.2.1 7 = .ok (.iconst (-1), 1) := by decide +kernel
theorem dX11_steps_8 : decode mX11_steps.2.1 8 = .ok (.ireturn, 1) := by decide +kernel
theorem dX11_steps_9 : decode mX11_steps.2.1 9 = .ok (.iload_n 2, 1) := by decide +kernel
theorem dX11_steps_10 : decode mX11_steps.2.1 10 = .ok (.i2l, 1) := by decide +kernel
theorem dX11_steps_11 : decode mX11_steps.2.1 11 = .ok (.lconst 1, 1) := by decide +kernel
theorem dX11_steps_12 : decode mX11_steps.2.1 12 = .ok (.ldc2_w 137, 3) := by decide +kernel
theorem dX11_steps_15 : decode mX11_steps.2.1 15 = .ok (.invokestatic 129, 3) := by decide +kernel
theorem dX11_steps_18 : decode mX11_steps.2.1 18 = .ok (.ifCond .eq 7, 3) := by decide +kernel
theorem dX11_steps_21 : decode mX11_steps.2.1 21 = .ok (.iload_n 3, 1) := by decide +kernel
theorem dX11_steps_22 : decode mX11_steps.2.1 22 = .ok (.ifCond .ge 6, 3) := by decide +kernel
theorem dX11_steps_25 : decode mX11_steps.2.1 25 = .ok (.bipush (-2), 2) := by decide +kernel
theorem dX11_steps_27 : decode mX11_steps.2.1 27 = .ok (.ireturn, 1) := by decide +kernel
theorem dX11_steps_28 : decode mX11_steps.2.1 28 = .ok (.iload_n 3, 1) := by decide +kernel
theorem dX11_steps_29 : decode mX11_steps.2.1 29 = .ok (.istore 4, 2) := by decide +kernel
theorem dX11_steps_31 : decode mX11_steps.2.1 31 = .ok (.iload_n 2, 1) := by decide +kernel
theorem dX11_steps_32 : decode mX11_steps.2.1 32 = .ok (.iconst 1, 1) := by decide +kernel
theorem dX11_steps_33 : decode mX11_steps.2.1 33 = .ok (.isub, 1) := by decide +kernel
theorem dX11_steps_34 : decode mX11_steps.2.1 34 = .ok (.istore 5, 2) := by decide +kernel
theorem dX11_steps_36 : decode mX11_steps.2.1 36 = .ok (.iload 5, 2) := by decide +kernel
theorem dX11_steps_38 : decode mX11_steps.2.1 38 = .ok (.ifCond .lt 28, 3) := by decide +kernel
theorem dX11_steps_41 : decode mX11_steps.2.1 41 = .ok (.aload_n 0, 1) := by decide +kernel
theorem dX11_steps_42 : decode mX11_steps.2.1 42 = .ok (.getfield 94, 3) := by decide +kernel
theorem dX11_steps_45 : decode mX11_steps.2.1 45 = .ok (.iload 5, 2) := by decide +kernel
theorem dX11_steps_47 : decode mX11_steps.2.1 47 = .ok (.iload 4, 2) := by decide +kernel
theorem dX11_steps_49 : decode mX11_steps.2.1 49 = .ok (.bipush 10, 2) := by decide +kernel
theorem dX11_steps_51 : decode mX11_steps.2.1 51 = .ok (.irem, 1) := by decide +kernel
theorem dX11_steps_52 : decode mX11_steps.2.1 52 = .ok (.iastore, 1) := by decide +kernel
theorem dX11_steps_53 : decode mX11_steps.2.1 53 = .ok (.iload 4, 2) := by decide +kernel
theorem dX11_steps_55 : decode mX11_steps.2.1 55 = .ok (.bipush 10, 2) := by decide +kernel
theorem dX11_steps_57 : decode mX11_steps.2.1 57 = .ok (.idiv, 1) := by decide +kernel
theorem dX11_steps_58 : decode mX11_steps.2.1 58 = .ok (.istore 4, 2) := by decide +kernel
theorem dX11_steps_60 : decode mX11_steps.2.1 60 = .ok (.iinc 5 (-1), 3) := by decide +kernel
theorem dX11_steps_63 : decode mX11_steps.2.1 63 = .ok (.goto (-27), 3) := by decide +kernel
theorem dX11_steps_66 : decode mX11_steps.2.1 66 = .ok (.iload 4, 2) := by decide +kernel
theorem dX11_steps_68 : decode mX11_steps.2.1 68 = .ok (.ifCond .ne 7, 3) := by decide +kernel
theorem dX11_steps_71 : decode mX11_steps.2.1 71 = .ok (.iconst 1, 1) := by decide +kernel
theorem dX11_steps_72 : decode mX11_steps.2.1 72 = .ok (.goto 4, 3) := by decide +kernel
theorem dX11_steps_75 : decode mX11_steps.2.1 75 = .ok (.iconst 0, 1) := by decide +kernel
theorem dX11_steps_76 : decode mX11_steps.2.1 76 = .ok (.istore 5, 2) := by decide +kernel
theorem dX11_steps_78 : decode mX11_steps.2.1 78 = .ok (.iconst 0, 1) := by decide +kernel
theorem dX11_steps_79 : decode mX11_steps.2.1 79 = .ok (.istore 6, 2) := by decide +kernel
theorem dX11_steps_81 : decode mX11_steps.2.1 81 = .ok (.iload 6, 2) := by decide +kernel
theorem dX11_steps_83 : decode mX11_steps.2.1 83 = .ok (.iload_n 2, 1) := by decide +kernel
theorem dX11_steps_84 : decode mX11_steps.2.1 84 = .ok (.if_icmp .ge 56, 3) := by decide +kernel
theorem dX11_steps_87 : decode mX11_steps.2.1 87 = .ok (.iload 5, 2) := by decide +kernel
theorem dX11_steps_89 : decode mX11_steps.2.1 89 = .ok (.ifCond .eq 42, 3) := by decide +kernel
theorem dX11_steps_92 : decode mX11_steps.2.1 92 = .ok (.aload_n 0, 1) := by decide +kernel
theorem dX11_steps_93 : decode mX11_steps.2.1 93 = .ok (.getfield 94, 3) := by decide +kernel
theorem dX11_steps_96 : decode mX11_steps.2.1 96 = .ok (.iload 6, 2) := by decide +kernel
theorem dX11_steps_98 : decode mX11_steps.2.1 98 = .ok (.iaload, 1) := by decide +kernel
theorem dX11_steps_99 : decode mX11_steps.2.1 99 = .ok (.iload_n 2, 1) := by decide +kernel
theorem dX11_steps_100 : decode mX11_steps.2.1 100 = .ok (.if_icmp .gt 31, 3) := by decide +kernel
theorem dX11_steps_103 : decode mX11_steps.2.1 103 = .ok (.iload 6, 2) := by decide +kernel
theorem dX11_steps_105 : decode mX11_steps.2.1 105 = .ok (.ifCond .eq 22, 3) := by decide +kernel
theorem dX11_steps_108 : decode mX11_steps.2.1 108 = .ok (.aload_n 0, 1) := by decide +kernel
theorem dX11_steps_109 : decode mX11_steps.2.1 109 = .ok (.getfield 94, 3) := by decide +kernel
theorem dX11_steps_112 : decode mX11_steps.2.1 112 = .ok (.iload 6, 2) := by decide +kernel
theorem dX11_steps_114 : decode mX11_steps.2.1 114 = .ok (.iaload, 1) := by decide +kernel
theorem dX11_steps_115 : decode mX11_steps.2.1 115 = .ok (.aload_n 0, 1) := by decide +kernel
theorem dX11_steps_116 : decode mX11_steps.2.1 116 = .ok (.getfield 94, 3) := by decide +kernel
theorem dX11_steps_119 : decode mX11_steps.2.1 119 = .ok (.iload 6, 2) := by decide +kernel
theorem dX11_steps_121 : decode mX11_steps.2.1 121 = .ok (.iconst 1, 1) := by decide +kernel
theorem dX11_steps_122 : decode mX11_steps.2.1 122 = .ok (.isub, 1) := by decide +kernel
theorem dX11_steps_123 : decode mX11_steps.2.1 123 = .ok (.iaload, 1) := by decide +kernel
theorem dX11_steps_124 : decode mX11_steps.2.1 124 = .ok (.if_icmp .lt 7, 3) := by decide +kernel
theorem dX11_steps_127 : decode mX11_steps.2.1 127 = .ok (.iconst 1, 1) := by decide +kernel
theorem dX11_steps_128 : decode mX11_steps.2.1 128 = .ok (.goto 4, 3) := by decide +kernel
theorem dX11_steps_131 : decode mX11_steps.2.1 131 = .ok (.iconst 0, 1) := by decide +kernel
theorem dX11_steps_132 : decode mX11_steps.2.1 132 = .ok (.istore 5, 2) := by decide +kernel
theorem dX11_steps_134 : decode mX11_steps.2.1 134 = .ok (.iinc 6 1, 3) := by decide +kernel
theorem dX11_steps_137 : decode mX11_steps.2.1 137 = .ok (.goto (-56), 3) := by decide +kernel
theorem dX11_steps_140 : decode mX11_steps.2.1 140 = .ok (.iload 5, 2) := by decide +kernel
theorem dX11_steps_142 : decode mX11_steps.2.1 142 = .ok (.ifCond .ne 6, 3) := by decide +kernel
theorem dX11_steps_145 : decode mX11_steps.2.1 145 = .ok (.bipush (-2), 2) := by decide +kernel
theorem dX11_steps_147 : decode mX11_steps.2.1 147 = .ok (.ireturn, 1) := by decide +kernel
theorem dX11_steps_148 : decode mX11_steps.2.1 148 = .ok (.aload_n 0, 1) := by decide +kernel
theorem dX11_steps_149 : decode mX11_steps.2.1 149 = .ok (.iload_n 1, 1) := by decide +kernel
theorem dX11_steps_150 : decode mX11_steps.2.1 150 = .ok (.iload_n 2, 1) := by decide +kernel
theorem dX11_steps_151 : decode mX11_steps.2.1 151 = .ok (.invokevirtual 179, 3) := by decide +kernel
theorem dX11_steps_154 : decode mX11_steps.2.1 154 = .ok (.iconst 0, 1) := by decide +kernel
theorem dX11_steps_155 : decode mX11_steps.2.1 155 = .ok (.istore 6, 2) := by decide +kernel
theorem dX11_steps_157 : decode mX11_steps.2.1 157 = .ok (.iload 6, 2) := by decide +kernel
theorem dX11_steps_159 : decode mX11_steps.2.1 159 = .ok (.iload_n 2, 1) := by decide +kernel
theorem dX11_steps_160 : decode mX11_steps.2.1 160 = .ok (.if_icmp .ge 32, 3) := by decide +kernel
theorem dX11_steps_163 : decode mX11_steps.2.1 163 = .ok (.aload_n 0, 1) := by decide +kernel
theorem dX11_steps_164 : decode mX11_steps.2.1 164 = .ok (.getfield 25, 3) := by decide +kernel
theorem dX11_steps_167 : decode mX11_steps.2.1 167 = .ok (.bipush 6, 2) := by decide +kernel
theorem dX11_steps_169 : decode mX11_steps.2.1 169 = .ok (.iload_n 1, 1) := by decide +kernel
theorem dX11_steps_170 : decode mX11_steps.2.1 170 = .ok (.imul, 1) := by decide +kernel
theorem dX11_steps_171 : decode mX11_steps.2.1 171 = .ok (.iload 6, 2) := by decide +kernel
theorem dX11_steps_173 : decode mX11_steps.2.1 173 = .ok (.iadd, 1) := by decide +kernel
theorem dX11_steps_174 : decode mX11_steps.2.1 174 = .ok (.iconst 1, 1) := by decide +kernel
theorem dX11_steps_175 : decode mX11_steps.2.1 175 = .ok (.aload_n 0, 1) := by decide +kernel
theorem dX11_steps_176 : decode mX11_steps.2.1 176 = .ok (.getfield 94, 3) := by decide +kernel
theorem dX11_steps_179 : decode mX11_steps.2.1 179 = .ok (.iload 6, 2) := by decide +kernel
theorem dX11_steps_181 : decode mX11_steps.2.1 181 = .ok (.iaload, 1) := by decide +kernel
theorem dX11_steps_182 : decode mX11_steps.2.1 182 = .ok (.ishl, 1) := by decide +kernel
theorem dX11_steps_183 : decode mX11_steps.2.1 183 = .ok (.iconst 1, 1) := by decide +kernel
theorem dX11_steps_184 : decode mX11_steps.2.1 184 = .ok (.isub, 1) := by decide +kernel
theorem dX11_steps_185 : decode mX11_steps.2.1 185 = .ok (.iastore, 1) := by decide +kernel
theorem dX11_steps_186 : decode mX11_steps.2.1 186 = .ok (.iinc 6 1, 3) := by decide +kernel
theorem dX11_steps_189 : decode mX11_steps.2.1 189 = .ok (.goto (-32), 3) := by decide +kernel
theorem dX11_steps_192 : decode mX11_steps.2.1 192 = .ok (.aload_n 0, 1) := by decide +kernel
theorem dX11_steps_193 : decode mX11_steps.2.1 193 = .ok (.iload_n 1, 1) := by decide +kernel
theorem dX11_steps_194 : decode mX11_steps.2.1 194 = .ok (.invokevirtual 186, 3) := by decide +kernel
theorem dX11_steps_197 : decode mX11_steps.2.1 197 = .ok (.ireturn, 1) := by decide +kernel
def mX11_other : String × ByteArray × Nat := (RX11, cX11_other, 3)
theorem dX11_other_0 : decode mX11_other.2.1 0 = .ok (.iload_n 1, 1) := by decide +kernel
theorem dX11_other_1 : decode mX11_other.2.1 1 = .ok (.invokestatic 133, 3) := by decide +kernel
theorem dX11_other_4 : decode mX11_other.2.1 4 = .ok (.ifCond .ne 5, 3) := by decide +kernel
theorem dX11_other_7 : decode mX11_other.2.1 7 = .ok (.iconst (-1), 1) := by decide +kernel
theorem dX11_other_8 : decode mX11_other.2.1 8 = .ok (.ireturn, 1) := by decide +kernel
theorem dX11_other_9 : decode mX11_other.2.1 9 = .ok (.iconst 0, 1) := by decide +kernel
theorem dX11_other_10 : decode mX11_other.2.1 10 = .ok (.istore_n 2, 1) := by decide +kernel
theorem dX11_other_11 : decode mX11_other.2.1 11 = .ok (.iload_n 2, 1) := by decide +kernel
theorem dX11_other_12 : decode mX11_other.2.1 12 = .ok (.aload_n 0, 1) := by decide +kernel
theorem dX11_other_13 : decode mX11_other.2.1 13 = .ok (.getfield 22, 3) := by decide +kernel
theorem dX11_other_16 : decode mX11_other.2.1 16 = .ok (.iload_n 1, 1) := by decide +kernel
theorem dX11_other_17 : decode mX11_other.2.1 17 = .ok (.iaload, 1) := by decide +kernel
theorem dX11_other_18 : decode mX11_other.2.1 18 = .ok (.if_icmp .ge 33, 3) := by decide +kernel
theorem dX11_other_21 : decode mX11_other.2.1 21 = .ok (.aload_n 0, 1) := by decide +kernel
theorem dX11_other_22 : decode mX11_other.2.1 22 = .ok (.getfield 25, 3) := by decide +kernel
theorem dX11_other_25 : decode mX11_other.2.1 25 = .ok (.bipush 6, 2) := by decide +kernel
theorem dX11_other_27 : decode mX11_other.2.1 27 = .ok (.iload_n 1, 1) := by decide +kernel
theorem dX11_other_28 : decode mX11_other.2.1 28 = .ok (.imul, 1) := by decide +kernel
theorem dX11_other_29 : decode mX11_other.2.1 29 = .ok (.iload_n 2, 1) := by decide +kernel
theorem dX11_other_30 : decode mX11_other.2.1 30 = .ok (.iadd, 1) := by decide +kernel
theorem dX11_other_31 : decode mX11_other.2.1 31 = .ok (.dup2, 1) := by decide +kernel
theorem dX11_other_32 : decode mX11_other.2.1 32 = .ok (.iaload, 1) := by decide +kernel
theorem dX11_other_33 : decode mX11_other.2.1 33 = .ok (.iconst 1, 1) := by decide +kernel
theorem dX11_other_34 : decode mX11_other.2.1 34 = .ok (.aload_n 0, 1) := by decide +kernel
theorem dX11_other_35 : decode mX11_other.2.1 35 = .ok (.getfield 22, 3) := by decide +kernel
theorem dX11_other_38 : decode mX11_other.2.1 38 = .ok (.iload_n 1, 1) := by decide +kernel
theorem dX11_other_39 : decode mX11_other.2.1 39 = .ok (.iaload, 1) := by decide +kernel
theorem dX11_other_40 : decode mX11_other.2.1 40 = .ok (.ishl, 1) := by decide +kernel
theorem dX11_other_41 : decode mX11_other.2.1 41 = .ok (.iconst 1, 1) := by decide +kernel
theorem dX11_other_42 : decode mX11_other.2.1 42 = .ok (.isub, 1) := by decide +kernel
theorem dX11_other_43 : decode mX11_other.2.1 43 = .ok (.ixor, 1) := by decide +kernel
theorem dX11_other_44 : decode mX11_other.2.1 44 = .ok (.iastore, 1) := by decide +kernel
theorem dX11_other_45 : decode mX11_other.2.1 45 = .ok (.iinc 2 1, 3) := by decide +kernel
theorem dX11_other_48 : decode mX11_other.2.1 48 = .ok (.goto (-37), 3) := by decide +kernel
theorem dX11_other_51 : decode mX11_other.2.1 51 = .ok (.aload_n 0, 1) := by decide +kernel
theorem dX11_other_52 : decode mX11_other.2.1 52 = .ok (.iconst 0, 1) := by decide +kernel
theorem dX11_other_53 : decode mX11_other.2.1 53 = .ok (.putfield 175, 3) := by decide +kernel
theorem dX11_other_56 : decode mX11_other.2.1 56 = .ok (.aload_n 0, 1) := by decide +kernel
theorem dX11_other_57 : decode mX11_other.2.1 57 = .ok (.iload_n 1, 1) := by decide +kernel
theorem dX11_other_58 : decode mX11_other.2.1 58 = .ok (.invokevirtual 186, 3) := by decide +kernel
theorem dX11_other_61 : decode mX11_other.2.1 61 = .ok (.ireturn, 1) := by decide +kernel
def mX11_turned : String × ByteArray × Nat := (RX11, cX11_turned, 5)
theorem dX11_turned_0 : decode mX11_turned.2.1 0 = .ok (.iload_n 1, 1) := by decide +kernel
theorem dX11_turned_1 : decode mX11_turned.2.1 1 = .ok (.invokestatic 133, 3) := by decide +kernel
theorem dX11_turned_4 : decode mX11_turned.2.1 4 = .ok (.ifCond .ne 5, 3) := by decide +kernel
theorem dX11_turned_7 : decode mX11_turned.2.1 7 = .ok (.iconst (-1), 1) := by decide +kernel
theorem dX11_turned_8 : decode mX11_turned.2.1 8 = .ok (.ireturn, 1) := by decide +kernel
theorem dX11_turned_9 : decode mX11_turned.2.1 9 = .ok (.aload_n 0, 1) := by decide +kernel
theorem dX11_turned_10 : decode mX11_turned.2.1 10 = .ok (.getfield 22, 3) := by decide +kernel
theorem dX11_turned_13 : decode mX11_turned.2.1 13 = .ok (.iload_n 1, 1) := by decide +kernel
theorem dX11_turned_14 : decode mX11_turned.2.1 14 = .ok (.iaload, 1) := by decide +kernel
theorem dX11_turned_15 : decode mX11_turned.2.1 15 = .ok (.istore_n 2, 1) := by decide +kernel
theorem dX11_turned_16 : decode mX11_turned.2.1 16 = .ok (.iconst 0, 1) := by decide +kernel
theorem dX11_turned_17 : decode mX11_turned.2.1 17 = .ok (.istore_n 3, 1) := by decide +kernel
theorem dX11_turned_18 : decode mX11_turned.2.1 18 = .ok (.iload_n 3, 1) := by decide +kernel
theorem dX11_turned_19 : decode mX11_turned.2.1 19 = .ok (.iload_n 2, 1) := by decide +kernel
theorem dX11_turned_20 : decode mX11_turned.2.1 20 = .ok (.if_icmp .ge 59, 3) := by decide +kernel
theorem dX11_turned_23 : decode mX11_turned.2.1 23 = .ok (.aload_n 0, 1) := by decide +kernel
theorem dX11_turned_24 : decode mX11_turned.2.1 24 = .ok (.getfield 97, 3) := by decide +kernel
theorem dX11_turned_27 : decode mX11_turned.2.1 27 = .ok (.iload_n 3, 1) := by decide +kernel
theorem dX11_turned_28 : decode mX11_turned.2.1 28 = .ok (.iconst 0, 1) := by decide +kernel
theorem dX11_turned_29 : decode mX11_turned.2.1 29 = .ok (.iastore, 1) := by decide +kernel
theorem dX11_turned_30 : decode mX11_turned.2.1 30 = .ok (.iconst 0, 1) := by decide +kernel
theorem dX11_turned_31 : decode mX11_turned.2.1 31 = .ok (.istore 4, 2) := by decide +kernel
theorem dX11_turned_33 : decode mX11_turned.2.1 33 = .ok (.iload 4, 2) := by decide +kernel
theorem dX11_turned_35 : decode mX11_turned.2.1 35 = .ok (.iload_n 2, 1) := by decide +kernel
theorem dX11_turned_36 : decode mX11_turned.2.1 36 = .ok (.if_icmp .ge 37, 3) := by decide +kernel
theorem dX11_turned_39 : decode mX11_turned.2.1 39 = .ok (.aload_n 0, 1) := by decide +kernel
theorem dX11_turned_40 : decode mX11_turned.2.1 40 = .ok (.getfield 97, 3) := by decide +kernel
theorem dX11_turned_43 : decode mX11_turned.2.1 43 = .ok (.iload_n 3, 1) := by decide +kernel
theorem dX11_turned_44 : decode mX11_turned.2.1 44 = .ok (.dup2, 1) := by decide +kernel
theorem dX11_turned_45 : decode mX11_turned.2.1 45 = .ok (.iaload, 1) := by decide +kernel
theorem dX11_turned_46 : decode mX11_turned.2.1 46 = .ok (.aload_n 0, 1) := by decide +kernel
theorem dX11_turned_47 : decode mX11_turned.2.1 47 = .ok (.iload_n 1, 1) := by decide +kernel
theorem dX11_turned_48 : decode mX11_turned.2.1 48 = .ok (.iload 4, 2) := by decide +kernel
theorem dX11_turned_50 : decode mX11_turned.2.1 50 = .ok (.iload_n 3, 1) := by decide +kernel
theorem dX11_turned_51 : decode mX11_turned.2.1 51 = .ok (.invokevirtual 189, 3) := by decide +kernel
theorem dX11_turned_54 : decode mX11_turned.2.1 54 = .ok (.ifCond .eq 10, 3) := by decide +kernel
theorem dX11_turned_57 : decode mX11_turned.2.1 57 = .ok (.iconst 1, 1) := by decide +kernel
theorem dX11_turned_58 : decode mX11_turned.2.1 58 = .ok (.iload 4, 2) := by decide +kernel
theorem dX11_turned_60 : decode mX11_turned.2.1 60 = .ok (.ishl, 1) := by decide +kernel
theorem dX11_turned_61 : decode mX11_turned.2.1 61 = .ok (.goto 4, 3) := by decide +kernel
theorem dX11_turned_64 : decode mX11_turned.2.1 64 = .ok (.iconst 0, 1) := by decide +kernel
theorem dX11_turned_65 : decode mX11_turned.2.1 65 = .ok (.ior, 1) := by decide +kernel
theorem dX11_turned_66 : decode mX11_turned.2.1 66 = .ok (.iastore, 1) := by decide +kernel
theorem dX11_turned_67 : decode mX11_turned.2.1 67 = .ok (.iinc 4 1, 3) := by decide +kernel
theorem dX11_turned_70 : decode mX11_turned.2.1 70 = .ok (.goto (-37), 3) := by decide +kernel
theorem dX11_turned_73 : decode mX11_turned.2.1 73 = .ok (.iinc 3 1, 3) := by decide +kernel
theorem dX11_turned_76 : decode mX11_turned.2.1 76 = .ok (.goto (-58), 3) := by decide +kernel
theorem dX11_turned_79 : decode mX11_turned.2.1 79 = .ok (.iconst 0, 1) := by decide +kernel
theorem dX11_turned_80 : decode mX11_turned.2.1 80 = .ok (.istore_n 3, 1) := by decide +kernel
theorem dX11_turned_81 : decode mX11_turned.2.1 81 = .ok (.iload_n 3, 1) := by decide +kernel
theorem dX11_turned_82 : decode mX11_turned.2.1 82 = .ok (.iload_n 2, 1) := by decide +kernel
theorem dX11_turned_83 : decode mX11_turned.2.1 83 = .ok (.if_icmp .ge 26, 3) := by decide +kernel
theorem dX11_turned_86 : decode mX11_turned.2.1 86 = .ok (.aload_n 0, 1) := by decide +kernel
theorem dX11_turned_87 : decode mX11_turned.2.1 87 = .ok (.getfield 25, 3) := by decide +kernel
theorem dX11_turned_90 : decode mX11_turned.2.1 90 = .ok (.bipush 6, 2) := by decide +kernel
theorem dX11_turned_92 : decode mX11_turned.2.1 92 = .ok (.iload_n 1, 1) := by decide +kernel
theorem dX11_turned_93 : decode mX11_turned.2.1 93 = .ok (.imul, 1) := by decide +kernel
theorem dX11_turned_94 : decode mX11_turned.2.1 94 = .ok (.iload_n 3, 1) := by decide +kernel
theorem dX11_turned_95 : decode mX11_turned.2.1 95 = .ok (.iadd, 1) := by decide +kernel
theorem dX11_turned_96 : decode mX11_turned.2.1 96 = .ok (.aload_n 0, 1) := by decide +kernel
theorem dX11_turned_97 : decode mX11_turned.2.1 97 = .ok (.getfield 97, 3) := by decide +kernel
theorem dX11_turned_100 : decode mX11_turned.2.1 100 = .ok (.iload_n 3, 1) := by decide +kernel
theorem dX11_turned_101 : decode mX11_turned.2.1 101 = .ok (.iaload, 1) := by decide +kernel
theorem dX11_turned_102 : decode mX11_turned.2.1 102 = .ok (.iastore, 1) := by decide +kernel
theorem dX11_turned_103 : decode mX11_turned.2.1 103 = .ok (.iinc 3 1, 3) := by decide +kernel
theorem dX11_turned_106 : decode mX11_turned.2.1 106 = .ok (.goto (-25), 3) := by decide +kernel
theorem dX11_turned_109 : decode mX11_turned.2.1 109 = .ok (.aload_n 0, 1) := by decide +kernel
theorem dX11_turned_110 : decode mX11_turned.2.1 110 = .ok (.iconst 0, 1) := by decide +kernel
theorem dX11_turned_111 : decode mX11_turned.2.1 111 = .ok (.putfield 175, 3) := by decide +kernel
theorem dX11_turned_114 : decode mX11_turned.2.1 114 = .ok (.aload_n 0, 1) := by decide +kernel
theorem dX11_turned_115 : decode mX11_turned.2.1 115 = .ok (.iload_n 1, 1) := by decide +kernel
theorem dX11_turned_116 : decode mX11_turned.2.1 116 = .ok (.invokevirtual 186, 3) := by decide +kernel
theorem dX11_turned_119 : decode mX11_turned.2.1 119 = .ok (.ireturn, 1) := by decide +kernel
def mX11_flipped : String × ByteArray × Nat := (RX11, cX11_flipped, 5)
theorem dX11_flipped_0 : decode mX11_flipped.2.1 0 = .ok (.iload_n 1, 1) := by decide +kernel
theorem dX11_flipped_1 : decode mX11_flipped.2.1 1 = .ok (.invokestatic 133, 3) := by decide +kernel
theorem dX11_flipped_4 : decode mX11_flipped.2.1 4 = .ok (.ifCond .ne 5, 3) := by decide +kernel
theorem dX11_flipped_7 : decode mX11_flipped.2.1 7 = .ok (.iconst (-1), 1) := by decide +kernel
theorem dX11_flipped_8 : decode mX11_flipped.2.1 8 = .ok (.ireturn, 1) := by decide +kernel
theorem dX11_flipped_9 : decode mX11_flipped.2.1 9 = .ok (.aload_n 0, 1) := by decide +kernel
theorem dX11_flipped_10 : decode mX11_flipped.2.1 10 = .ok (.getfield 22, 3) := by decide +kernel
theorem dX11_flipped_13 : decode mX11_flipped.2.1 13 = .ok (.iload_n 1, 1) := by decide +kernel
theorem dX11_flipped_14 : decode mX11_flipped.2.1 14 = .ok (.iaload, 1) := by decide +kernel
theorem dX11_flipped_15 : decode mX11_flipped.2.1 15 = .ok (.istore_n 2, 1) := by decide +kernel
theorem dX11_flipped_16 : decode mX11_flipped.2.1 16 = .ok (.iconst 0, 1) := by decide +kernel
theorem dX11_flipped_17 : decode mX11_flipped.2.1 17 = .ok (.istore_n 3, 1) := by decide +kernel
theorem dX11_flipped_18 : decode mX11_flipped.2.1 18 = .ok (.iload_n 3, 1) := by decide +kernel
theorem dX11_flipped_19 : decode mX11_flipped.2.1 19 = .ok (.iload_n 2, 1) := by decide +kernel
theorem dX11_flipped_20 : decode mX11_flipped.2.1 20 = .ok (.iconst 2, 1) := by decide +kernel
theorem dX11_flipped_21 : decode mX11_flipped.2.1 21 = .ok (.idiv, 1) := by decide +kernel
theorem dX11_flipped_22 : decode mX11_flipped.2.1 22 = .ok (.if_icmp .ge 65, 3) := by decide +kernel
theorem dX11_flipped_25 : decode mX11_flipped.2.1 25 = .ok (.aload_n 0, 1) := by decide +kernel
theorem dX11_flipped_26 : decode mX11_flipped.2.1 26 = .ok (.getfield 25, 3) := by decide +kernel
theorem dX11_flipped_29 : decode mX11_flipped.2.1 29 = .ok (.bipush 6, 2) := by decide +kernel
theorem dX11_flipped_31 : decode mX11_flipped.2.1 31 = .ok (.iload_n 1, 1) := by decide +kernel
theorem dX11_flipped_32 : decode mX11_flipped.2.1 32 = .ok (.imul, 1) := by decide +kernel
theorem dX11_flipped_33 : decode mX11_flipped.2.1 33 = .ok (.iload_n 3, 1) := by decide +kernel
theorem dX11_flipped_34 : decode mX11_flipped.2.1 34 = .ok (.iadd, 1) := by decide +kernel
theorem dX11_flipped_35 : decode mX11_flipped.2.1 35 = .ok (.iaload, 1) := by decide +kernel
theorem dX11_flipped_36 : decode mX11_flipped.2.1 36 = .ok (.istore 4, 2) := by decide +kernel
theorem dX11_flipped_38 : decode mX11_flipped.2.1 38 = .ok (.aload_n 0, 1) := by decide +kernel
theorem dX11_flipped_39 : decode mX11_flipped.2.1 39 = .ok (.getfield 25, 3) := by decide +kernel
theorem dX11_flipped_42 : decode mX11_flipped.2.1 42 = .ok (.bipush 6, 2) := by decide +kernel
theorem dX11_flipped_44 : decode mX11_flipped.2.1 44 = .ok (.iload_n 1, 1) := by decide +kernel
theorem dX11_flipped_45 : decode mX11_flipped.2.1 45 = .ok (.imul, 1) := by decide +kernel
theorem dX11_flipped_46 : decode mX11_flipped.2.1 46 = .ok (.iload_n 3, 1) := by decide +kernel
theorem dX11_flipped_47 : decode mX11_flipped.2.1 47 = .ok (.iadd, 1) := by decide +kernel
theorem dX11_flipped_48 : decode mX11_flipped.2.1 48 = .ok (.aload_n 0, 1) := by decide +kernel
theorem dX11_flipped_49 : decode mX11_flipped.2.1 49 = .ok (.getfield 25, 3) := by decide +kernel
theorem dX11_flipped_52 : decode mX11_flipped.2.1 52 = .ok (.bipush 6, 2) := by decide +kernel
theorem dX11_flipped_54 : decode mX11_flipped.2.1 54 = .ok (.iload_n 1, 1) := by decide +kernel
theorem dX11_flipped_55 : decode mX11_flipped.2.1 55 = .ok (.imul, 1) := by decide +kernel
theorem dX11_flipped_56 : decode mX11_flipped.2.1 56 = .ok (.iload_n 2, 1) := by decide +kernel
theorem dX11_flipped_57 : decode mX11_flipped.2.1 57 = .ok (.iadd, 1) := by decide +kernel
theorem dX11_flipped_58 : decode mX11_flipped.2.1 58 = .ok (.iconst 1, 1) := by decide +kernel
theorem dX11_flipped_59 : decode mX11_flipped.2.1 59 = .ok (.isub, 1) := by decide +kernel
theorem dX11_flipped_60 : decode mX11_flipped.2.1 60 = .ok (.iload_n 3, 1) := by decide +kernel
theorem dX11_flipped_61 : decode mX11_flipped.2.1 61 = .ok (.isub, 1) := by decide +kernel
theorem dX11_flipped_62 : decode mX11_flipped.2.1 62 = .ok (.iaload, 1) := by decide +kernel
theorem dX11_flipped_63 : decode mX11_flipped.2.1 63 = .ok (.iastore, 1) := by decide +kernel
theorem dX11_flipped_64 : decode mX11_flipped.2.1 64 = .ok (.aload_n 0, 1) := by decide +kernel
theorem dX11_flipped_65 : decode mX11_flipped.2.1 65 = .ok (.getfield 25, 3) := by decide +kernel
theorem dX11_flipped_68 : decode mX11_flipped.2.1 68 = .ok (.bipush 6, 2) := by decide +kernel
theorem dX11_flipped_70 : decode mX11_flipped.2.1 70 = .ok (.iload_n 1, 1) := by decide +kernel
theorem dX11_flipped_71 : decode mX11_flipped.2.1 71 = .ok (.imul, 1) := by decide +kernel
theorem dX11_flipped_72 : decode mX11_flipped.2.1 72 = .ok (.iload_n 2, 1) := by decide +kernel
theorem dX11_flipped_73 : decode mX11_flipped.2.1 73 = .ok (.iadd, 1) := by decide +kernel
theorem dX11_flipped_74 : decode mX11_flipped.2.1 74 = .ok (.iconst 1, 1) := by decide +kernel
theorem dX11_flipped_75 : decode mX11_flipped.2.1 75 = .ok (.isub, 1) := by decide +kernel
theorem dX11_flipped_76 : decode mX11_flipped.2.1 76 = .ok (.iload_n 3, 1) := by decide +kernel
theorem dX11_flipped_77 : decode mX11_flipped.2.1 77 = .ok (.isub, 1) := by decide +kernel
theorem dX11_flipped_78 : decode mX11_flipped.2.1 78 = .ok (.iload 4, 2) := by decide +kernel
theorem dX11_flipped_80 : decode mX11_flipped.2.1 80 = .ok (.iastore, 1) := by decide +kernel
theorem dX11_flipped_81 : decode mX11_flipped.2.1 81 = .ok (.iinc 3 1, 3) := by decide +kernel
theorem dX11_flipped_84 : decode mX11_flipped.2.1 84 = .ok (.goto (-66), 3) := by decide +kernel
theorem dX11_flipped_87 : decode mX11_flipped.2.1 87 = .ok (.aload_n 0, 1) := by decide +kernel
theorem dX11_flipped_88 : decode mX11_flipped.2.1 88 = .ok (.iconst 0, 1) := by decide +kernel
theorem dX11_flipped_89 : decode mX11_flipped.2.1 89 = .ok (.putfield 175, 3) := by decide +kernel
theorem dX11_flipped_92 : decode mX11_flipped.2.1 92 = .ok (.aload_n 0, 1) := by decide +kernel
theorem dX11_flipped_93 : decode mX11_flipped.2.1 93 = .ok (.iload_n 1, 1) := by decide +kernel
theorem dX11_flipped_94 : decode mX11_flipped.2.1 94 = .ok (.invokevirtual 186, 3) := by decide +kernel
theorem dX11_flipped_97 : decode mX11_flipped.2.1 97 = .ok (.ireturn, 1) := by decide +kernel
def mX11_row : String × ByteArray × Nat := (RX11, cX11_row, 3)
theorem dX11_row_0 : decode mX11_row.2.1 0 = .ok (.iload_n 1, 1) := by decide +kernel
theorem dX11_row_1 : decode mX11_row.2.1 1 = .ok (.invokestatic 133, 3) := by decide +kernel
theorem dX11_row_4 : decode mX11_row.2.1 4 = .ok (.ifCond .eq 35, 3) := by decide +kernel
theorem dX11_row_7 : decode mX11_row.2.1 7 = .ok (.iload_n 2, 1) := by decide +kernel
theorem dX11_row_8 : decode mX11_row.2.1 8 = .ok (.i2l, 1) := by decide +kernel
theorem dX11_row_9 : decode mX11_row.2.1 9 = .ok (.lconst 0, 1) := by decide +kernel
theorem dX11_row_10 : decode mX11_row.2.1 10 = .ok (.aload_n 0, 1) := by decide +kernel
theorem dX11_row_11 : decode mX11_row.2.1 11 = .ok (.getfield 22, 3) := by decide +kernel
theorem dX11_row_14 : decode mX11_row.2.1 14 = .ok (.iload_n 1, 1) := by decide +kernel
theorem dX11_row_15 : decode mX11_row.2.1 15 = .ok (.iaload, 1) := by decide +kernel
theorem dX11_row_16 : decode mX11_row.2.1 16 = .ok (.iconst 1, 1) := by decide +kernel
theorem dX11_row_17 : decode mX11_row.2.1 17 = .ok (.isub, 1) := by decide +kernel
theorem dX11_row_18 : decode mX11_row.2.1 18 = .ok (.i2l, 1) := by decide +kernel
theorem dX11_row_19 : decode mX11_row.2.1 19 = .ok (.invokestatic 129, 3) := by decide +kernel
theorem dX11_row_22 : decode mX11_row.2.1 22 = .ok (.ifCond .eq 17, 3) := by decide +kernel
theorem dX11_row_25 : decode mX11_row.2.1 25 = .ok (.aload_n 0, 1) := by decide +kernel
theorem dX11_row_26 : decode mX11_row.2.1 26 = .ok (.getfield 25, 3) := by decide +kernel
theorem dX11_row_29 : decode mX11_row.2.1 29 = .ok (.bipush 6, 2) := by decide +kernel
theorem dX11_row_31 : decode mX11_row.2.1 31 = .ok (.iload_n 1, 1) := by decide +kernel
theorem dX11_row_32 : decode mX11_row.2.1 32 = .ok (.imul, 1) := by decide +kernel
theorem dX11_row_33 : decode mX11_row.2.1 33 = .ok (.iload_n 2, 1) := by decide +kernel
theorem dX11_row_34 : decode mX11_row.2.1 34 = .ok (.iadd, 1) := by decide +kernel
theorem dX11_row_35 : decode mX11_row.2.1 35 = .ok (.iaload, 1) := by decide +kernel
theorem dX11_row_36 : decode mX11_row.2.1 36 = .ok (.goto 4, 3) := by decide +kernel
theorem dX11_row_39 : decode mX11_row.2.1 39 = .ok (.iconst (-1), 1) := by decide +kernel
theorem dX11_row_40 : decode mX11_row.2.1 40 = .ok (.ireturn, 1) := by decide +kernel
def mX11_layCounts : String × ByteArray × Nat := (RX11, cX11_layCounts, 6)
theorem dX11_layCounts_0 : decode mX11_layCounts.2.1 0 = .ok (.aload_n 0, 1) := by decide +kernel
theorem dX11_layCounts_1 : decode mX11_layCounts.2.1 1 = .ok (.getfield 22, 3) := by decide +kernel
theorem dX11_layCounts_4 : decode mX11_layCounts.2.1 4 = .ok (.iload_n 1, 1) := by decide +kernel
theorem dX11_layCounts_5 : decode mX11_layCounts.2.1 5 = .ok (.iaload, 1) := by decide +kernel
theorem dX11_layCounts_6 : decode mX11_layCounts.2.1 6 = .ok (.istore_n 2, 1) := by decide +kernel
theorem dX11_layCounts_7 : decode mX11_layCounts.2.1 7 = .ok (.iconst 0, 1) := by decide +kernel
theorem dX11_layCounts_8 : decode mX11_layCounts.2.1 8 = .ok (.istore_n 3, 1) := by decide +kernel
theorem dX11_layCounts_9 : decode mX11_layCounts.2.1 9 = .ok (.iload_n 3, 1) := by decide +kernel
theorem dX11_layCounts_10 : decode mX11_layCounts.2.1 10 = .ok (.bipush 64, 2) := by decide +kernel
theorem dX11_layCounts_12 : decode mX11_layCounts.2.1 12 = .ok (.if_icmp .ge 24, 3) := by decide +kernel
theorem dX11_layCounts_15 : decode mX11_layCounts.2.1 15 = .ok (.aload_n 0, 1) := by decide +kernel
theorem dX11_layCounts_16 : decode mX11_layCounts.2.1 16 = .ok (.getfield 100, 3) := by decide +kernel
theorem dX11_layCounts_19 : decode mX11_layCounts.2.1 19 = .ok (.iload_n 3, 1) := by decide +kernel
theorem dX11_layCounts_20 : decode mX11_layCounts.2.1 20 = .ok (.iload_n 3, 1) := by decide +kernel
theorem dX11_layCounts_21 : decode mX11_layCounts.2.1 21 = .ok (.ifCond .ne 7, 3) := by decide +kernel
theorem dX11_layCounts_24 : decode mX11_layCounts.2.1 24 = .ok (.iconst 1, 1) := by decide +kernel
theorem dX11_layCounts_25 : decode mX11_layCounts.2.1 25 = .ok (.goto 4, 3) := by decide +kernel
theorem dX11_layCounts_28 : decode mX11_layCounts.2.1 28 = .ok (.iconst 0, 1) := by decide +kernel
theorem dX11_layCounts_29 : decode mX11_layCounts.2.1 29 = .ok (.iastore, 1) := by decide +kernel
theorem dX11_layCounts_30 : decode mX11_layCounts.2.1 30 = .ok (.iinc 3 1, 3) := by decide +kernel
theorem dX11_layCounts_33 : decode mX11_layCounts.2.1 33 = .ok (.goto (-24), 3) := by decide +kernel
theorem dX11_layCounts_36 : decode mX11_layCounts.2.1 36 = .ok (.iconst 0, 1) := by decide +kernel
theorem dX11_layCounts_37 : decode mX11_layCounts.2.1 37 = .ok (.istore_n 3, 1) := by decide +kernel
theorem dX11_layCounts_38 : decode mX11_layCounts.2.1 38 = .ok (.iload_n 3, 1) := by decide +kernel
theorem dX11_layCounts_39 : decode mX11_layCounts.2.1 39 = .ok (.iload_n 2, 1) := by decide +kernel
theorem dX11_layCounts_40 : decode mX11_layCounts.2.1 40 = .ok (.if_icmp .ge 88, 3) := by decide +kernel
theorem dX11_layCounts_43 : decode mX11_layCounts.2.1 43 = .ok (.iconst 1, 1) := by decide +kernel
theorem dX11_layCounts_44 : decode mX11_layCounts.2.1 44 = .ok (.iload_n 2, 1) := by decide +kernel
theorem dX11_layCounts_45 : decode mX11_layCounts.2.1 45 = .ok (.ishl, 1) := by decide +kernel
theorem dX11_layCounts_46 : decode mX11_layCounts.2.1 46 = .ok (.iconst 1, 1) := by decide +kernel
theorem dX11_layCounts_47 : decode mX11_layCounts.2.1 47 = .ok (.isub, 1) := by decide +kernel
theorem dX11_layCounts_48 : decode mX11_layCounts.2.1 48 = .ok (.istore 4, 2) := by decide +kernel
theorem dX11_layCounts_50 : decode mX11_layCounts.2.1 50 = .ok (.iload 4, 2) := by decide +kernel
theorem dX11_layCounts_52 : decode mX11_layCounts.2.1 52 = .ok (.ifCond .le 70, 3) := by decide +kernel
theorem dX11_layCounts_55 : decode mX11_layCounts.2.1 55 = .ok (.iconst 0, 1) := by decide +kernel
theorem dX11_layCounts_56 : decode mX11_layCounts.2.1 56 = .ok (.istore 5, 2) := by decide +kernel
theorem dX11_layCounts_58 : decode mX11_layCounts.2.1 58 = .ok (.iload 5, 2) := by decide +kernel
theorem dX11_layCounts_60 : decode mX11_layCounts.2.1 60 = .ok (.iload_n 2, 1) := by decide +kernel
theorem dX11_layCounts_61 : decode mX11_layCounts.2.1 61 = .ok (.if_icmp .ge 55, 3) := by decide +kernel
theorem dX11_layCounts_64 : decode mX11_layCounts.2.1 64 = .ok (.iload 4, 2) := by decide +kernel
theorem dX11_layCounts_66 : decode mX11_layCounts.2.1 66 = .ok (.iload 5, 2) := by decide +kernel
theorem dX11_layCounts_68 : decode mX11_layCounts.2.1 68 = .ok (.ishr, 1) := by decide +kernel
theorem dX11_layCounts_69 : decode mX11_layCounts.2.1 69 = .ok (.iconst 1, 1) := by decide +kernel
theorem dX11_layCounts_70 : decode mX11_layCounts.2.1 70 = .ok (.iand, 1) := by decide +kernel
theorem dX11_layCounts_71 : decode mX11_layCounts.2.1 71 = .ok (.iconst 1, 1) := by decide +kernel
theorem dX11_layCounts_72 : decode mX11_layCounts.2.1 72 = .ok (.if_icmp .ne 38, 3) := by decide +kernel
theorem dX11_layCounts_75 : decode mX11_layCounts.2.1 75 = .ok (.aload_n 0, 1) := by decide +kernel
theorem dX11_layCounts_76 : decode mX11_layCounts.2.1 76 = .ok (.iload_n 1, 1) := by decide +kernel
theorem dX11_layCounts_77 : decode mX11_layCounts.2.1 77 = .ok (.iload_n 3, 1) := by decide +kernel
theorem dX11_layCounts_78 : decode mX11_layCounts.2.1 78 = .ok (.iload 5, 2) := by decide +kernel
theorem dX11_layCounts_80 : decode mX11_layCounts.2.1 80 = .ok (.invokevirtual 189, 3) := by decide +kernel
theorem dX11_layCounts_83 : decode mX11_layCounts.2.1 83 = .ok (.ifCond .eq 27, 3) := by decide +kernel
theorem dX11_layCounts_86 : decode mX11_layCounts.2.1 86 = .ok (.aload_n 0, 1) := by decide +kernel
theorem dX11_layCounts_87 : decode mX11_layCounts.2.1 87 = .ok (.getfield 100, 3) := by decide +kernel
theorem dX11_layCounts_90 : decode mX11_layCounts.2.1 90 = .ok (.iload 4, 2) := by decide +kernel
theorem dX11_layCounts_92 : decode mX11_layCounts.2.1 92 = .ok (.dup2, 1) := by decide +kernel
theorem dX11_layCounts_93 : decode mX11_layCounts.2.1 93 = .ok (.iaload, 1) := by decide +kernel
theorem dX11_layCounts_94 : decode mX11_layCounts.2.1 94 = .ok (.aload_n 0, 1) := by decide +kernel
theorem dX11_layCounts_95 : decode mX11_layCounts.2.1 95 = .ok (.getfield 100, 3) := by decide +kernel
theorem dX11_layCounts_98 : decode mX11_layCounts.2.1 98 = .ok (.iload 4, 2) := by decide +kernel
theorem dX11_layCounts_100 : decode mX11_layCounts.2.1 100 = .ok (.iconst 1, 1) := by decide +kernel
theorem dX11_layCounts_101 : decode mX11_layCounts.2.1 101 = .ok (.iload 5, 2) := by decide +kernel
theorem dX11_layCounts_103 : decode mX11_layCounts.2.1 103 = .ok (.ishl, 1) := by decide +kernel
theorem dX11_layCounts_104 : decode mX11_layCounts.2.1 104 = .ok (.iconst (-1), 1) := by decide +kernel
theorem dX11_layCounts_105 : decode mX11_layCounts.2.1 105 = .ok (.ixor, 1) := by decide +kernel
theorem dX11_layCounts_106 : decode mX11_layCounts.2.1 106 = .ok (.iand, 1) := by decide +kernel
theorem dX11_layCounts_107 : decode mX11_layCounts.2.1 107 = .ok (.iaload, 1) := by decide +kernel
theorem dX11_layCounts_108 : decode mX11_layCounts.2.1 108 = .ok (.iadd, 1) := by decide +kernel
theorem dX11_layCounts_109 : decode mX11_layCounts.2.1 109 = .ok (.iastore, 1) := by decide +kernel
theorem dX11_layCounts_110 : decode mX11_layCounts.2.1 110 = .ok (.iinc 5 1, 3) := by decide +kernel
theorem dX11_layCounts_113 : decode mX11_layCounts.2.1 113 = .ok (.goto (-55), 3) := by decide +kernel
theorem dX11_layCounts_116 : decode mX11_layCounts.2.1 116 = .ok (.iinc 4 (-1), 3) := by decide +kernel
theorem dX11_layCounts_119 : decode mX11_layCounts.2.1 119 = .ok (.goto (-69), 3) := by decide +kernel
theorem dX11_layCounts_122 : decode mX11_layCounts.2.1 122 = .ok (.iinc 3 1, 3) := by decide +kernel
theorem dX11_layCounts_125 : decode mX11_layCounts.2.1 125 = .ok (.goto (-87), 3) := by decide +kernel
theorem dX11_layCounts_128 : decode mX11_layCounts.2.1 128 = .ok (.iconst 0, 1) := by decide +kernel
theorem dX11_layCounts_129 : decode mX11_layCounts.2.1 129 = .ok (.istore_n 3, 1) := by decide +kernel
theorem dX11_layCounts_130 : decode mX11_layCounts.2.1 130 = .ok (.iload_n 3, 1) := by decide +kernel
theorem dX11_layCounts_131 : decode mX11_layCounts.2.1 131 = .ok (.bipush 7, 2) := by decide +kernel
theorem dX11_layCounts_133 : decode mX11_layCounts.2.1 133 = .ok (.if_icmp .ge 16, 3) := by decide +kernel
theorem dX11_layCounts_136 : decode mX11_layCounts.2.1 136 = .ok (.aload_n 0, 1) := by decide +kernel
theorem dX11_layCounts_137 : decode mX11_layCounts.2.1 137 = .ok (.getfield 103, 3) := by decide +kernel
theorem dX11_layCounts_140 : decode mX11_layCounts.2.1 140 = .ok (.iload_n 3, 1) := by decide +kernel
theorem dX11_layCounts_141 : decode mX11_layCounts.2.1 141 = .ok (.iconst 0, 1) := by decide +kernel
theorem dX11_layCounts_142 : decode mX11_layCounts.2.1 142 = .ok (.iastore, 1) := by decide +kernel
theorem dX11_layCounts_143 : decode mX11_layCounts.2.1 143 = .ok (.iinc 3 1, 3) := by decide +kernel
theorem dX11_layCounts_146 : decode mX11_layCounts.2.1 146 = .ok (.goto (-16), 3) := by decide +kernel
theorem dX11_layCounts_149 : decode mX11_layCounts.2.1 149 = .ok (.iconst 0, 1) := by decide +kernel
theorem dX11_layCounts_150 : decode mX11_layCounts.2.1 150 = .ok (.istore_n 3, 1) := by decide +kernel
theorem dX11_layCounts_151 : decode mX11_layCounts.2.1 151 = .ok (.iload_n 3, 1) := by decide +kernel
theorem dX11_layCounts_152 : decode mX11_layCounts.2.1 152 = .ok (.iconst 1, 1) := by decide +kernel
theorem dX11_layCounts_153 : decode mX11_layCounts.2.1 153 = .ok (.iload_n 2, 1) := by decide +kernel
theorem dX11_layCounts_154 : decode mX11_layCounts.2.1 154 = .ok (.ishl, 1) := by decide +kernel
theorem dX11_layCounts_155 : decode mX11_layCounts.2.1 155 = .ok (.if_icmp .ge 27, 3) := by decide +kernel
theorem dX11_layCounts_158 : decode mX11_layCounts.2.1 158 = .ok (.aload_n 0, 1) := by decide +kernel
theorem dX11_layCounts_159 : decode mX11_layCounts.2.1 159 = .ok (.getfield 103, 3) := by decide +kernel
theorem dX11_layCounts_162 : decode mX11_layCounts.2.1 162 = .ok (.iload_n 3, 1) := by decide +kernel
theorem dX11_layCounts_163 : decode mX11_layCounts.2.1 163 = .ok (.invokestatic 172, 3) := by decide +kernel
theorem dX11_layCounts_166 : decode mX11_layCounts.2.1 166 = .ok (.dup2, 1) := by decide +kernel
theorem dX11_layCounts_167 : decode mX11_layCounts.2.1 167 = .ok (.iaload, 1) := by decide +kernel
theorem dX11_layCounts_168 : decode mX11_layCounts.2.1 168 = .ok (.aload_n 0, 1) := by decide +kernel
theorem dX11_layCounts_169 : decode mX11_layCounts.2.1 169 = .ok (.getfield 100, 3) := by decide +kernel
theorem dX11_layCounts_172 : decode mX11_layCounts.2.1 172 = .ok (.iload_n 3, 1) := by decide +kernel
theorem dX11_layCounts_173 : decode mX11_layCounts.2.1 173 = .ok (.iaload, 1) := by decide +kernel
theorem dX11_layCounts_174 : decode mX11_layCounts.2.1 174 = .ok (.iadd, 1) := by decide +kernel
theorem dX11_layCounts_175 : decode mX11_layCounts.2.1 175 = .ok (.iastore, 1) := by decide +kernel
theorem dX11_layCounts_176 : decode mX11_layCounts.2.1 176 = .ok (.iinc 3 1, 3) := by decide +kernel
theorem dX11_layCounts_179 : decode mX11_layCounts.2.1 179 = .ok (.goto (-28), 3) := by decide +kernel
theorem dX11_layCounts_182 : decode mX11_layCounts.2.1 182 = .ok (.return_, 1) := by decide +kernel
def mX11_count : String × ByteArray × Nat := (RX11, cX11_count, 3)
theorem dX11_count_0 : decode mX11_count.2.1 0 = .ok (.iload_n 1, 1) := by decide +kernel
theorem dX11_count_1 : decode mX11_count.2.1 1 = .ok (.invokestatic 133, 3) := by decide +kernel
theorem dX11_count_4 : decode mX11_count.2.1 4 = .ok (.ifCond .eq 7, 3) := by decide +kernel
theorem dX11_count_7 : decode mX11_count.2.1 7 = .ok (.iload_n 2, 1) := by decide +kernel
theorem dX11_count_8 : decode mX11_count.2.1 8 = .ok (.ifCond .ge 5, 3) := by decide +kernel
theorem dX11_count_11 : decode mX11_count.2.1 11 = .ok (.iconst (-1), 1) := by decide +kernel
theorem dX11_count_12 : decode mX11_count.2.1 12 = .ok (.ireturn, 1) := by decide +kernel
theorem dX11_count_13 : decode mX11_count.2.1 13 = .ok (.aload_n 0, 1) := by decide +kernel
theorem dX11_count_14 : decode mX11_count.2.1 14 = .ok (.iload_n 1, 1) := by decide +kernel
theorem dX11_count_15 : decode mX11_count.2.1 15 = .ok (.invokevirtual 193, 3) := by decide +kernel
theorem dX11_count_18 : decode mX11_count.2.1 18 = .ok (.iload_n 2, 1) := by decide +kernel
theorem dX11_count_19 : decode mX11_count.2.1 19 = .ok (.bipush 7, 2) := by decide +kernel
theorem dX11_count_21 : decode mX11_count.2.1 21 = .ok (.if_icmp .ge 12, 3) := by decide +kernel
theorem dX11_count_24 : decode mX11_count.2.1 24 = .ok (.aload_n 0, 1) := by decide +kernel
theorem dX11_count_25 : decode mX11_count.2.1 25 = .ok (.getfield 103, 3) := by decide +kernel
theorem dX11_count_28 : decode mX11_count.2.1 28 = .ok (.iload_n 2, 1) := by decide +kernel
theorem dX11_count_29 : decode mX11_count.2.1 29 = .ok (.iaload, 1) := by decide +kernel
theorem dX11_count_30 : decode mX11_count.2.1 30 = .ok (.goto 4, 3) := by decide +kernel
theorem dX11_count_33 : decode mX11_count.2.1 33 = .ok (.iconst 0, 1) := by decide +kernel
theorem dX11_count_34 : decode mX11_count.2.1 34 = .ok (.ireturn, 1) := by decide +kernel
def mX11_layHits : String × ByteArray × Nat := (RX11, cX11_layHits, 8)
theorem dX11_layHits_0 : decode mX11_layHits.2.1 0 = .ok (.aload_n 0, 1) := by decide +kernel
theorem dX11_layHits_1 : decode mX11_layHits.2.1 1 = .ok (.getfield 22, 3) := by decide +kernel
theorem dX11_layHits_4 : decode mX11_layHits.2.1 4 = .ok (.iload_n 1, 1) := by decide +kernel
theorem dX11_layHits_5 : decode mX11_layHits.2.1 5 = .ok (.iaload, 1) := by decide +kernel
theorem dX11_layHits_6 : decode mX11_layHits.2.1 6 = .ok (.istore_n 2, 1) := by decide +kernel
theorem dX11_layHits_7 : decode mX11_layHits.2.1 7 = .ok (.iconst 0, 1) := by decide +kernel
theorem dX11_layHits_8 : decode mX11_layHits.2.1 8 = .ok (.istore_n 3, 1) := by decide +kernel
theorem dX11_layHits_9 : decode mX11_layHits.2.1 9 = .ok (.iload_n 3, 1) := by decide +kernel
theorem dX11_layHits_10 : decode mX11_layHits.2.1 10 = .ok (.sipush 448, 3) := by decide +kernel
theorem dX11_layHits_13 : decode mX11_layHits.2.1 13 = .ok (.if_icmp .ge 24, 3) := by decide +kernel
theorem dX11_layHits_16 : decode mX11_layHits.2.1 16 = .ok (.aload_n 0, 1) := by decide +kernel
theorem dX11_layHits_17 : decode mX11_layHits.2.1 17 = .ok (.getfield 106, 3) := by decide +kernel
theorem dX11_layHits_20 : decode mX11_layHits.2.1 20 = .ok (.iload_n 3, 1) := by decide +kernel
theorem dX11_layHits_21 : decode mX11_layHits.2.1 21 = .ok (.iload_n 3, 1) := by decide +kernel
theorem dX11_layHits_22 : decode mX11_layHits.2.1 22 = .ok (.ifCond .ne 7, 3) := by decide +kernel
theorem dX11_layHits_25 : decode mX11_layHits.2.1 25 = .ok (.iconst 1, 1) := by decide +kernel
theorem dX11_layHits_26 : decode mX11_layHits.2.1 26 = .ok (.goto 4, 3) := by decide +kernel
theorem dX11_layHits_29 : decode mX11_layHits.2.1 29 = .ok (.iconst 0, 1) := by decide +kernel
theorem dX11_layHits_30 : decode mX11_layHits.2.1 30 = .ok (.iastore, 1) := by decide +kernel
theorem dX11_layHits_31 : decode mX11_layHits.2.1 31 = .ok (.iinc 3 1, 3) := by decide +kernel
theorem dX11_layHits_34 : decode mX11_layHits.2.1 34 = .ok (.goto (-25), 3) := by decide +kernel
theorem dX11_layHits_37 : decode mX11_layHits.2.1 37 = .ok (.iconst 1, 1) := by decide +kernel
theorem dX11_layHits_38 : decode mX11_layHits.2.1 38 = .ok (.istore_n 3, 1) := by decide +kernel
theorem dX11_layHits_39 : decode mX11_layHits.2.1 39 = .ok (.iload_n 3, 1) := by decide +kernel
theorem dX11_layHits_40 : decode mX11_layHits.2.1 40 = .ok (.iconst 1, 1) := by decide +kernel
theorem dX11_layHits_41 : decode mX11_layHits.2.1 41 = .ok (.iload_n 2, 1) := by decide +kernel
theorem dX11_layHits_42 : decode mX11_layHits.2.1 42 = .ok (.ishl, 1) := by decide +kernel
theorem dX11_layHits_43 : decode mX11_layHits.2.1 43 = .ok (.if_icmp .ge 115, 3) := by decide +kernel
theorem dX11_layHits_46 : decode mX11_layHits.2.1 46 = .ok (.iload_n 3, 1) := by decide +kernel
theorem dX11_layHits_47 : decode mX11_layHits.2.1 47 = .ok (.invokestatic 172, 3) := by decide +kernel
theorem dX11_layHits_50 : decode mX11_layHits.2.1 50 = .ok (.iconst 1, 1) := by decide +kernel
theorem dX11_layHits_51 : decode mX11_layHits.2.1 51 = .ok (.isub, 1) := by decide +kernel
theorem dX11_layHits_52 : decode mX11_layHits.2.1 52 = .ok (.istore 4, 2) := by decide +kernel
theorem dX11_layHits_54 : decode mX11_layHits.2.1 54 = .ok (.iconst 0, 1) := by decide +kernel
theorem dX11_layHits_55 : decode mX11_layHits.2.1 55 = .ok (.istore 5, 2) := by decide +kernel
theorem dX11_layHits_57 : decode mX11_layHits.2.1 57 = .ok (.iload 5, 2) := by decide +kernel
theorem dX11_layHits_59 : decode mX11_layHits.2.1 59 = .ok (.iload_n 2, 1) := by decide +kernel
theorem dX11_layHits_60 : decode mX11_layHits.2.1 60 = .ok (.if_icmp .ge 92, 3) := by decide +kernel
theorem dX11_layHits_63 : decode mX11_layHits.2.1 63 = .ok (.iload_n 3, 1) := by decide +kernel
theorem dX11_layHits_64 : decode mX11_layHits.2.1 64 = .ok (.iload 5, 2) := by decide +kernel
theorem dX11_layHits_66 : decode mX11_layHits.2.1 66 = .ok (.ishr, 1) := by decide +kernel
theorem dX11_layHits_67 : decode mX11_layHits.2.1 67 = .ok (.iconst 1, 1) := by decide +kernel
theorem dX11_layHits_68 : decode mX11_layHits.2.1 68 = .ok (.iand, 1) := by decide +kernel
theorem dX11_layHits_69 : decode mX11_layHits.2.1 69 = .ok (.iconst 1, 1) := by decide +kernel
theorem dX11_layHits_70 : decode mX11_layHits.2.1 70 = .ok (.if_icmp .ne 76, 3) := by decide +kernel
theorem dX11_layHits_73 : decode mX11_layHits.2.1 73 = .ok (.aload_n 0, 1) := by decide +kernel
theorem dX11_layHits_74 : decode mX11_layHits.2.1 74 = .ok (.iload_n 1, 1) := by decide +kernel
theorem dX11_layHits_75 : decode mX11_layHits.2.1 75 = .ok (.iload 4, 2) := by decide +kernel
theorem dX11_layHits_77 : decode mX11_layHits.2.1 77 = .ok (.iload 5, 2) := by decide +kernel
theorem dX11_layHits_79 : decode mX11_layHits.2.1 79 = .ok (.invokevirtual 189, 3) := by decide +kernel
theorem dX11_layHits_82 : decode mX11_layHits.2.1 82 = .ok (.ifCond .eq 7, 3) := by decide +kernel
theorem dX11_layHits_85 : decode mX11_layHits.2.1 85 = .ok (.iconst 1, 1) := by decide +kernel
theorem dX11_layHits_86 : decode mX11_layHits.2.1 86 = .ok (.goto 4, 3) := by decide +kernel
theorem dX11_layHits_89 : decode mX11_layHits.2.1 89 = .ok (.iconst 0, 1) := by decide +kernel
theorem dX11_layHits_90 : decode mX11_layHits.2.1 90 = .ok (.istore 6, 2) := by decide +kernel
theorem dX11_layHits_92 : decode mX11_layHits.2.1 92 = .ok (.iload 6, 2) := by decide +kernel
theorem dX11_layHits_94 : decode mX11_layHits.2.1 94 = .ok (.istore 7, 2) := by decide +kernel
theorem dX11_layHits_96 : decode mX11_layHits.2.1 96 = .ok (.iload 7, 2) := by decide +kernel
theorem dX11_layHits_98 : decode mX11_layHits.2.1 98 = .ok (.bipush 7, 2) := by decide +kernel
theorem dX11_layHits_100 : decode mX11_layHits.2.1 100 = .ok (.if_icmp .ge 46, 3) := by decide +kernel
theorem dX11_layHits_103 : decode mX11_layHits.2.1 103 = .ok (.aload_n 0, 1) := by decide +kernel
theorem dX11_layHits_104 : decode mX11_layHits.2.1 104 = .ok (.getfield 106, 3) := by decide +kernel
theorem dX11_layHits_107 : decode mX11_layHits.2.1 107 = .ok (.bipush 7, 2) := by decide +kernel
theorem dX11_layHits_109 : decode mX11_layHits.2.1 109 = .ok (.iload_n 3, 1) := by decide +kernel
theorem dX11_layHits_110 : decode mX11_layHits.2.1 110 = .ok (.imul, 1) := by decide +kernel
theorem dX11_layHits_111 : decode mX11_layHits.2.1 111 = .ok (.iload 7, 2) := by decide +kernel
theorem dX11_layHits_113 : decode mX11_layHits.2.1 113 = .ok (.iadd, 1) := by decide +kernel
theorem dX11_layHits_114 : decode mX11_layHits.2.1 114 = .ok (.dup2, 1) := by decide +kernel
theorem dX11_layHits_115 : decode mX11_layHits.2.1 115 = .ok (.iaload, 1) := by decide +kernel
theorem dX11_layHits_116 : decode mX11_layHits.2.1 116 = .ok (.aload_n 0, 1) := by decide +kernel
theorem dX11_layHits_117 : decode mX11_layHits.2.1 117 = .ok (.getfield 106, 3) := by decide +kernel
theorem dX11_layHits_120 : decode mX11_layHits.2.1 120 = .ok (.bipush 7, 2) := by decide +kernel
theorem dX11_layHits_122 : decode mX11_layHits.2.1 122 = .ok (.iload_n 3, 1) := by decide +kernel
theorem dX11_layHits_123 : decode mX11_layHits.2.1 123 = .ok (.iconst 1, 1) := by decide +kernel
theorem dX11_layHits_124 : decode mX11_layHits.2.1 124 = .ok (.iload 5, 2) := by decide +kernel
theorem dX11_layHits_126 : decode mX11_layHits.2.1 126 = .ok (.ishl, 1) := by decide +kernel
theorem dX11_layHits_127 : decode mX11_layHits.2.1 127 = .ok (.iconst (-1), 1) := by decide +kernel
theorem dX11_layHits_128 : decode mX11_layHits.2.1 128 = .ok (.ixor, 1) := by decide +kernel
theorem dX11_layHits_129 : decode mX11_layHits.2.1 129 = .ok (.iand, 1) := by decide +kernel
theorem dX11_layHits_130 : decode mX11_layHits.2.1 130 = .ok (.imul, 1) := by decide +kernel
theorem dX11_layHits_131 : decode mX11_layHits.2.1 131 = .ok (.iload 7, 2) := by decide +kernel
theorem dX11_layHits_133 : decode mX11_layHits.2.1 133 = .ok (.iadd, 1) := by decide +kernel
theorem dX11_layHits_134 : decode mX11_layHits.2.1 134 = .ok (.iload 6, 2) := by decide +kernel
theorem dX11_layHits_136 : decode mX11_layHits.2.1 136 = .ok (.isub, 1) := by decide +kernel
theorem dX11_layHits_137 : decode mX11_layHits.2.1 137 = .ok (.iaload, 1) := by decide +kernel
theorem dX11_layHits_138 : decode mX11_layHits.2.1 138 = .ok (.iadd, 1) := by decide +kernel
theorem dX11_layHits_139 : decode mX11_layHits.2.1 139 = .ok (.iastore, 1) := by decide +kernel
theorem dX11_layHits_140 : decode mX11_layHits.2.1 140 = .ok (.iinc 7 1, 3) := by decide +kernel
theorem dX11_layHits_143 : decode mX11_layHits.2.1 143 = .ok (.goto (-47), 3) := by decide +kernel
theorem dX11_layHits_146 : decode mX11_layHits.2.1 146 = .ok (.iinc 5 1, 3) := by decide +kernel
theorem dX11_layHits_149 : decode mX11_layHits.2.1 149 = .ok (.goto (-92), 3) := by decide +kernel
theorem dX11_layHits_152 : decode mX11_layHits.2.1 152 = .ok (.iinc 3 1, 3) := by decide +kernel
theorem dX11_layHits_155 : decode mX11_layHits.2.1 155 = .ok (.goto (-116), 3) := by decide +kernel
theorem dX11_layHits_158 : decode mX11_layHits.2.1 158 = .ok (.return_, 1) := by decide +kernel
def mX11_hitsOf : String × ByteArray × Nat := (RX11, cX11_hitsOf, 3)
theorem dX11_hitsOf_0 : decode mX11_hitsOf.2.1 0 = .ok (.iload_n 2, 1) := by decide +kernel
theorem dX11_hitsOf_1 : decode mX11_hitsOf.2.1 1 = .ok (.bipush 7, 2) := by decide +kernel
theorem dX11_hitsOf_3 : decode mX11_hitsOf.2.1 3 = .ok (.if_icmp .ge 26, 3) := by decide +kernel
theorem dX11_hitsOf_6 : decode mX11_hitsOf.2.1 6 = .ok (.aload_n 0, 1) := by decide +kernel
theorem dX11_hitsOf_7 : decode mX11_hitsOf.2.1 7 = .ok (.getfield 106, 3) := by decide +kernel
theorem dX11_hitsOf_10 : decode mX11_hitsOf.2.1 10 = .ok (.bipush 7, 2) := by decide +kernel
theorem dX11_hitsOf_12 : decode mX11_hitsOf.2.1 12 = .ok (.iconst 1, 1) := by decide +kernel
theorem dX11_hitsOf_13 : decode mX11_hitsOf.2.1 13 = .ok (.aload_n 0, 1) := by decide +kernel
theorem dX11_hitsOf_14 : decode mX11_hitsOf.2.1 14 = .ok (.getfield 22, 3) := by decide +kernel
theorem dX11_hitsOf_17 : decode mX11_hitsOf.2.1 17 = .ok (.iload_n 1, 1) := by decide +kernel
theorem dX11_hitsOf_18 : decode mX11_hitsOf.2.1 18 = .ok (.iaload, 1) := by decide +kernel
theorem dX11_hitsOf_19 : decode mX11_hitsOf.2.1 19 = .ok (.ishl, 1) := by decide +kernel
theorem dX11_hitsOf_20 : decode mX11_hitsOf.2.1 20 = .ok (.iconst 1, 1) := by decide +kernel
theorem dX11_hitsOf_21 : decode mX11_hitsOf.2.1 21 = .ok (.isub, 1) := by decide +kernel
theorem dX11_hitsOf_22 : decode mX11_hitsOf.2.1 22 = .ok (.imul, 1) := by decide +kernel
theorem dX11_hitsOf_23 : decode mX11_hitsOf.2.1 23 = .ok (.iload_n 2, 1) := by decide +kernel
theorem dX11_hitsOf_24 : decode mX11_hitsOf.2.1 24 = .ok (.iadd, 1) := by decide +kernel
theorem dX11_hitsOf_25 : decode mX11_hitsOf.2.1 25 = .ok (.iaload, 1) := by decide +kernel
theorem dX11_hitsOf_26 : decode mX11_hitsOf.2.1 26 = .ok (.goto 4, 3) := by decide +kernel
theorem dX11_hitsOf_29 : decode mX11_hitsOf.2.1 29 = .ok (.iconst 0, 1) := by decide +kernel
theorem dX11_hitsOf_30 : decode mX11_hitsOf.2.1 30 = .ok (.ireturn, 1) := by decide +kernel
def mX11_hits : String × ByteArray × Nat := (RX11, cX11_hits, 3)
theorem dX11_hits_0 : decode mX11_hits.2.1 0 = .ok (.iload_n 1, 1) := by decide +kernel
theorem dX11_hits_1 : decode mX11_hits.2.1 1 = .ok (.invokestatic 133, 3) := by decide +kernel
theorem dX11_hits_4 : decode mX11_hits.2.1 4 = .ok (.ifCond .eq 7, 3) := by decide +kernel
theorem dX11_hits_7 : decode mX11_hits.2.1 7 = .ok (.iload_n 2, 1) := by decide +kernel
theorem dX11_hits_8 : decode mX11_hits.2.1 8 = .ok (.ifCond .ge 5, 3) := by decide +kernel
theorem dX11_hits_11 : decode mX11_hits.2.1 11 = .ok (.iconst (-1), 1) := by decide +kernel
theorem dX11_hits_12 : decode mX11_hits.2.1 12 = .ok (.ireturn, 1) := by decide +kernel
theorem dX11_hits_13 : decode mX11_hits.2.1 13 = .ok (.aload_n 0, 1) := by decide +kernel
theorem dX11_hits_14 : decode mX11_hits.2.1 14 = .ok (.iload_n 1, 1) := by decide +kernel
theorem dX11_hits_15 : decode mX11_hits.2.1 15 = .ok (.invokevirtual 196, 3) := by decide +kernel
theorem dX11_hits_18 : decode mX11_hits.2.1 18 = .ok (.aload_n 0, 1) := by decide +kernel
theorem dX11_hits_19 : decode mX11_hits.2.1 19 = .ok (.iload_n 1, 1) := by decide +kernel
theorem dX11_hits_20 : decode mX11_hits.2.1 20 = .ok (.iload_n 2, 1) := by decide +kernel
theorem dX11_hits_21 : decode mX11_hits.2.1 21 = .ok (.invokevirtual 199, 3) := by decide +kernel
theorem dX11_hits_24 : decode mX11_hits.2.1 24 = .ok (.ireturn, 1) := by decide +kernel
def mX11_isSteps : String × ByteArray × Nat := (RX11, cX11_isSteps, 5)
theorem dX11_isSteps_0 : decode mX11_isSteps.2.1 0 = .ok (.iconst 0, 1) := by decide +kernel
theorem dX11_isSteps_1 : decode mX11_isSteps.2.1 1 = .ok (.istore_n 2, 1) := by decide +kernel
theorem dX11_isSteps_2 : decode mX11_isSteps.2.1 2 = .ok (.iconst 0, 1) := by decide +kernel
theorem dX11_isSteps_3 : decode mX11_isSteps.2.1 3 = .ok (.istore_n 3, 1) := by decide +kernel
theorem dX11_isSteps_4 : decode mX11_isSteps.2.1 4 = .ok (.iload_n 3, 1) := by decide +kernel
theorem dX11_isSteps_5 : decode mX11_isSteps.2.1 5 = .ok (.aload_n 0, 1) := by decide +kernel
theorem dX11_isSteps_6 : decode mX11_isSteps.2.1 6 = .ok (.getfield 22, 3) := by decide +kernel
theorem dX11_isSteps_9 : decode mX11_isSteps.2.1 9 = .ok (.iload_n 1, 1) := by decide +kernel
theorem dX11_isSteps_10 : decode mX11_isSteps.2.1 10 = .ok (.iaload, 1) := by decide +kernel
theorem dX11_isSteps_11 : decode mX11_isSteps.2.1 11 = .ok (.if_icmp .ge 43, 3) := by decide +kernel
theorem dX11_isSteps_14 : decode mX11_isSteps.2.1 14 = .ok (.aload_n 0, 1) := by decide +kernel
theorem dX11_isSteps_15 : decode mX11_isSteps.2.1 15 = .ok (.getfield 25, 3) := by decide +kernel
theorem dX11_isSteps_18 : decode mX11_isSteps.2.1 18 = .ok (.bipush 6, 2) := by decide +kernel
theorem dX11_isSteps_20 : decode mX11_isSteps.2.1 20 = .ok (.iload_n 1, 1) := by decide +kernel
theorem dX11_isSteps_21 : decode mX11_isSteps.2.1 21 = .ok (.imul, 1) := by decide +kernel
theorem dX11_isSteps_22 : decode mX11_isSteps.2.1 22 = .ok (.iload_n 3, 1) := by decide +kernel
theorem dX11_isSteps_23 : decode mX11_isSteps.2.1 23 = .ok (.iadd, 1) := by decide +kernel
theorem dX11_isSteps_24 : decode mX11_isSteps.2.1 24 = .ok (.iaload, 1) := by decide +kernel
theorem dX11_isSteps_25 : decode mX11_isSteps.2.1 25 = .ok (.istore 4, 2) := by decide +kernel
theorem dX11_isSteps_27 : decode mX11_isSteps.2.1 27 = .ok (.iload 4, 2) := by decide +kernel
theorem dX11_isSteps_29 : decode mX11_isSteps.2.1 29 = .ok (.iload 4, 2) := by decide +kernel
theorem dX11_isSteps_31 : decode mX11_isSteps.2.1 31 = .ok (.iconst 1, 1) := by decide +kernel
theorem dX11_isSteps_32 : decode mX11_isSteps.2.1 32 = .ok (.iadd, 1) := by decide +kernel
theorem dX11_isSteps_33 : decode mX11_isSteps.2.1 33 = .ok (.iand, 1) := by decide +kernel
theorem dX11_isSteps_34 : decode mX11_isSteps.2.1 34 = .ok (.ifCond .ne 9, 3) := by decide +kernel
theorem dX11_isSteps_37 : decode mX11_isSteps.2.1 37 = .ok (.iload 4, 2) := by decide +kernel
theorem dX11_isSteps_39 : decode mX11_isSteps.2.1 39 = .ok (.iload_n 2, 1) := by decide +kernel
theorem dX11_isSteps_40 : decode mX11_isSteps.2.1 40 = .ok (.if_icmp .ge 5, 3) := by decide +kernel
theorem dX11_isSteps_43 : decode mX11_isSteps.2.1 43 = .ok (.iconst 0, 1) := by decide +kernel
theorem dX11_isSteps_44 : decode mX11_isSteps.2.1 44 = .ok (.ireturn, 1) := by decide +kernel
theorem dX11_isSteps_45 : decode mX11_isSteps.2.1 45 = .ok (.iload 4, 2) := by decide +kernel
theorem dX11_isSteps_47 : decode mX11_isSteps.2.1 47 = .ok (.istore_n 2, 1) := by decide +kernel
theorem dX11_isSteps_48 : decode mX11_isSteps.2.1 48 = .ok (.iinc 3 1, 3) := by decide +kernel
theorem dX11_isSteps_51 : decode mX11_isSteps.2.1 51 = .ok (.goto (-47), 3) := by decide +kernel
theorem dX11_isSteps_54 : decode mX11_isSteps.2.1 54 = .ok (.iconst 1, 1) := by decide +kernel
theorem dX11_isSteps_55 : decode mX11_isSteps.2.1 55 = .ok (.ireturn, 1) := by decide +kernel
def mX11_factored : String × ByteArray × Nat := (RX11, cX11_factored, 10)
theorem dX11_factored_0 : decode mX11_factored.2.1 0 = .ok (.iload_n 1, 1) := by decide +kernel
theorem dX11_factored_1 : decode mX11_factored.2.1 1 = .ok (.invokestatic 133, 3) := by decide +kernel
theorem dX11_factored_4 : decode mX11_factored.2.1 4 = .ok (.ifCond .eq 15, 3) := by decide +kernel
theorem dX11_factored_7 : decode mX11_factored.2.1 7 = .ok (.iload_n 2, 1) := by decide +kernel
theorem dX11_factored_8 : decode mX11_factored.2.1 8 = .ok (.i2l, 1) := by decide +kernel
theorem dX11_factored_9 : decode mX11_factored.2.1 9 = .ok (.lconst 0, 1) := by decide +kernel
theorem dX11_factored_10 : decode mX11_factored.2.1 10 = .ok (.ldc2_w 147, 3) := by decide +kernel
theorem dX11_factored_13 : decode mX11_factored.2.1 13 = .ok (.invokestatic 129, 3) := by decide +kernel
theorem dX11_factored_16 : decode mX11_factored.2.1 16 = .ok (.ifCond .ne 7, 3) := by decide +kernel
theorem dX11_factored_19 : decode mX11_factored.2.1 19 = .ok (.ldc2_w 149, 3) := by decide +kernel
theorem dX11_factored_22 : decode mX11_factored.2.1 22 = .ok (.lreturn, 1) := by decide +kernel
theorem dX11_factored_23 : decode mX11_factored.2.1 23 = .ok (.aload_n 0, 1) := by decide +kernel
theorem dX11_factored_24 : decode mX11_factored.2.1 24 = .ok (.iload_n 1, 1) := by decide +kernel
theorem dX11_factored_25 : decode mX11_factored.2.1 25 = .ok (.invokevirtual 193, 3) := by decide +kernel
theorem dX11_factored_28 : decode mX11_factored.2.1 28 = .ok (.aload_n 0, 1) := by decide +kernel
theorem dX11_factored_29 : decode mX11_factored.2.1 29 = .ok (.getfield 22, 3) := by decide +kernel
theorem dX11_factored_32 : decode mX11_factored.2.1 32 = .ok (.iload_n 1, 1) := by decide +kernel
theorem dX11_factored_33 : decode mX11_factored.2.1 33 = .ok (.iaload, 1) := by decide +kernel
theorem dX11_factored_34 : decode mX11_factored.2.1 34 = .ok (.istore_n 3, 1) := by decide +kernel
theorem dX11_factored_35 : decode mX11_factored.2.1 35 = .ok (.lconst 0, 1) := by decide +kernel
theorem dX11_factored_36 : decode mX11_factored.2.1 36 = .ok (.lstore 4, 2) := by decide +kernel
theorem dX11_factored_38 : decode mX11_factored.2.1 38 = .ok (.iconst 0, 1) := by decide +kernel
theorem dX11_factored_39 : decode mX11_factored.2.1 39 = .ok (.istore 6, 2) := by decide +kernel
theorem dX11_factored_41 : decode mX11_factored.2.1 41 = .ok (.iload 6, 2) := by decide +kernel
theorem dX11_factored_43 : decode mX11_factored.2.1 43 = .ok (.iload_n 3, 1) := by decide +kernel
theorem dX11_factored_44 : decode mX11_factored.2.1 44 = .ok (.if_icmp .gt 54, 3) := by decide +kernel
theorem dX11_factored_47 : decode mX11_factored.2.1 47 = .ok (.aload_n 0, 1) := by decide +kernel
theorem dX11_factored_48 : decode mX11_factored.2.1 48 = .ok (.getfield 103, 3) := by decide +kernel
theorem dX11_factored_51 : decode mX11_factored.2.1 51 = .ok (.iload 6, 2) := by decide +kernel
theorem dX11_factored_53 : decode mX11_factored.2.1 53 = .ok (.iaload, 1) := by decide +kernel
theorem dX11_factored_54 : decode mX11_factored.2.1 54 = .ok (.i2l, 1) := by decide +kernel
theorem dX11_factored_55 : decode mX11_factored.2.1 55 = .ok (.lstore 7, 2) := by decide +kernel
theorem dX11_factored_57 : decode mX11_factored.2.1 57 = .ok (.iconst 0, 1) := by decide +kernel
theorem dX11_factored_58 : decode mX11_factored.2.1 58 = .ok (.istore 9, 2) := by decide +kernel
theorem dX11_factored_60 : decode mX11_factored.2.1 60 = .ok (.iload 9, 2) := by decide +kernel
theorem dX11_factored_62 : decode mX11_factored.2.1 62 = .ok (.iload_n 3, 1) := by decide +kernel
theorem dX11_factored_63 : decode mX11_factored.2.1 63 = .ok (.iload 6, 2) := by decide +kernel
theorem dX11_factored_65 : decode mX11_factored.2.1 65 = .ok (.isub, 1) := by decide +kernel
theorem dX11_factored_66 : decode mX11_factored.2.1 66 = .ok (.if_icmp .ge 19, 3) := by decide +kernel
theorem dX11_factored_69 : decode mX11_factored.2.1 69 = .ok (.lload 7, 2) := by decide +kernel
theorem dX11_factored_71 : decode mX11_factored.2.1 71 = .ok (.iload_n 2, 1) := by decide +kernel
theorem dX11_factored_72 : decode mX11_factored.2.1 72 = .ok (.iload 9, 2) := by decide +kernel
theorem dX11_factored_74 : decode mX11_factored.2.1 74 = .ok (.isub, 1) := by decide +kernel
theorem dX11_factored_75 : decode mX11_factored.2.1 75 = .ok (.i2l, 1) := by decide +kernel
theorem dX11_factored_76 : decode mX11_factored.2.1 76 = .ok (.lmul, 1) := by decide +kernel
theorem dX11_factored_77 : decode mX11_factored.2.1 77 = .ok (.lstore 7, 2) := by decide +kernel
theorem dX11_factored_79 : decode mX11_factored.2.1 79 = .ok (.iinc 9 1, 3) := by decide +kernel
theorem dX11_factored_82 : decode mX11_factored.2.1 82 = .ok (.goto (-22), 3) := by decide +kernel
theorem dX11_factored_85 : decode mX11_factored.2.1 85 = .ok (.lload 4, 2) := by decide +kernel
theorem dX11_factored_87 : decode mX11_factored.2.1 87 = .ok (.lload 7, 2) := by decide +kernel
theorem dX11_factored_89 : decode mX11_factored.2.1 89 = .ok (.ladd, 1) := by decide +kernel
theorem dX11_factored_90 : decode mX11_factored.2.1 90 = .ok (.lstore 4, 2) := by decide +kernel
theorem dX11_factored_92 : decode mX11_factored.2.1 92 = .ok (.iinc 6 1, 3) := by decide +kernel
theorem dX11_factored_95 : decode mX11_factored.2.1 95 = .ok (.goto (-54), 3) := by decide +kernel
theorem dX11_factored_98 : decode mX11_factored.2.1 98 = .ok (.lload 4, 2) := by decide +kernel
theorem dX11_factored_100 : decode mX11_factored.2.1 100 = .ok (.lreturn, 1) := by decide +kernel
def mX11_bySteps : String × ByteArray × Nat := (RX11, cX11_bySteps, 6)
theorem dX11_bySteps_0 : decode mX11_bySteps.2.1 0 = .ok (.iload_n 1, 1) := by decide +kernel
theorem dX11_bySteps_1 : decode mX11_bySteps.2.1 1 = .ok (.invokestatic 133, 3) := by decide +kernel
theorem dX11_bySteps_4 : decode mX11_bySteps.2.1 4 = .ok (.ifCond .eq 23, 3) := by decide +kernel
theorem dX11_bySteps_7 : decode mX11_bySteps.2.1 7 = .ok (.iload_n 2, 1) := by decide +kernel
theorem dX11_bySteps_8 : decode mX11_bySteps.2.1 8 = .ok (.i2l, 1) := by decide +kernel
theorem dX11_bySteps_9 : decode mX11_bySteps.2.1 9 = .ok (.lconst 0, 1) := by decide +kernel
theorem dX11_bySteps_10 : decode mX11_bySteps.2.1 10 = .ok (.ldc2_w 147, 3) := by decide +kernel
theorem dX11_bySteps_13 : decode mX11_bySteps.2.1 13 = .ok (.invokestatic 129, 3) := by decide +kernel
theorem dX11_bySteps_16 : decode mX11_bySteps.2.1 16 = .ok (.ifCond .eq 11, 3) := by decide +kernel
theorem dX11_bySteps_19 : decode mX11_bySteps.2.1 19 = .ok (.aload_n 0, 1) := by decide +kernel
theorem dX11_bySteps_20 : decode mX11_bySteps.2.1 20 = .ok (.iload_n 1, 1) := by decide +kernel
theorem dX11_bySteps_21 : decode mX11_bySteps.2.1 21 = .ok (.invokevirtual 203, 3) := by decide +kernel
theorem dX11_bySteps_24 : decode mX11_bySteps.2.1 24 = .ok (.ifCond .ne 7, 3) := by decide +kernel
theorem dX11_bySteps_27 : decode mX11_bySteps.2.1 27 = .ok (.ldc2_w 149, 3) := by decide +kernel
theorem dX11_bySteps_30 : decode mX11_bySteps.2.1 30 = .ok (.lreturn, 1) := by decide +kernel
theorem dX11_bySteps_31 : decode mX11_bySteps.2.1 31 = .ok (.lconst 1, 1) := by decide +kernel
theorem dX11_bySteps_32 : decode mX11_bySteps.2.1 32 = .ok (.lstore_n 3, 1) := by decide +kernel
theorem dX11_bySteps_33 : decode mX11_bySteps.2.1 33 = .ok (.iconst 0, 1) := by decide +kernel
theorem dX11_bySteps_34 : decode mX11_bySteps.2.1 34 = .ok (.istore 5, 2) := by decide +kernel
theorem dX11_bySteps_36 : decode mX11_bySteps.2.1 36 = .ok (.iload 5, 2) := by decide +kernel
theorem dX11_bySteps_38 : decode mX11_bySteps.2.1 38 = .ok (.aload_n 0, 1) := by decide +kernel
theorem dX11_bySteps_39 : decode mX11_bySteps.2.1 39 = .ok (.getfield 22, 3) := by decide +kernel
theorem dX11_bySteps_42 : decode mX11_bySteps.2.1 42 = .ok (.iload_n 1, 1) := by decide +kernel
theorem dX11_bySteps_43 : decode mX11_bySteps.2.1 43 = .ok (.iaload, 1) := by decide +kernel
theorem dX11_bySteps_44 : decode mX11_bySteps.2.1 44 = .ok (.if_icmp .ge 33, 3) := by decide +kernel
theorem dX11_bySteps_47 : decode mX11_bySteps.2.1 47 = .ok (.lload_n 3, 1) := by decide +kernel
theorem dX11_bySteps_48 : decode mX11_bySteps.2.1 48 = .ok (.iload_n 2, 1) := by decide +kernel
theorem dX11_bySteps_49 : decode mX11_bySteps.2.1 49 = .ok (.aload_n 0, 1) := by decide +kernel
theorem dX11_bySteps_50 : decode mX11_bySteps.2.1 50 = .ok (.getfield 25, 3) := by decide +kernel
theorem dX11_bySteps_53 : decode mX11_bySteps.2.1 53 = .ok (.bipush 6, 2) := by decide +kernel
theorem dX11_bySteps_55 : decode mX11_bySteps.2.1 55 = .ok (.iload_n 1, 1) := by decide +kernel
theorem dX11_bySteps_56 : decode mX11_bySteps.2.1 56 = .ok (.imul, 1) := by decide +kernel
theorem dX11_bySteps_57 : decode mX11_bySteps.2.1 57 = .ok (.iload 5, 2) := by decide +kernel
theorem dX11_bySteps_59 : decode mX11_bySteps.2.1 59 = .ok (.iadd, 1) := by decide +kernel
theorem dX11_bySteps_60 : decode mX11_bySteps.2.1 60 = .ok (.iaload, 1) := by decide +kernel
theorem dX11_bySteps_61 : decode mX11_bySteps.2.1 61 = .ok (.invokestatic 172, 3) := by decide +kernel
theorem dX11_bySteps_64 : decode mX11_bySteps.2.1 64 = .ok (.iadd, 1) := by decide +kernel
theorem dX11_bySteps_65 : decode mX11_bySteps.2.1 65 = .ok (.iload 5, 2) := by decide +kernel
theorem dX11_bySteps_67 : decode mX11_bySteps.2.1 67 = .ok (.isub, 1) := by decide +kernel
theorem dX11_bySteps_68 : decode mX11_bySteps.2.1 68 = .ok (.i2l, 1) := by decide +kernel
theorem dX11_bySteps_69 : decode mX11_bySteps.2.1 69 = .ok (.lmul, 1) := by decide +kernel
theorem dX11_bySteps_70 : decode mX11_bySteps.2.1 70 = .ok (.lstore_n 3, 1) := by decide +kernel
theorem dX11_bySteps_71 : decode mX11_bySteps.2.1 71 = .ok (.iinc 5 1, 3) := by decide +kernel
theorem dX11_bySteps_74 : decode mX11_bySteps.2.1 74 = .ok (.goto (-38), 3) := by decide +kernel
theorem dX11_bySteps_77 : decode mX11_bySteps.2.1 77 = .ok (.lload_n 3, 1) := by decide +kernel
theorem dX11_bySteps_78 : decode mX11_bySteps.2.1 78 = .ok (.lreturn, 1) := by decide +kernel
def mX11_layAll : String × ByteArray × Nat := (RX11, cX11_layAll, 6)
theorem dX11_layAll_0 : decode mX11_layAll.2.1 0 = .ok (.aload_n 0, 1) := by decide +kernel
theorem dX11_layAll_1 : decode mX11_layAll.2.1 1 = .ok (.getfield 206, 3) := by decide +kernel
theorem dX11_layAll_4 : decode mX11_layAll.2.1 4 = .ok (.iload_n 1, 1) := by decide +kernel
theorem dX11_layAll_5 : decode mX11_layAll.2.1 5 = .ok (.if_icmp .ne 4, 3) := by decide +kernel
theorem dX11_layAll_8 : decode mX11_layAll.2.1 8 = .ok (.return_, 1) := by decide +kernel
theorem dX11_layAll_9 : decode mX11_layAll.2.1 9 = .ok (.aload_n 0, 1) := by decide +kernel
theorem dX11_layAll_10 : decode mX11_layAll.2.1 10 = .ok (.iload_n 1, 1) := by decide +kernel
theorem dX11_layAll_11 : decode mX11_layAll.2.1 11 = .ok (.putfield 206, 3) := by decide +kernel
theorem dX11_layAll_14 : decode mX11_layAll.2.1 14 = .ok (.aload_n 0, 1) := by decide +kernel
theorem dX11_layAll_15 : decode mX11_layAll.2.1 15 = .ok (.iconst 0, 1) := by decide +kernel
theorem dX11_layAll_16 : decode mX11_layAll.2.1 16 = .ok (.putfield 209, 3) := by decide +kernel
theorem dX11_layAll_19 : decode mX11_layAll.2.1 19 = .ok (.iconst 0, 1) := by decide +kernel
theorem dX11_layAll_20 : decode mX11_layAll.2.1 20 = .ok (.istore_n 2, 1) := by decide +kernel
theorem dX11_layAll_21 : decode mX11_layAll.2.1 21 = .ok (.iload_n 2, 1) := by decide +kernel
theorem dX11_layAll_22 : decode mX11_layAll.2.1 22 = .ok (.iload_n 1, 1) := by decide +kernel
theorem dX11_layAll_23 : decode mX11_layAll.2.1 23 = .ok (.if_icmp .ge 16, 3) := by decide +kernel
theorem dX11_layAll_26 : decode mX11_layAll.2.1 26 = .ok (.aload_n 0, 1) := by decide +kernel
theorem dX11_layAll_27 : decode mX11_layAll.2.1 27 = .ok (.getfield 94, 3) := by decide +kernel
theorem dX11_layAll_30 : decode mX11_layAll.2.1 30 = .ok (.iload_n 2, 1) := by decide +kernel
theorem dX11_layAll_31 : decode mX11_layAll.2.1 31 = .ok (.iconst 0, 1) := by decide +kernel
theorem dX11_layAll_32 : decode mX11_layAll.2.1 32 = .ok (.iastore, 1) := by decide +kernel
theorem dX11_layAll_33 : decode mX11_layAll.2.1 33 = .ok (.iinc 2 1, 3) := by decide +kernel
theorem dX11_layAll_36 : decode mX11_layAll.2.1 36 = .ok (.goto (-15), 3) := by decide +kernel
theorem dX11_layAll_39 : decode mX11_layAll.2.1 39 = .ok (.iconst 1, 1) := by decide +kernel
theorem dX11_layAll_40 : decode mX11_layAll.2.1 40 = .ok (.istore_n 2, 1) := by decide +kernel
theorem dX11_layAll_41 : decode mX11_layAll.2.1 41 = .ok (.iload_n 2, 1) := by decide +kernel
theorem dX11_layAll_42 : decode mX11_layAll.2.1 42 = .ok (.ifCond .eq 83, 3) := by decide +kernel
theorem dX11_layAll_45 : decode mX11_layAll.2.1 45 = .ok (.aload_n 0, 1) := by decide +kernel
theorem dX11_layAll_46 : decode mX11_layAll.2.1 46 = .ok (.iload_n 1, 1) := by decide +kernel
theorem dX11_layAll_47 : decode mX11_layAll.2.1 47 = .ok (.invokevirtual 212, 3) := by decide +kernel
theorem dX11_layAll_50 : decode mX11_layAll.2.1 50 = .ok (.iload_n 1, 1) := by decide +kernel
theorem dX11_layAll_51 : decode mX11_layAll.2.1 51 = .ok (.iconst 1, 1) := by decide +kernel
theorem dX11_layAll_52 : decode mX11_layAll.2.1 52 = .ok (.isub, 1) := by decide +kernel
theorem dX11_layAll_53 : decode mX11_layAll.2.1 53 = .ok (.istore_n 3, 1) := by decide +kernel
theorem dX11_layAll_54 : decode mX11_layAll.2.1 54 = .ok (.iload_n 3, 1) := by decide +kernel
theorem dX11_layAll_55 : decode mX11_layAll.2.1 55 = .ok (.ifCond .lt 19, 3) := by decide +kernel
theorem dX11_layAll_58 : decode mX11_layAll.2.1 58 = .ok (.aload_n 0, 1) := by decide +kernel
theorem dX11_layAll_59 : decode mX11_layAll.2.1 59 = .ok (.getfield 94, 3) := by decide +kernel
theorem dX11_layAll_62 : decode mX11_layAll.2.1 62 = .ok (.iload_n 3, 1) := by decide +kernel
theorem dX11_layAll_63 : decode mX11_layAll.2.1 63 = .ok (.iaload, 1) := by decide +kernel
theorem dX11_layAll_64 : decode mX11_layAll.2.1 64 = .ok (.iload_n 1, 1) := by decide +kernel
theorem dX11_layAll_65 : decode mX11_layAll.2.1 65 = .ok (.if_icmp .ne 9, 3) := by decide +kernel
theorem dX11_layAll_68 : decode mX11_layAll.2.1 68 = .ok (.iinc 3 (-1), 3) := by decide +kernel
theorem dX11_layAll_71 : decode mX11_layAll.2.1 71 = .ok (.goto (-17), 3) := by decide +kernel
theorem dX11_layAll_74 : decode mX11_layAll.2.1 74 = .ok (.iload_n 3, 1) := by decide +kernel
theorem dX11_layAll_75 : decode mX11_layAll.2.1 75 = .ok (.ifCond .lt 7, 3) := by decide +kernel
theorem dX11_layAll_78 : decode mX11_layAll.2.1 78 = .ok (.iconst 1, 1) := by decide +kernel
theorem dX11_layAll_79 : decode mX11_layAll.2.1 79 = .ok (.goto 4, 3) := by decide +kernel
theorem dX11_layAll_82 : decode mX11_layAll.2.1 82 = .ok (.iconst 0, 1) := by decide +kernel
theorem dX11_layAll_83 : decode mX11_layAll.2.1 83 = .ok (.istore_n 2, 1) := by decide +kernel
theorem dX11_layAll_84 : decode mX11_layAll.2.1 84 = .ok (.iload_n 2, 1) := by decide +kernel
theorem dX11_layAll_85 : decode mX11_layAll.2.1 85 = .ok (.ifCond .eq 37, 3) := by decide +kernel
theorem dX11_layAll_88 : decode mX11_layAll.2.1 88 = .ok (.aload_n 0, 1) := by decide +kernel
theorem dX11_layAll_89 : decode mX11_layAll.2.1 89 = .ok (.getfield 94, 3) := by decide +kernel
theorem dX11_layAll_92 : decode mX11_layAll.2.1 92 = .ok (.iload_n 3, 1) := by decide +kernel
theorem dX11_layAll_93 : decode mX11_layAll.2.1 93 = .ok (.iaload, 1) := by decide +kernel
theorem dX11_layAll_94 : decode mX11_layAll.2.1 94 = .ok (.iconst 1, 1) := by decide +kernel
theorem dX11_layAll_95 : decode mX11_layAll.2.1 95 = .ok (.iadd, 1) := by decide +kernel
theorem dX11_layAll_96 : decode mX11_layAll.2.1 96 = .ok (.istore 4, 2) := by decide +kernel
theorem dX11_layAll_98 : decode mX11_layAll.2.1 98 = .ok (.iload_n 3, 1) := by decide +kernel
theorem dX11_layAll_99 : decode mX11_layAll.2.1 99 = .ok (.istore 5, 2) := by decide +kernel
theorem dX11_layAll_101 : decode mX11_layAll.2.1 101 = .ok (.iload 5, 2) := by decide +kernel
theorem dX11_layAll_103 : decode mX11_layAll.2.1 103 = .ok (.iload_n 1, 1) := by decide +kernel
theorem dX11_layAll_104 : decode mX11_layAll.2.1 104 = .ok (.if_icmp .ge 18, 3) := by decide +kernel
theorem dX11_layAll_107 : decode mX11_layAll.2.1 107 = .ok (.aload_n 0, 1) := by decide +kernel
theorem dX11_layAll_108 : decode mX11_layAll.2.1 108 = .ok (.getfield 94, 3) := by decide +kernel
theorem dX11_layAll_111 : decode mX11_layAll.2.1 111 = .ok (.iload 5, 2) := by decide +kernel
theorem dX11_layAll_113 : decode mX11_layAll.2.1 113 = .ok (.iload 4, 2) := by decide +kernel
theorem dX11_layAll_115 : decode mX11_layAll.2.1 115 = .ok (.iastore, 1) := by decide +kernel
theorem dX11_layAll_116 : decode mX11_layAll.2.1 116 = .ok (.iinc 5 1, 3) := by decide +kernel
theorem dX11_layAll_119 : decode mX11_layAll.2.1 119 = .ok (.goto (-18), 3) := by decide +kernel
theorem dX11_layAll_122 : decode mX11_layAll.2.1 122 = .ok (.goto (-81), 3) := by decide +kernel
theorem dX11_layAll_125 : decode mX11_layAll.2.1 125 = .ok (.return_, 1) := by decide +kernel
def mX11_layOne : String × ByteArray × Nat := (RX11, cX11_layOne, 5)
theorem dX11_layOne_0 : decode mX11_layOne.2.1 0 = .ok (.iconst 0, 1) := by decide +kernel
theorem dX11_layOne_1 : decode mX11_layOne.2.1 1 = .ok (.istore_n 2, 1) := by decide +kernel
theorem dX11_layOne_2 : decode mX11_layOne.2.1 2 = .ok (.iload_n 2, 1) := by decide +kernel
theorem dX11_layOne_3 : decode mX11_layOne.2.1 3 = .ok (.bipush 7, 2) := by decide +kernel
theorem dX11_layOne_5 : decode mX11_layOne.2.1 5 = .ok (.if_icmp .ge 32, 3) := by decide +kernel
theorem dX11_layOne_8 : decode mX11_layOne.2.1 8 = .ok (.aload_n 0, 1) := by decide +kernel
theorem dX11_layOne_9 : decode mX11_layOne.2.1 9 = .ok (.getfield 112, 3) := by decide +kernel
theorem dX11_layOne_12 : decode mX11_layOne.2.1 12 = .ok (.bipush 7, 2) := by decide +kernel
theorem dX11_layOne_14 : decode mX11_layOne.2.1 14 = .ok (.aload_n 0, 1) := by decide +kernel
theorem dX11_layOne_15 : decode mX11_layOne.2.1 15 = .ok (.getfield 209, 3) := by decide +kernel
theorem dX11_layOne_18 : decode mX11_layOne.2.1 18 = .ok (.imul, 1) := by decide +kernel
theorem dX11_layOne_19 : decode mX11_layOne.2.1 19 = .ok (.iload_n 2, 1) := by decide +kernel
theorem dX11_layOne_20 : decode mX11_layOne.2.1 20 = .ok (.iadd, 1) := by decide +kernel
theorem dX11_layOne_21 : decode mX11_layOne.2.1 21 = .ok (.iload_n 2, 1) := by decide +kernel
theorem dX11_layOne_22 : decode mX11_layOne.2.1 22 = .ok (.ifCond .ne 7, 3) := by decide +kernel
theorem dX11_layOne_25 : decode mX11_layOne.2.1 25 = .ok (.iconst 1, 1) := by decide +kernel
theorem dX11_layOne_26 : decode mX11_layOne.2.1 26 = .ok (.goto 4, 3) := by decide +kernel
theorem dX11_layOne_29 : decode mX11_layOne.2.1 29 = .ok (.iconst 0, 1) := by decide +kernel
theorem dX11_layOne_30 : decode mX11_layOne.2.1 30 = .ok (.iastore, 1) := by decide +kernel
theorem dX11_layOne_31 : decode mX11_layOne.2.1 31 = .ok (.iinc 2 1, 3) := by decide +kernel
theorem dX11_layOne_34 : decode mX11_layOne.2.1 34 = .ok (.goto (-32), 3) := by decide +kernel
theorem dX11_layOne_37 : decode mX11_layOne.2.1 37 = .ok (.iconst 0, 1) := by decide +kernel
theorem dX11_layOne_38 : decode mX11_layOne.2.1 38 = .ok (.istore_n 2, 1) := by decide +kernel
theorem dX11_layOne_39 : decode mX11_layOne.2.1 39 = .ok (.iload_n 2, 1) := by decide +kernel
theorem dX11_layOne_40 : decode mX11_layOne.2.1 40 = .ok (.iload_n 1, 1) := by decide +kernel
theorem dX11_layOne_41 : decode mX11_layOne.2.1 41 = .ok (.if_icmp .ge 96, 3) := by decide +kernel
theorem dX11_layOne_44 : decode mX11_layOne.2.1 44 = .ok (.aload_n 0, 1) := by decide +kernel
theorem dX11_layOne_45 : decode mX11_layOne.2.1 45 = .ok (.getfield 109, 3) := by decide +kernel
theorem dX11_layOne_48 : decode mX11_layOne.2.1 48 = .ok (.bipush 6, 2) := by decide +kernel
theorem dX11_layOne_50 : decode mX11_layOne.2.1 50 = .ok (.aload_n 0, 1) := by decide +kernel
theorem dX11_layOne_51 : decode mX11_layOne.2.1 51 = .ok (.getfield 209, 3) := by decide +kernel
theorem dX11_layOne_54 : decode mX11_layOne.2.1 54 = .ok (.imul, 1) := by decide +kernel
theorem dX11_layOne_55 : decode mX11_layOne.2.1 55 = .ok (.iload_n 2, 1) := by decide +kernel
theorem dX11_layOne_56 : decode mX11_layOne.2.1 56 = .ok (.iadd, 1) := by decide +kernel
theorem dX11_layOne_57 : decode mX11_layOne.2.1 57 = .ok (.aload_n 0, 1) := by decide +kernel
theorem dX11_layOne_58 : decode mX11_layOne.2.1 58 = .ok (.getfield 94, 3) := by decide +kernel
theorem dX11_layOne_61 : decode mX11_layOne.2.1 61 = .ok (.iload_n 2, 1) := by decide +kernel
theorem dX11_layOne_62 : decode mX11_layOne.2.1 62 = .ok (.iaload, 1) := by decide +kernel
theorem dX11_layOne_63 : decode mX11_layOne.2.1 63 = .ok (.iastore, 1) := by decide +kernel
theorem dX11_layOne_64 : decode mX11_layOne.2.1 64 = .ok (.iconst 5, 1) := by decide +kernel
theorem dX11_layOne_65 : decode mX11_layOne.2.1 65 = .ok (.istore_n 3, 1) := by decide +kernel
theorem dX11_layOne_66 : decode mX11_layOne.2.1 66 = .ok (.iload_n 3, 1) := by decide +kernel
theorem dX11_layOne_67 : decode mX11_layOne.2.1 67 = .ok (.ifCond .lt 64, 3) := by decide +kernel
theorem dX11_layOne_70 : decode mX11_layOne.2.1 70 = .ok (.aload_n 0, 1) := by decide +kernel
theorem dX11_layOne_71 : decode mX11_layOne.2.1 71 = .ok (.getfield 94, 3) := by decide +kernel
theorem dX11_layOne_74 : decode mX11_layOne.2.1 74 = .ok (.iload_n 2, 1) := by decide +kernel
theorem dX11_layOne_75 : decode mX11_layOne.2.1 75 = .ok (.iaload, 1) := by decide +kernel
theorem dX11_layOne_76 : decode mX11_layOne.2.1 76 = .ok (.iload_n 3, 1) := by decide +kernel
theorem dX11_layOne_77 : decode mX11_layOne.2.1 77 = .ok (.isub, 1) := by decide +kernel
theorem dX11_layOne_78 : decode mX11_layOne.2.1 78 = .ok (.istore 4, 2) := by decide +kernel
theorem dX11_layOne_80 : decode mX11_layOne.2.1 80 = .ok (.aload_n 0, 1) := by decide +kernel
theorem dX11_layOne_81 : decode mX11_layOne.2.1 81 = .ok (.getfield 112, 3) := by decide +kernel
theorem dX11_layOne_84 : decode mX11_layOne.2.1 84 = .ok (.bipush 7, 2) := by decide +kernel
theorem dX11_layOne_86 : decode mX11_layOne.2.1 86 = .ok (.aload_n 0, 1) := by decide +kernel
theorem dX11_layOne_87 : decode mX11_layOne.2.1 87 = .ok (.getfield 209, 3) := by decide +kernel
theorem dX11_layOne_90 : decode mX11_layOne.2.1 90 = .ok (.imul, 1) := by decide +kernel
theorem dX11_layOne_91 : decode mX11_layOne.2.1 91 = .ok (.iload_n 3, 1) := by decide +kernel
theorem dX11_layOne_92 : decode mX11_layOne.2.1 92 = .ok (.iadd, 1) := by decide +kernel
theorem dX11_layOne_93 : decode mX11_layOne.2.1 93 = .ok (.iconst 1, 1) := by decide +kernel
theorem dX11_layOne_94 : decode mX11_layOne.2.1 94 = .ok (.iadd, 1) := by decide +kernel
theorem dX11_layOne_95 : decode mX11_layOne.2.1 95 = .ok (.dup2, 1) := by decide +kernel
theorem dX11_layOne_96 : decode mX11_layOne.2.1 96 = .ok (.iaload, 1) := by decide +kernel
theorem dX11_layOne_97 : decode mX11_layOne.2.1 97 = .ok (.iload 4, 2) := by decide +kernel
theorem dX11_layOne_99 : decode mX11_layOne.2.1 99 = .ok (.ifCond .le 23, 3) := by decide +kernel
theorem dX11_layOne_102 : decode mX11_layOne.2.1 102 = .ok (.aload_n 0, 1) := by decide +kernel
theorem dX11_layOne_103 : decode mX11_layOne.2.1 103 = .ok (.getfield 112, 3) := by decide +kernel
theorem dX11_layOne_106 : decode mX11_layOne.2.1 106 = .ok (.bipush 7, 2) := by decide +kernel
theorem dX11_layOne_108 : decode mX11_layOne.2.1 108 = .ok (.aload_n 0, 1) := by decide +kernel
theorem dX11_layOne_109 : decode mX11_layOne.2.1 109 = .ok (.getfield 209, 3) := by decide +kernel
theorem dX11_layOne_112 : decode mX11_layOne.2.1 112 = .ok (.imul, 1) := by decide +kernel
theorem dX11_layOne_113 : decode mX11_layOne.2.1 113 = .ok (.iload_n 3, 1) := by decide +kernel
theorem dX11_layOne_114 : decode mX11_layOne.2.1 114 = .ok (.iadd, 1) := by decide +kernel
theorem dX11_layOne_115 : decode mX11_layOne.2.1 115 = .ok (.iaload, 1) := by decide +kernel
theorem dX11_layOne_116 : decode mX11_layOne.2.1 116 = .ok (.iload 4, 2) := by decide +kernel
theorem dX11_layOne_118 : decode mX11_layOne.2.1 118 = .ok (.imul, 1) := by decide +kernel
theorem dX11_layOne_119 : decode mX11_layOne.2.1 119 = .ok (.goto 4, 3) := by decide +kernel
theorem dX11_layOne_122 : decode mX11_layOne.2.1 122 = .ok (.iconst 0, 1) := by decide +kernel
theorem dX11_layOne_123 : decode mX11_layOne.2.1 123 = .ok (.iadd, 1) := by decide +kernel
theorem dX11_layOne_124 : decode mX11_layOne.2.1 124 = .ok (.iastore, 1) := by decide +kernel
theorem dX11_layOne_125 : decode mX11_layOne.2.1 125 = .ok (.iinc 3 (-1), 3) := by decide +kernel
theorem dX11_layOne_128 : decode mX11_layOne.2.1 128 = .ok (.goto (-62), 3) := by decide +kernel
theorem dX11_layOne_131 : decode mX11_layOne.2.1 131 = .ok (.iinc 2 1, 3) := by decide +kernel
theorem dX11_layOne_134 : decode mX11_layOne.2.1 134 = .ok (.goto (-95), 3) := by decide +kernel
theorem dX11_layOne_137 : decode mX11_layOne.2.1 137 = .ok (.aload_n 0, 1) := by decide +kernel
theorem dX11_layOne_138 : decode mX11_layOne.2.1 138 = .ok (.dup, 1) := by decide +kernel
theorem dX11_layOne_139 : decode mX11_layOne.2.1 139 = .ok (.getfield 209, 3) := by decide +kernel
theorem dX11_layOne_142 : decode mX11_layOne.2.1 142 = .ok (.iconst 1, 1) := by decide +kernel
theorem dX11_layOne_143 : decode mX11_layOne.2.1 143 = .ok (.iadd, 1) := by decide +kernel
theorem dX11_layOne_144 : decode mX11_layOne.2.1 144 = .ok (.putfield 209, 3) := by decide +kernel
theorem dX11_layOne_147 : decode mX11_layOne.2.1 147 = .ok (.return_, 1) := by decide +kernel
def mX11_numberOf : String × ByteArray × Nat := (RX11, cX11_numberOf, 6)
theorem dX11_numberOf_0 : decode mX11_numberOf.2.1 0 = .ok (.aload_n 0, 1) := by decide +kernel
theorem dX11_numberOf_1 : decode mX11_numberOf.2.1 1 = .ok (.getfield 22, 3) := by decide +kernel
theorem dX11_numberOf_4 : decode mX11_numberOf.2.1 4 = .ok (.iload_n 1, 1) := by decide +kernel
theorem dX11_numberOf_5 : decode mX11_numberOf.2.1 5 = .ok (.iaload, 1) := by decide +kernel
theorem dX11_numberOf_6 : decode mX11_numberOf.2.1 6 = .ok (.istore_n 2, 1) := by decide +kernel
theorem dX11_numberOf_7 : decode mX11_numberOf.2.1 7 = .ok (.aload_n 0, 1) := by decide +kernel
theorem dX11_numberOf_8 : decode mX11_numberOf.2.1 8 = .ok (.iload_n 2, 1) := by decide +kernel
theorem dX11_numberOf_9 : decode mX11_numberOf.2.1 9 = .ok (.invokevirtual 215, 3) := by decide +kernel
theorem dX11_numberOf_12 : decode mX11_numberOf.2.1 12 = .ok (.iconst 0, 1) := by decide +kernel
theorem dX11_numberOf_13 : decode mX11_numberOf.2.1 13 = .ok (.istore_n 3, 1) := by decide +kernel
theorem dX11_numberOf_14 : decode mX11_numberOf.2.1 14 = .ok (.iload_n 3, 1) := by decide +kernel
theorem dX11_numberOf_15 : decode mX11_numberOf.2.1 15 = .ok (.aload_n 0, 1) := by decide +kernel
theorem dX11_numberOf_16 : decode mX11_numberOf.2.1 16 = .ok (.getfield 209, 3) := by decide +kernel
theorem dX11_numberOf_19 : decode mX11_numberOf.2.1 19 = .ok (.if_icmp .ge 77, 3) := by decide +kernel
theorem dX11_numberOf_22 : decode mX11_numberOf.2.1 22 = .ok (.iconst 1, 1) := by decide +kernel
theorem dX11_numberOf_23 : decode mX11_numberOf.2.1 23 = .ok (.istore 4, 2) := by decide +kernel
theorem dX11_numberOf_25 : decode mX11_numberOf.2.1 25 = .ok (.iconst 0, 1) := by decide +kernel
theorem dX11_numberOf_26 : decode mX11_numberOf.2.1 26 = .ok (.istore 5, 2) := by decide +kernel
theorem dX11_numberOf_28 : decode mX11_numberOf.2.1 28 = .ok (.iload 5, 2) := by decide +kernel
theorem dX11_numberOf_30 : decode mX11_numberOf.2.1 30 = .ok (.iload_n 2, 1) := by decide +kernel
theorem dX11_numberOf_31 : decode mX11_numberOf.2.1 31 = .ok (.if_icmp .ge 52, 3) := by decide +kernel
theorem dX11_numberOf_34 : decode mX11_numberOf.2.1 34 = .ok (.iload 4, 2) := by decide +kernel
theorem dX11_numberOf_36 : decode mX11_numberOf.2.1 36 = .ok (.ifCond .eq 38, 3) := by decide +kernel
theorem dX11_numberOf_39 : decode mX11_numberOf.2.1 39 = .ok (.aload_n 0, 1) := by decide +kernel
theorem dX11_numberOf_40 : decode mX11_numberOf.2.1 40 = .ok (.getfield 25, 3) := by decide +kernel
theorem dX11_numberOf_43 : decode mX11_numberOf.2.1 43 = .ok (.bipush 6, 2) := by decide +kernel
theorem dX11_numberOf_45 : decode mX11_numberOf.2.1 45 = .ok (.iload_n 1, 1) := by decide +kernel
theorem dX11_numberOf_46 : decode mX11_numberOf.2.1 46 = .ok (.imul, 1) := by decide +kernel
theorem dX11_numberOf_47 : decode mX11_numberOf.2.1 47 = .ok (.iload 5, 2) := by decide +kernel
theorem dX11_numberOf_49 : decode mX11_numberOf.2.1 49 = .ok (.iadd, 1) := by decide +kernel
theorem dX11_numberOf_50 : decode mX11_numberOf.2.1 50 = .ok (.iaload, 1) := by decide +kernel
theorem dX11_numberOf_51 : decode mX11_numberOf.2.1 51 = .ok (.iconst 1, 1) := by decide +kernel
theorem dX11_numberOf_52 : decode mX11_numberOf.2.1 52 = .ok (.aload_n 0, 1) := by decide +kernel
theorem dX11_numberOf_53 : decode mX11_numberOf.2.1 53 = .ok (.getfield 109, 3) := by decide +kernel
theorem dX11_numberOf_56 : decode mX11_numberOf.2.1 56 = .ok (.bipush 6, 2) := by decide +kernel
theorem dX11_numberOf_58 : decode mX11_numberOf.2.1 58 = .ok (.iload_n 3, 1) := by decide +kernel
theorem dX11_numberOf_59 : decode mX11_numberOf.2.1 59 = .ok (.imul, 1) := by decide +kernel
theorem dX11_numberOf_60 : decode mX11_numberOf.2.1 60 = .ok (.iload 5, 2) := by decide +kernel
theorem dX11_numberOf_62 : decode mX11_numberOf.2.1 62 = .ok (.iadd, 1) := by decide +kernel
theorem dX11_numberOf_63 : decode mX11_numberOf.2.1 63 = .ok (.iaload, 1) := by decide +kernel
theorem dX11_numberOf_64 : decode mX11_numberOf.2.1 64 = .ok (.ishl, 1) := by decide +kernel
theorem dX11_numberOf_65 : decode mX11_numberOf.2.1 65 = .ok (.iconst 1, 1) := by decide +kernel
theorem dX11_numberOf_66 : decode mX11_numberOf.2.1 66 = .ok (.isub, 1) := by decide +kernel
theorem dX11_numberOf_67 : decode mX11_numberOf.2.1 67 = .ok (.if_icmp .ne 7, 3) := by decide +kernel
theorem dX11_numberOf_70 : decode mX11_numberOf.2.1 70 = .ok (.iconst 1, 1) := by decide +kernel
theorem dX11_numberOf_71 : decode mX11_numberOf.2.1 71 = .ok (.goto 4, 3) := by decide +kernel
theorem dX11_numberOf_74 : decode mX11_numberOf.2.1 74 = .ok (.iconst 0, 1) := by decide +kernel
theorem dX11_numberOf_75 : decode mX11_numberOf.2.1 75 = .ok (.istore 4, 2) := by decide +kernel
theorem dX11_numberOf_77 : decode mX11_numberOf.2.1 77 = .ok (.iinc 5 1, 3) := by decide +kernel
theorem dX11_numberOf_80 : decode mX11_numberOf.2.1 80 = .ok (.goto (-52), 3) := by decide +kernel
theorem dX11_numberOf_83 : decode mX11_numberOf.2.1 83 = .ok (.iload 4, 2) := by decide +kernel
theorem dX11_numberOf_85 : decode mX11_numberOf.2.1 85 = .ok (.ifCond .eq 5, 3) := by decide +kernel
theorem dX11_numberOf_88 : decode mX11_numberOf.2.1 88 = .ok (.iload_n 3, 1) := by decide +kernel
theorem dX11_numberOf_89 : decode mX11_numberOf.2.1 89 = .ok (.ireturn, 1) := by decide +kernel
theorem dX11_numberOf_90 : decode mX11_numberOf.2.1 90 = .ok (.iinc 3 1, 3) := by decide +kernel
theorem dX11_numberOf_93 : decode mX11_numberOf.2.1 93 = .ok (.goto (-79), 3) := by decide +kernel
theorem dX11_numberOf_96 : decode mX11_numberOf.2.1 96 = .ok (.bipush (-5), 2) := by decide +kernel
theorem dX11_numberOf_98 : decode mX11_numberOf.2.1 98 = .ok (.ireturn, 1) := by decide +kernel
def mX11_of : String × ByteArray × Nat := (RX11, cX11_of, 4)
theorem dX11_of_0 : decode mX11_of.2.1 0 = .ok (.iload_n 1, 1) := by decide +kernel
theorem dX11_of_1 : decode mX11_of.2.1 1 = .ok (.invokestatic 133, 3) := by decide +kernel
theorem dX11_of_4 : decode mX11_of.2.1 4 = .ok (.ifCond .eq 15, 3) := by decide +kernel
theorem dX11_of_7 : decode mX11_of.2.1 7 = .ok (.iload_n 2, 1) := by decide +kernel
theorem dX11_of_8 : decode mX11_of.2.1 8 = .ok (.i2l, 1) := by decide +kernel
theorem dX11_of_9 : decode mX11_of.2.1 9 = .ok (.lconst 0, 1) := by decide +kernel
theorem dX11_of_10 : decode mX11_of.2.1 10 = .ok (.ldc2_w 218, 3) := by decide +kernel
theorem dX11_of_13 : decode mX11_of.2.1 13 = .ok (.invokestatic 129, 3) := by decide +kernel
theorem dX11_of_16 : decode mX11_of.2.1 16 = .ok (.ifCond .ne 5, 3) := by decide +kernel
theorem dX11_of_19 : decode mX11_of.2.1 19 = .ok (.iconst (-1), 1) := by decide +kernel
theorem dX11_of_20 : decode mX11_of.2.1 20 = .ok (.ireturn, 1) := by decide +kernel
theorem dX11_of_21 : decode mX11_of.2.1 21 = .ok (.iload_n 2, 1) := by decide +kernel
theorem dX11_of_22 : decode mX11_of.2.1 22 = .ok (.tableswitch 63 0 3 #[30, 37, 43, 57], 30) := by decide +kernel
theorem dX11_of_52 : decode mX11_of.2.1 52 = .ok (.aload_n 0, 1) := by decide +kernel
theorem dX11_of_53 : decode mX11_of.2.1 53 = .ok (.getfield 22, 3) := by decide +kernel
theorem dX11_of_56 : decode mX11_of.2.1 56 = .ok (.iload_n 1, 1) := by decide +kernel
theorem dX11_of_57 : decode mX11_of.2.1 57 = .ok (.iaload, 1) := by decide +kernel
theorem dX11_of_58 : decode mX11_of.2.1 58 = .ok (.ireturn, 1) := by decide +kernel
theorem dX11_of_59 : decode mX11_of.2.1 59 = .ok (.aload_n 0, 1) := by decide +kernel
theorem dX11_of_60 : decode mX11_of.2.1 60 = .ok (.iload_n 1, 1) := by decide +kernel
theorem dX11_of_61 : decode mX11_of.2.1 61 = .ok (.invokevirtual 186, 3) := by decide +kernel
theorem dX11_of_64 : decode mX11_of.2.1 64 = .ok (.ireturn, 1) := by decide +kernel
theorem dX11_of_65 : decode mX11_of.2.1 65 = .ok (.aload_n 0, 1) := by decide +kernel
theorem dX11_of_66 : decode mX11_of.2.1 66 = .ok (.iload_n 1, 1) := by decide +kernel
theorem dX11_of_67 : decode mX11_of.2.1 67 = .ok (.invokevirtual 203, 3) := by decide +kernel
theorem dX11_of_70 : decode mX11_of.2.1 70 = .ok (.ifCond .eq 7, 3) := by decide +kernel
theorem dX11_of_73 : decode mX11_of.2.1 73 = .ok (.iconst 1, 1) := by decide +kernel
theorem dX11_of_74 : decode mX11_of.2.1 74 = .ok (.goto 4, 3) := by decide +kernel
theorem dX11_of_77 : decode mX11_of.2.1 77 = .ok (.iconst 0, 1) := by decide +kernel
theorem dX11_of_78 : decode mX11_of.2.1 78 = .ok (.ireturn, 1) := by decide +kernel
theorem dX11_of_79 : decode mX11_of.2.1 79 = .ok (.aload_n 0, 1) := by decide +kernel
theorem dX11_of_80 : decode mX11_of.2.1 80 = .ok (.iload_n 1, 1) := by decide +kernel
theorem dX11_of_81 : decode mX11_of.2.1 81 = .ok (.invokevirtual 220, 3) := by decide +kernel
theorem dX11_of_84 : decode mX11_of.2.1 84 = .ok (.ireturn, 1) := by decide +kernel
theorem dX11_of_85 : decode mX11_of.2.1 85 = .ok (.aload_n 0, 1) := by decide +kernel
theorem dX11_of_86 : decode mX11_of.2.1 86 = .ok (.iload_n 1, 1) := by decide +kernel
theorem dX11_of_87 : decode mX11_of.2.1 87 = .ok (.invokevirtual 193, 3) := by decide +kernel
theorem dX11_of_90 : decode mX11_of.2.1 90 = .ok (.bipush 6, 2) := by decide +kernel
theorem dX11_of_92 : decode mX11_of.2.1 92 = .ok (.istore_n 3, 1) := by decide +kernel
theorem dX11_of_93 : decode mX11_of.2.1 93 = .ok (.aload_n 0, 1) := by decide +kernel
theorem dX11_of_94 : decode mX11_of.2.1 94 = .ok (.getfield 103, 3) := by decide +kernel
theorem dX11_of_97 : decode mX11_of.2.1 97 = .ok (.iload_n 3, 1) := by decide +kernel
theorem dX11_of_98 : decode mX11_of.2.1 98 = .ok (.iaload, 1) := by decide +kernel
theorem dX11_of_99 : decode mX11_of.2.1 99 = .ok (.ifCond .ne 9, 3) := by decide +kernel
theorem dX11_of_102 : decode mX11_of.2.1 102 = .ok (.iinc 3 (-1), 3) := by decide +kernel
theorem dX11_of_105 : decode mX11_of.2.1 105 = .ok (.goto (-12), 3) := by decide +kernel
theorem dX11_of_108 : decode mX11_of.2.1 108 = .ok (.iload_n 3, 1) := by decide +kernel
theorem dX11_of_109 : decode mX11_of.2.1 109 = .ok (.ireturn, 1) := by decide +kernel
def mX11_all : String × ByteArray × Nat := (RX11, cX11_all, 4)
theorem dX11_all_0 : decode mX11_all.2.1 0 = .ok (.iload_n 1, 1) := by decide +kernel
theorem dX11_all_1 : decode mX11_all.2.1 1 = .ok (.i2l, 1) := by decide +kernel
theorem dX11_all_2 : decode mX11_all.2.1 2 = .ok (.lconst 1, 1) := by decide +kernel
theorem dX11_all_3 : decode mX11_all.2.1 3 = .ok (.ldc2_w 137, 3) := by decide +kernel
theorem dX11_all_6 : decode mX11_all.2.1 6 = .ok (.invokestatic 129, 3) := by decide +kernel
theorem dX11_all_9 : decode mX11_all.2.1 9 = .ok (.ifCond .ne 6, 3) := by decide +kernel
theorem dX11_all_12 : decode mX11_all.2.1 12 = .ok (.bipush (-2), 2) := by decide +kernel
theorem dX11_all_14 : decode mX11_all.2.1 14 = .ok (.ireturn, 1) := by decide +kernel
theorem dX11_all_15 : decode mX11_all.2.1 15 = .ok (.iload_n 3, 1) := by decide +kernel
theorem dX11_all_16 : decode mX11_all.2.1 16 = .ok (.i2l, 1) := by decide +kernel
theorem dX11_all_17 : decode mX11_all.2.1 17 = .ok (.ldc2_w 223, 3) := by decide +kernel
theorem dX11_all_20 : decode mX11_all.2.1 20 = .ok (.iload_n 1, 1) := by decide +kernel
theorem dX11_all_21 : decode mX11_all.2.1 21 = .ok (.iconst 1, 1) := by decide +kernel
theorem dX11_all_22 : decode mX11_all.2.1 22 = .ok (.isub, 1) := by decide +kernel
theorem dX11_all_23 : decode mX11_all.2.1 23 = .ok (.i2l, 1) := by decide +kernel
theorem dX11_all_24 : decode mX11_all.2.1 24 = .ok (.invokestatic 129, 3) := by decide +kernel
theorem dX11_all_27 : decode mX11_all.2.1 27 = .ok (.ifCond .ne 5, 3) := by decide +kernel
theorem dX11_all_30 : decode mX11_all.2.1 30 = .ok (.iconst (-1), 1) := by decide +kernel
theorem dX11_all_31 : decode mX11_all.2.1 31 = .ok (.ireturn, 1) := by decide +kernel
theorem dX11_all_32 : decode mX11_all.2.1 32 = .ok (.aload_n 0, 1) := by decide +kernel
theorem dX11_all_33 : decode mX11_all.2.1 33 = .ok (.iload_n 1, 1) := by decide +kernel
theorem dX11_all_34 : decode mX11_all.2.1 34 = .ok (.invokevirtual 215, 3) := by decide +kernel
theorem dX11_all_37 : decode mX11_all.2.1 37 = .ok (.iload_n 3, 1) := by decide +kernel
theorem dX11_all_38 : decode mX11_all.2.1 38 = .ok (.iconst (-1), 1) := by decide +kernel
theorem dX11_all_39 : decode mX11_all.2.1 39 = .ok (.if_icmp .ne 8, 3) := by decide +kernel
theorem dX11_all_42 : decode mX11_all.2.1 42 = .ok (.aload_n 0, 1) := by decide +kernel
theorem dX11_all_43 : decode mX11_all.2.1 43 = .ok (.getfield 209, 3) := by decide +kernel
theorem dX11_all_46 : decode mX11_all.2.1 46 = .ok (.ireturn, 1) := by decide +kernel
theorem dX11_all_47 : decode mX11_all.2.1 47 = .ok (.iload_n 2, 1) := by decide +kernel
theorem dX11_all_48 : decode mX11_all.2.1 48 = .ok (.i2l, 1) := by decide +kernel
theorem dX11_all_49 : decode mX11_all.2.1 49 = .ok (.lconst 0, 1) := by decide +kernel
theorem dX11_all_50 : decode mX11_all.2.1 50 = .ok (.aload_n 0, 1) := by decide +kernel
theorem dX11_all_51 : decode mX11_all.2.1 51 = .ok (.getfield 209, 3) := by decide +kernel
theorem dX11_all_54 : decode mX11_all.2.1 54 = .ok (.iconst 1, 1) := by decide +kernel
theorem dX11_all_55 : decode mX11_all.2.1 55 = .ok (.isub, 1) := by decide +kernel
theorem dX11_all_56 : decode mX11_all.2.1 56 = .ok (.i2l, 1) := by decide +kernel
theorem dX11_all_57 : decode mX11_all.2.1 57 = .ok (.invokestatic 129, 3) := by decide +kernel
theorem dX11_all_60 : decode mX11_all.2.1 60 = .ok (.ifCond .eq 17, 3) := by decide +kernel
theorem dX11_all_63 : decode mX11_all.2.1 63 = .ok (.aload_n 0, 1) := by decide +kernel
theorem dX11_all_64 : decode mX11_all.2.1 64 = .ok (.getfield 109, 3) := by decide +kernel
theorem dX11_all_67 : decode mX11_all.2.1 67 = .ok (.bipush 6, 2) := by decide +kernel
theorem dX11_all_69 : decode mX11_all.2.1 69 = .ok (.iload_n 2, 1) := by decide +kernel
theorem dX11_all_70 : decode mX11_all.2.1 70 = .ok (.imul, 1) := by decide +kernel
theorem dX11_all_71 : decode mX11_all.2.1 71 = .ok (.iload_n 3, 1) := by decide +kernel
theorem dX11_all_72 : decode mX11_all.2.1 72 = .ok (.iadd, 1) := by decide +kernel
theorem dX11_all_73 : decode mX11_all.2.1 73 = .ok (.iaload, 1) := by decide +kernel
theorem dX11_all_74 : decode mX11_all.2.1 74 = .ok (.goto 5, 3) := by decide +kernel
theorem dX11_all_77 : decode mX11_all.2.1 77 = .ok (.bipush (-5), 2) := by decide +kernel
theorem dX11_all_79 : decode mX11_all.2.1 79 = .ok (.ireturn, 1) := by decide +kernel
def mX11_compared : String × ByteArray × Nat := (RX11, cX11_compared, 5)
theorem dX11_compared_0 : decode mX11_compared.2.1 0 = .ok (.iconst 1, 1) := by decide +kernel
theorem dX11_compared_1 : decode mX11_compared.2.1 1 = .ok (.istore_n 3, 1) := by decide +kernel
theorem dX11_compared_2 : decode mX11_compared.2.1 2 = .ok (.iload_n 3, 1) := by decide +kernel
theorem dX11_compared_3 : decode mX11_compared.2.1 3 = .ok (.bipush 7, 2) := by decide +kernel
theorem dX11_compared_5 : decode mX11_compared.2.1 5 = .ok (.if_icmp .ge 42, 3) := by decide +kernel
theorem dX11_compared_8 : decode mX11_compared.2.1 8 = .ok (.aload_n 0, 1) := by decide +kernel
theorem dX11_compared_9 : decode mX11_compared.2.1 9 = .ok (.getfield 112, 3) := by decide +kernel
theorem dX11_compared_12 : decode mX11_compared.2.1 12 = .ok (.bipush 7, 2) := by decide +kernel
theorem dX11_compared_14 : decode mX11_compared.2.1 14 = .ok (.iload_n 1, 1) := by decide +kernel
theorem dX11_compared_15 : decode mX11_compared.2.1 15 = .ok (.imul, 1) := by decide +kernel
theorem dX11_compared_16 : decode mX11_compared.2.1 16 = .ok (.iload_n 3, 1) := by decide +kernel
theorem dX11_compared_17 : decode mX11_compared.2.1 17 = .ok (.iadd, 1) := by decide +kernel
theorem dX11_compared_18 : decode mX11_compared.2.1 18 = .ok (.iaload, 1) := by decide +kernel
theorem dX11_compared_19 : decode mX11_compared.2.1 19 = .ok (.aload_n 0, 1) := by decide +kernel
theorem dX11_compared_20 : decode mX11_compared.2.1 20 = .ok (.getfield 112, 3) := by decide +kernel
theorem dX11_compared_23 : decode mX11_compared.2.1 23 = .ok (.bipush 7, 2) := by decide +kernel
theorem dX11_compared_25 : decode mX11_compared.2.1 25 = .ok (.iload_n 2, 1) := by decide +kernel
theorem dX11_compared_26 : decode mX11_compared.2.1 26 = .ok (.imul, 1) := by decide +kernel
theorem dX11_compared_27 : decode mX11_compared.2.1 27 = .ok (.iload_n 3, 1) := by decide +kernel
theorem dX11_compared_28 : decode mX11_compared.2.1 28 = .ok (.iadd, 1) := by decide +kernel
theorem dX11_compared_29 : decode mX11_compared.2.1 29 = .ok (.iaload, 1) := by decide +kernel
theorem dX11_compared_30 : decode mX11_compared.2.1 30 = .ok (.isub, 1) := by decide +kernel
theorem dX11_compared_31 : decode mX11_compared.2.1 31 = .ok (.istore 4, 2) := by decide +kernel
theorem dX11_compared_33 : decode mX11_compared.2.1 33 = .ok (.iload 4, 2) := by decide +kernel
theorem dX11_compared_35 : decode mX11_compared.2.1 35 = .ok (.ifCond .eq 6, 3) := by decide +kernel
theorem dX11_compared_38 : decode mX11_compared.2.1 38 = .ok (.iload 4, 2) := by decide +kernel
theorem dX11_compared_40 : decode mX11_compared.2.1 40 = .ok (.ireturn, 1) := by decide +kernel
theorem dX11_compared_41 : decode mX11_compared.2.1 41 = .ok (.iinc 3 1, 3) := by decide +kernel
theorem dX11_compared_44 : decode mX11_compared.2.1 44 = .ok (.goto (-42), 3) := by decide +kernel
theorem dX11_compared_47 : decode mX11_compared.2.1 47 = .ok (.iconst 0, 1) := by decide +kernel
theorem dX11_compared_48 : decode mX11_compared.2.1 48 = .ok (.ireturn, 1) := by decide +kernel
def mX11_like : String × ByteArray × Nat := (RX11, cX11_like, 8)
theorem dX11_like_0 : decode mX11_like.2.1 0 = .ok (.iload_n 1, 1) := by decide +kernel
theorem dX11_like_1 : decode mX11_like.2.1 1 = .ok (.invokestatic 133, 3) := by decide +kernel
theorem dX11_like_4 : decode mX11_like.2.1 4 = .ok (.ifCond .eq 13, 3) := by decide +kernel
theorem dX11_like_7 : decode mX11_like.2.1 7 = .ok (.iload_n 2, 1) := by decide +kernel
theorem dX11_like_8 : decode mX11_like.2.1 8 = .ok (.i2l, 1) := by decide +kernel
theorem dX11_like_9 : decode mX11_like.2.1 9 = .ok (.lconst 0, 1) := by decide +kernel
theorem dX11_like_10 : decode mX11_like.2.1 10 = .ok (.lconst 1, 1) := by decide +kernel
theorem dX11_like_11 : decode mX11_like.2.1 11 = .ok (.invokestatic 129, 3) := by decide +kernel
theorem dX11_like_14 : decode mX11_like.2.1 14 = .ok (.ifCond .ne 5, 3) := by decide +kernel
theorem dX11_like_17 : decode mX11_like.2.1 17 = .ok (.iconst (-1), 1) := by decide +kernel
theorem dX11_like_18 : decode mX11_like.2.1 18 = .ok (.ireturn, 1) := by decide +kernel
theorem dX11_like_19 : decode mX11_like.2.1 19 = .ok (.aload_n 0, 1) := by decide +kernel
theorem dX11_like_20 : decode mX11_like.2.1 20 = .ok (.iload_n 1, 1) := by decide +kernel
theorem dX11_like_21 : decode mX11_like.2.1 21 = .ok (.invokevirtual 193, 3) := by decide +kernel
theorem dX11_like_24 : decode mX11_like.2.1 24 = .ok (.aload_n 0, 1) := by decide +kernel
theorem dX11_like_25 : decode mX11_like.2.1 25 = .ok (.aload_n 0, 1) := by decide +kernel
theorem dX11_like_26 : decode mX11_like.2.1 26 = .ok (.getfield 22, 3) := by decide +kernel
theorem dX11_like_29 : decode mX11_like.2.1 29 = .ok (.iload_n 1, 1) := by decide +kernel
theorem dX11_like_30 : decode mX11_like.2.1 30 = .ok (.iaload, 1) := by decide +kernel
theorem dX11_like_31 : decode mX11_like.2.1 31 = .ok (.invokevirtual 215, 3) := by decide +kernel
theorem dX11_like_34 : decode mX11_like.2.1 34 = .ok (.iconst 0, 1) := by decide +kernel
theorem dX11_like_35 : decode mX11_like.2.1 35 = .ok (.istore_n 3, 1) := by decide +kernel
theorem dX11_like_36 : decode mX11_like.2.1 36 = .ok (.bipush (-5), 2) := by decide +kernel
theorem dX11_like_38 : decode mX11_like.2.1 38 = .ok (.istore 4, 2) := by decide +kernel
theorem dX11_like_40 : decode mX11_like.2.1 40 = .ok (.iconst 0, 1) := by decide +kernel
theorem dX11_like_41 : decode mX11_like.2.1 41 = .ok (.istore 5, 2) := by decide +kernel
theorem dX11_like_43 : decode mX11_like.2.1 43 = .ok (.iload 5, 2) := by decide +kernel
theorem dX11_like_45 : decode mX11_like.2.1 45 = .ok (.aload_n 0, 1) := by decide +kernel
theorem dX11_like_46 : decode mX11_like.2.1 46 = .ok (.getfield 209, 3) := by decide +kernel
theorem dX11_like_49 : decode mX11_like.2.1 49 = .ok (.if_icmp .ge 94, 3) := by decide +kernel
theorem dX11_like_52 : decode mX11_like.2.1 52 = .ok (.iconst 1, 1) := by decide +kernel
theorem dX11_like_53 : decode mX11_like.2.1 53 = .ok (.istore 6, 2) := by decide +kernel
theorem dX11_like_55 : decode mX11_like.2.1 55 = .ok (.iconst 0, 1) := by decide +kernel
theorem dX11_like_56 : decode mX11_like.2.1 56 = .ok (.istore 7, 2) := by decide +kernel
theorem dX11_like_58 : decode mX11_like.2.1 58 = .ok (.iload 7, 2) := by decide +kernel
theorem dX11_like_60 : decode mX11_like.2.1 60 = .ok (.bipush 7, 2) := by decide +kernel
theorem dX11_like_62 : decode mX11_like.2.1 62 = .ok (.if_icmp .ge 44, 3) := by decide +kernel
theorem dX11_like_65 : decode mX11_like.2.1 65 = .ok (.iload 6, 2) := by decide +kernel
theorem dX11_like_67 : decode mX11_like.2.1 67 = .ok (.ifCond .eq 30, 3) := by decide +kernel
theorem dX11_like_70 : decode mX11_like.2.1 70 = .ok (.aload_n 0, 1) := by decide +kernel
theorem dX11_like_71 : decode mX11_like.2.1 71 = .ok (.getfield 112, 3) := by decide +kernel
theorem dX11_like_74 : decode mX11_like.2.1 74 = .ok (.bipush 7, 2) := by decide +kernel
theorem dX11_like_76 : decode mX11_like.2.1 76 = .ok (.iload 5, 2) := by decide +kernel
theorem dX11_like_78 : decode mX11_like.2.1 78 = .ok (.imul, 1) := by decide +kernel
theorem dX11_like_79 : decode mX11_like.2.1 79 = .ok (.iload 7, 2) := by decide +kernel
theorem dX11_like_81 : decode mX11_like.2.1 81 = .ok (.iadd, 1) := by decide +kernel
theorem dX11_like_82 : decode mX11_like.2.1 82 = .ok (.iaload, 1) := by decide +kernel
theorem dX11_like_83 : decode mX11_like.2.1 83 = .ok (.aload_n 0, 1) := by decide +kernel
theorem dX11_like_84 : decode mX11_like.2.1 84 = .ok (.getfield 103, 3) := by decide +kernel
theorem dX11_like_87 : decode mX11_like.2.1 87 = .ok (.iload 7, 2) := by decide +kernel
theorem dX11_like_89 : decode mX11_like.2.1 89 = .ok (.iaload, 1) := by decide +kernel
theorem dX11_like_90 : decode mX11_like.2.1 90 = .ok (.if_icmp .ne 7, 3) := by decide +kernel
theorem dX11_like_93 : decode mX11_like.2.1 93 = .ok (.iconst 1, 1) := by decide +kernel
theorem dX11_like_94 : decode mX11_like.2.1 94 = .ok (.goto 4, 3) := by decide +kernel
theorem dX11_like_97 : decode mX11_like.2.1 97 = .ok (.iconst 0, 1) := by decide +kernel
theorem dX11_like_98 : decode mX11_like.2.1 98 = .ok (.istore 6, 2) := by decide +kernel
theorem dX11_like_100 : decode mX11_like.2.1 100 = .ok (.iinc 7 1, 3) := by decide +kernel
theorem dX11_like_103 : decode mX11_like.2.1 103 = .ok (.goto (-45), 3) := by decide +kernel
theorem dX11_like_106 : decode mX11_like.2.1 106 = .ok (.iload 6, 2) := by decide +kernel
theorem dX11_like_108 : decode mX11_like.2.1 108 = .ok (.ifCond .eq 12, 3) := by decide +kernel
theorem dX11_like_111 : decode mX11_like.2.1 111 = .ok (.iload_n 3, 1) := by decide +kernel
theorem dX11_like_112 : decode mX11_like.2.1 112 = .ok (.ifCond .ne 8, 3) := by decide +kernel
theorem dX11_like_115 : decode mX11_like.2.1 115 = .ok (.iload 5, 2) := by decide +kernel
theorem dX11_like_117 : decode mX11_like.2.1 117 = .ok (.goto 5, 3) := by decide +kernel
theorem dX11_like_120 : decode mX11_like.2.1 120 = .ok (.iload 4, 2) := by decide +kernel
theorem dX11_like_122 : decode mX11_like.2.1 122 = .ok (.istore 4, 2) := by decide +kernel
theorem dX11_like_124 : decode mX11_like.2.1 124 = .ok (.iload_n 3, 1) := by decide +kernel
theorem dX11_like_125 : decode mX11_like.2.1 125 = .ok (.iload 6, 2) := by decide +kernel
theorem dX11_like_127 : decode mX11_like.2.1 127 = .ok (.ifCond .eq 7, 3) := by decide +kernel
theorem dX11_like_130 : decode mX11_like.2.1 130 = .ok (.iconst 1, 1) := by decide +kernel
theorem dX11_like_131 : decode mX11_like.2.1 131 = .ok (.goto 4, 3) := by decide +kernel
theorem dX11_like_134 : decode mX11_like.2.1 134 = .ok (.iconst 0, 1) := by decide +kernel
theorem dX11_like_135 : decode mX11_like.2.1 135 = .ok (.iadd, 1) := by decide +kernel
theorem dX11_like_136 : decode mX11_like.2.1 136 = .ok (.istore_n 3, 1) := by decide +kernel
theorem dX11_like_137 : decode mX11_like.2.1 137 = .ok (.iinc 5 1, 3) := by decide +kernel
theorem dX11_like_140 : decode mX11_like.2.1 140 = .ok (.goto (-97), 3) := by decide +kernel
theorem dX11_like_143 : decode mX11_like.2.1 143 = .ok (.iload_n 2, 1) := by decide +kernel
theorem dX11_like_144 : decode mX11_like.2.1 144 = .ok (.ifCond .ne 7, 3) := by decide +kernel
theorem dX11_like_147 : decode mX11_like.2.1 147 = .ok (.iload_n 3, 1) := by decide +kernel
theorem dX11_like_148 : decode mX11_like.2.1 148 = .ok (.goto 5, 3) := by decide +kernel
theorem dX11_like_151 : decode mX11_like.2.1 151 = .ok (.iload 4, 2) := by decide +kernel
theorem dX11_like_153 : decode mX11_like.2.1 153 = .ok (.ireturn, 1) := by decide +kernel
def mX11_partOf : String × ByteArray × Nat := (RX11, cX11_partOf, 4)
theorem dX11_partOf_0 : decode mX11_partOf.2.1 0 = .ok (.iconst 0, 1) := by decide +kernel
theorem dX11_partOf_1 : decode mX11_partOf.2.1 1 = .ok (.istore_n 2, 1) := by decide +kernel
theorem dX11_partOf_2 : decode mX11_partOf.2.1 2 = .ok (.iconst 0, 1) := by decide +kernel
theorem dX11_partOf_3 : decode mX11_partOf.2.1 3 = .ok (.istore_n 3, 1) := by decide +kernel
theorem dX11_partOf_4 : decode mX11_partOf.2.1 4 = .ok (.iload_n 3, 1) := by decide +kernel
theorem dX11_partOf_5 : decode mX11_partOf.2.1 5 = .ok (.aload_n 0, 1) := by decide +kernel
theorem dX11_partOf_6 : decode mX11_partOf.2.1 6 = .ok (.getfield 209, 3) := by decide +kernel
theorem dX11_partOf_9 : decode mX11_partOf.2.1 9 = .ok (.if_icmp .ge 26, 3) := by decide +kernel
theorem dX11_partOf_12 : decode mX11_partOf.2.1 12 = .ok (.iload_n 2, 1) := by decide +kernel
theorem dX11_partOf_13 : decode mX11_partOf.2.1 13 = .ok (.aload_n 0, 1) := by decide +kernel
theorem dX11_partOf_14 : decode mX11_partOf.2.1 14 = .ok (.iload_n 1, 1) := by decide +kernel
theorem dX11_partOf_15 : decode mX11_partOf.2.1 15 = .ok (.iload_n 3, 1) := by decide +kernel
theorem dX11_partOf_16 : decode mX11_partOf.2.1 16 = .ok (.invokevirtual 225, 3) := by decide +kernel
theorem dX11_partOf_19 : decode mX11_partOf.2.1 19 = .ok (.ifCond .ne 7, 3) := by decide +kernel
theorem dX11_partOf_22 : decode mX11_partOf.2.1 22 = .ok (.iconst 1, 1) := by decide +kernel
theorem dX11_partOf_23 : decode mX11_partOf.2.1 23 = .ok (.goto 4, 3) := by decide +kernel
theorem dX11_partOf_26 : decode mX11_partOf.2.1 26 = .ok (.iconst 0, 1) := by decide +kernel
theorem dX11_partOf_27 : decode mX11_partOf.2.1 27 = .ok (.iadd, 1) := by decide +kernel
theorem dX11_partOf_28 : decode mX11_partOf.2.1 28 = .ok (.istore_n 2, 1) := by decide +kernel
theorem dX11_partOf_29 : decode mX11_partOf.2.1 29 = .ok (.iinc 3 1, 3) := by decide +kernel
theorem dX11_partOf_32 : decode mX11_partOf.2.1 32 = .ok (.goto (-28), 3) := by decide +kernel
theorem dX11_partOf_35 : decode mX11_partOf.2.1 35 = .ok (.iload_n 2, 1) := by decide +kernel
theorem dX11_partOf_36 : decode mX11_partOf.2.1 36 = .ok (.ireturn, 1) := by decide +kernel
def mX11_nextClass : String × ByteArray × Nat := (RX11, cX11_nextClass, 5)
theorem dX11_nextClass_0 : decode mX11_nextClass.2.1 0 = .ok (.iconst (-1), 1) := by decide +kernel
theorem dX11_nextClass_1 : decode mX11_nextClass.2.1 1 = .ok (.istore_n 2, 1) := by decide +kernel
theorem dX11_nextClass_2 : decode mX11_nextClass.2.1 2 = .ok (.iconst 0, 1) := by decide +kernel
theorem dX11_nextClass_3 : decode mX11_nextClass.2.1 3 = .ok (.istore_n 3, 1) := by decide +kernel
theorem dX11_nextClass_4 : decode mX11_nextClass.2.1 4 = .ok (.iload_n 3, 1) := by decide +kernel
theorem dX11_nextClass_5 : decode mX11_nextClass.2.1 5 = .ok (.aload_n 0, 1) := by decide +kernel
theorem dX11_nextClass_6 : decode mX11_nextClass.2.1 6 = .ok (.getfield 209, 3) := by decide +kernel
theorem dX11_nextClass_9 : decode mX11_nextClass.2.1 9 = .ok (.if_icmp .ge 53, 3) := by decide +kernel
theorem dX11_nextClass_12 : decode mX11_nextClass.2.1 12 = .ok (.iload_n 1, 1) := by decide +kernel
theorem dX11_nextClass_13 : decode mX11_nextClass.2.1 13 = .ok (.ifCond .lt 12, 3) := by decide +kernel
theorem dX11_nextClass_16 : decode mX11_nextClass.2.1 16 = .ok (.aload_n 0, 1) := by decide +kernel
theorem dX11_nextClass_17 : decode mX11_nextClass.2.1 17 = .ok (.iload_n 3, 1) := by decide +kernel
theorem dX11_nextClass_18 : decode mX11_nextClass.2.1 18 = .ok (.iload_n 1, 1) := by decide +kernel
theorem dX11_nextClass_19 : decode mX11_nextClass.2.1 19 = .ok (.invokevirtual 225, 3) := by decide +kernel
theorem dX11_nextClass_22 : decode mX11_nextClass.2.1 22 = .ok (.ifCond .le 7, 3) := by decide +kernel
theorem dX11_nextClass_25 : decode mX11_nextClass.2.1 25 = .ok (.iconst 1, 1) := by decide +kernel
theorem dX11_nextClass_26 : decode mX11_nextClass.2.1 26 = .ok (.goto 4, 3) := by decide +kernel
theorem dX11_nextClass_29 : decode mX11_nextClass.2.1 29 = .ok (.iconst 0, 1) := by decide +kernel
theorem dX11_nextClass_30 : decode mX11_nextClass.2.1 30 = .ok (.istore 4, 2) := by decide +kernel
theorem dX11_nextClass_32 : decode mX11_nextClass.2.1 32 = .ok (.iload 4, 2) := by decide +kernel
theorem dX11_nextClass_34 : decode mX11_nextClass.2.1 34 = .ok (.ifCond .eq 20, 3) := by decide +kernel
theorem dX11_nextClass_37 : decode mX11_nextClass.2.1 37 = .ok (.iload_n 2, 1) := by decide +kernel
theorem dX11_nextClass_38 : decode mX11_nextClass.2.1 38 = .ok (.ifCond .lt 12, 3) := by decide +kernel
theorem dX11_nextClass_41 : decode mX11_nextClass.2.1 41 = .ok (.aload_n 0, 1) := by decide +kernel
theorem dX11_nextClass_42 : decode mX11_nextClass.2.1 42 = .ok (.iload_n 3, 1) := by decide +kernel
theorem dX11_nextClass_43 : decode mX11_nextClass.2.1 43 = .ok (.iload_n 2, 1) := by decide +kernel
theorem dX11_nextClass_44 : decode mX11_nextClass.2.1 44 = .ok (.invokevirtual 225, 3) := by decide +kernel
theorem dX11_nextClass_47 : decode mX11_nextClass.2.1 47 = .ok (.ifCond .ge 7, 3) := by decide +kernel
theorem dX11_nextClass_50 : decode mX11_nextClass.2.1 50 = .ok (.iload_n 3, 1) := by decide +kernel
theorem dX11_nextClass_51 : decode mX11_nextClass.2.1 51 = .ok (.goto 4, 3) := by decide +kernel
theorem dX11_nextClass_54 : decode mX11_nextClass.2.1 54 = .ok (.iload_n 2, 1) := by decide +kernel
theorem dX11_nextClass_55 : decode mX11_nextClass.2.1 55 = .ok (.istore_n 2, 1) := by decide +kernel
theorem dX11_nextClass_56 : decode mX11_nextClass.2.1 56 = .ok (.iinc 3 1, 3) := by decide +kernel
theorem dX11_nextClass_59 : decode mX11_nextClass.2.1 59 = .ok (.goto (-55), 3) := by decide +kernel
theorem dX11_nextClass_62 : decode mX11_nextClass.2.1 62 = .ok (.iload_n 2, 1) := by decide +kernel
theorem dX11_nextClass_63 : decode mX11_nextClass.2.1 63 = .ok (.ireturn, 1) := by decide +kernel
def mX11_classes : String × ByteArray × Nat := (RX11, cX11_classes, 8)
theorem dX11_classes_0 : decode mX11_classes.2.1 0 = .ok (.iload_n 1, 1) := by decide +kernel
theorem dX11_classes_1 : decode mX11_classes.2.1 1 = .ok (.i2l, 1) := by decide +kernel
theorem dX11_classes_2 : decode mX11_classes.2.1 2 = .ok (.lconst 1, 1) := by decide +kernel
theorem dX11_classes_3 : decode mX11_classes.2.1 3 = .ok (.ldc2_w 137, 3) := by decide +kernel
theorem dX11_classes_6 : decode mX11_classes.2.1 6 = .ok (.invokestatic 129, 3) := by decide +kernel
theorem dX11_classes_9 : decode mX11_classes.2.1 9 = .ok (.ifCond .ne 6, 3) := by decide +kernel
theorem dX11_classes_12 : decode mX11_classes.2.1 12 = .ok (.bipush (-2), 2) := by decide +kernel
theorem dX11_classes_14 : decode mX11_classes.2.1 14 = .ok (.ireturn, 1) := by decide +kernel
theorem dX11_classes_15 : decode mX11_classes.2.1 15 = .ok (.iload_n 2, 1) := by decide +kernel
theorem dX11_classes_16 : decode mX11_classes.2.1 16 = .ok (.iconst (-1), 1) := by decide +kernel
theorem dX11_classes_17 : decode mX11_classes.2.1 17 = .ok (.if_icmp .lt 13, 3) := by decide +kernel
theorem dX11_classes_20 : decode mX11_classes.2.1 20 = .ok (.iload_n 3, 1) := by decide +kernel
theorem dX11_classes_21 : decode mX11_classes.2.1 21 = .ok (.i2l, 1) := by decide +kernel
theorem dX11_classes_22 : decode mX11_classes.2.1 22 = .ok (.lconst 0, 1) := by decide +kernel
theorem dX11_classes_23 : decode mX11_classes.2.1 23 = .ok (.lconst 1, 1) := by decide +kernel
theorem dX11_classes_24 : decode mX11_classes.2.1 24 = .ok (.invokestatic 129, 3) := by decide +kernel
theorem dX11_classes_27 : decode mX11_classes.2.1 27 = .ok (.ifCond .ne 5, 3) := by decide +kernel
theorem dX11_classes_30 : decode mX11_classes.2.1 30 = .ok (.iconst (-1), 1) := by decide +kernel
theorem dX11_classes_31 : decode mX11_classes.2.1 31 = .ok (.ireturn, 1) := by decide +kernel
theorem dX11_classes_32 : decode mX11_classes.2.1 32 = .ok (.aload_n 0, 1) := by decide +kernel
theorem dX11_classes_33 : decode mX11_classes.2.1 33 = .ok (.iload_n 1, 1) := by decide +kernel
theorem dX11_classes_34 : decode mX11_classes.2.1 34 = .ok (.invokevirtual 215, 3) := by decide +kernel
theorem dX11_classes_37 : decode mX11_classes.2.1 37 = .ok (.aload_n 0, 1) := by decide +kernel
theorem dX11_classes_38 : decode mX11_classes.2.1 38 = .ok (.iconst (-1), 1) := by decide +kernel
theorem dX11_classes_39 : decode mX11_classes.2.1 39 = .ok (.invokevirtual 228, 3) := by decide +kernel
theorem dX11_classes_42 : decode mX11_classes.2.1 42 = .ok (.istore 4, 2) := by decide +kernel
theorem dX11_classes_44 : decode mX11_classes.2.1 44 = .ok (.iconst 0, 1) := by decide +kernel
theorem dX11_classes_45 : decode mX11_classes.2.1 45 = .ok (.istore 5, 2) := by decide +kernel
theorem dX11_classes_47 : decode mX11_classes.2.1 47 = .ok (.iconst 0, 1) := by decide +kernel
theorem dX11_classes_48 : decode mX11_classes.2.1 48 = .ok (.istore 6, 2) := by decide +kernel
theorem dX11_classes_50 : decode mX11_classes.2.1 50 = .ok (.iload 4, 2) := by decide +kernel
theorem dX11_classes_52 : decode mX11_classes.2.1 52 = .ok (.ifCond .lt 72, 3) := by decide +kernel
theorem dX11_classes_55 : decode mX11_classes.2.1 55 = .ok (.iload 5, 2) := by decide +kernel
theorem dX11_classes_57 : decode mX11_classes.2.1 57 = .ok (.iload_n 2, 1) := by decide +kernel
theorem dX11_classes_58 : decode mX11_classes.2.1 58 = .ok (.if_icmp .ne 19, 3) := by decide +kernel
theorem dX11_classes_61 : decode mX11_classes.2.1 61 = .ok (.iload_n 3, 1) := by decide +kernel
theorem dX11_classes_62 : decode mX11_classes.2.1 62 = .ok (.ifCond .ne 12, 3) := by decide +kernel
theorem dX11_classes_65 : decode mX11_classes.2.1 65 = .ok (.aload_n 0, 1) := by decide +kernel
theorem dX11_classes_66 : decode mX11_classes.2.1 66 = .ok (.iload 4, 2) := by decide +kernel
theorem dX11_classes_68 : decode mX11_classes.2.1 68 = .ok (.invokevirtual 231, 3) := by decide +kernel
theorem dX11_classes_71 : decode mX11_classes.2.1 71 = .ok (.goto 5, 3) := by decide +kernel
theorem dX11_classes_74 : decode mX11_classes.2.1 74 = .ok (.iload 4, 2) := by decide +kernel
theorem dX11_classes_76 : decode mX11_classes.2.1 76 = .ok (.ireturn, 1) := by decide +kernel
theorem dX11_classes_77 : decode mX11_classes.2.1 77 = .ok (.iinc 5 1, 3) := by decide +kernel
theorem dX11_classes_80 : decode mX11_classes.2.1 80 = .ok (.iload_n 2, 1) := by decide +kernel
theorem dX11_classes_81 : decode mX11_classes.2.1 81 = .ok (.iconst (-1), 1) := by decide +kernel
theorem dX11_classes_82 : decode mX11_classes.2.1 82 = .ok (.if_icmp .ne 12, 3) := by decide +kernel
theorem dX11_classes_85 : decode mX11_classes.2.1 85 = .ok (.aload_n 0, 1) := by decide +kernel
theorem dX11_classes_86 : decode mX11_classes.2.1 86 = .ok (.iload 4, 2) := by decide +kernel
theorem dX11_classes_88 : decode mX11_classes.2.1 88 = .ok (.invokevirtual 231, 3) := by decide +kernel
theorem dX11_classes_91 : decode mX11_classes.2.1 91 = .ok (.goto 4, 3) := by decide +kernel
theorem dX11_classes_94 : decode mX11_classes.2.1 94 = .ok (.iconst 0, 1) := by decide +kernel
theorem dX11_classes_95 : decode mX11_classes.2.1 95 = .ok (.istore 7, 2) := by decide +kernel
theorem dX11_classes_97 : decode mX11_classes.2.1 97 = .ok (.iload 7, 2) := by decide +kernel
theorem dX11_classes_99 : decode mX11_classes.2.1 99 = .ok (.iload 6, 2) := by decide +kernel
theorem dX11_classes_101 : decode mX11_classes.2.1 101 = .ok (.if_icmp .le 8, 3) := by decide +kernel
theorem dX11_classes_104 : decode mX11_classes.2.1 104 = .ok (.iload 7, 2) := by decide +kernel
theorem dX11_classes_106 : decode mX11_classes.2.1 106 = .ok (.goto 5, 3) := by decide +kernel
theorem dX11_classes_109 : decode mX11_classes.2.1 109 = .ok (.iload 6, 2) := by decide +kernel
theorem dX11_classes_111 : decode mX11_classes.2.1 111 = .ok (.istore 6, 2) := by decide +kernel
theorem dX11_classes_113 : decode mX11_classes.2.1 113 = .ok (.aload_n 0, 1) := by decide +kernel
theorem dX11_classes_114 : decode mX11_classes.2.1 114 = .ok (.iload 4, 2) := by decide +kernel
theorem dX11_classes_116 : decode mX11_classes.2.1 116 = .ok (.invokevirtual 228, 3) := by decide +kernel
theorem dX11_classes_119 : decode mX11_classes.2.1 119 = .ok (.istore 4, 2) := by decide +kernel
theorem dX11_classes_121 : decode mX11_classes.2.1 121 = .ok (.goto (-71), 3) := by decide +kernel
theorem dX11_classes_124 : decode mX11_classes.2.1 124 = .ok (.iload_n 2, 1) := by decide +kernel
theorem dX11_classes_125 : decode mX11_classes.2.1 125 = .ok (.ifCond .lt 8, 3) := by decide +kernel
theorem dX11_classes_128 : decode mX11_classes.2.1 128 = .ok (.bipush (-5), 2) := by decide +kernel
theorem dX11_classes_130 : decode mX11_classes.2.1 130 = .ok (.goto 14, 3) := by decide +kernel
theorem dX11_classes_133 : decode mX11_classes.2.1 133 = .ok (.iload_n 3, 1) := by decide +kernel
theorem dX11_classes_134 : decode mX11_classes.2.1 134 = .ok (.ifCond .ne 8, 3) := by decide +kernel
theorem dX11_classes_137 : decode mX11_classes.2.1 137 = .ok (.iload 5, 2) := by decide +kernel
theorem dX11_classes_139 : decode mX11_classes.2.1 139 = .ok (.goto 5, 3) := by decide +kernel
theorem dX11_classes_142 : decode mX11_classes.2.1 142 = .ok (.iload 6, 2) := by decide +kernel
theorem dX11_classes_144 : decode mX11_classes.2.1 144 = .ok (.ireturn, 1) := by decide +kernel
def mX11_see : String × ByteArray × Nat := (RX11, cX11_see, 3)
theorem dX11_see_0 : decode mX11_see.2.1 0 = .ok (.iload_n 1, 1) := by decide +kernel
theorem dX11_see_1 : decode mX11_see.2.1 1 = .ok (.iconst (-1), 1) := by decide +kernel
theorem dX11_see_2 : decode mX11_see.2.1 2 = .ok (.if_icmp .ne 10, 3) := by decide +kernel
theorem dX11_see_5 : decode mX11_see.2.1 5 = .ok (.aload_n 0, 1) := by decide +kernel
theorem dX11_see_6 : decode mX11_see.2.1 6 = .ok (.iconst 0, 1) := by decide +kernel
theorem dX11_see_7 : decode mX11_see.2.1 7 = .ok (.putfield 234, 3) := by decide +kernel
theorem dX11_see_10 : decode mX11_see.2.1 10 = .ok (.iconst 0, 1) := by decide +kernel
theorem dX11_see_11 : decode mX11_see.2.1 11 = .ok (.ireturn, 1) := by decide +kernel
theorem dX11_see_12 : decode mX11_see.2.1 12 = .ok (.iload_n 1, 1) := by decide +kernel
theorem dX11_see_13 : decode mX11_see.2.1 13 = .ok (.i2l, 1) := by decide +kernel
theorem dX11_see_14 : decode mX11_see.2.1 14 = .ok (.lconst 0, 1) := by decide +kernel
theorem dX11_see_15 : decode mX11_see.2.1 15 = .ok (.ldc2_w 137, 3) := by decide +kernel
theorem dX11_see_18 : decode mX11_see.2.1 18 = .ok (.invokestatic 129, 3) := by decide +kernel
theorem dX11_see_21 : decode mX11_see.2.1 21 = .ok (.ifCond .ne 5, 3) := by decide +kernel
theorem dX11_see_24 : decode mX11_see.2.1 24 = .ok (.iconst (-1), 1) := by decide +kernel
theorem dX11_see_25 : decode mX11_see.2.1 25 = .ok (.ireturn, 1) := by decide +kernel
theorem dX11_see_26 : decode mX11_see.2.1 26 = .ok (.iload_n 2, 1) := by decide +kernel
theorem dX11_see_27 : decode mX11_see.2.1 27 = .ok (.i2l, 1) := by decide +kernel
theorem dX11_see_28 : decode mX11_see.2.1 28 = .ok (.lconst 0, 1) := by decide +kernel
theorem dX11_see_29 : decode mX11_see.2.1 29 = .ok (.ldc2_w 237, 3) := by decide +kernel
theorem dX11_see_32 : decode mX11_see.2.1 32 = .ok (.invokestatic 129, 3) := by decide +kernel
theorem dX11_see_35 : decode mX11_see.2.1 35 = .ok (.ifCond .ne 6, 3) := by decide +kernel
theorem dX11_see_38 : decode mX11_see.2.1 38 = .ok (.bipush (-2), 2) := by decide +kernel
theorem dX11_see_40 : decode mX11_see.2.1 40 = .ok (.ireturn, 1) := by decide +kernel
theorem dX11_see_41 : decode mX11_see.2.1 41 = .ok (.aload_n 0, 1) := by decide +kernel
theorem dX11_see_42 : decode mX11_see.2.1 42 = .ok (.getfield 234, 3) := by decide +kernel
theorem dX11_see_45 : decode mX11_see.2.1 45 = .ok (.iconst 4, 1) := by decide +kernel
theorem dX11_see_46 : decode mX11_see.2.1 46 = .ok (.if_icmp .ne 6, 3) := by decide +kernel
theorem dX11_see_49 : decode mX11_see.2.1 49 = .ok (.bipush (-4), 2) := by decide +kernel
theorem dX11_see_51 : decode mX11_see.2.1 51 = .ok (.ireturn, 1) := by decide +kernel
theorem dX11_see_52 : decode mX11_see.2.1 52 = .ok (.aload_n 0, 1) := by decide +kernel
theorem dX11_see_53 : decode mX11_see.2.1 53 = .ok (.getfield 31, 3) := by decide +kernel
theorem dX11_see_56 : decode mX11_see.2.1 56 = .ok (.aload_n 0, 1) := by decide +kernel
theorem dX11_see_57 : decode mX11_see.2.1 57 = .ok (.getfield 234, 3) := by decide +kernel
theorem dX11_see_60 : decode mX11_see.2.1 60 = .ok (.iload_n 1, 1) := by decide +kernel
theorem dX11_see_61 : decode mX11_see.2.1 61 = .ok (.iastore, 1) := by decide +kernel
theorem dX11_see_62 : decode mX11_see.2.1 62 = .ok (.aload_n 0, 1) := by decide +kernel
theorem dX11_see_63 : decode mX11_see.2.1 63 = .ok (.getfield 34, 3) := by decide +kernel
theorem dX11_see_66 : decode mX11_see.2.1 66 = .ok (.aload_n 0, 1) := by decide +kernel
theorem dX11_see_67 : decode mX11_see.2.1 67 = .ok (.getfield 234, 3) := by decide +kernel
theorem dX11_see_70 : decode mX11_see.2.1 70 = .ok (.iload_n 2, 1) := by decide +kernel
theorem dX11_see_71 : decode mX11_see.2.1 71 = .ok (.iastore, 1) := by decide +kernel
theorem dX11_see_72 : decode mX11_see.2.1 72 = .ok (.aload_n 0, 1) := by decide +kernel
theorem dX11_see_73 : decode mX11_see.2.1 73 = .ok (.dup, 1) := by decide +kernel
theorem dX11_see_74 : decode mX11_see.2.1 74 = .ok (.getfield 234, 3) := by decide +kernel
theorem dX11_see_77 : decode mX11_see.2.1 77 = .ok (.iconst 1, 1) := by decide +kernel
theorem dX11_see_78 : decode mX11_see.2.1 78 = .ok (.iadd, 1) := by decide +kernel
theorem dX11_see_79 : decode mX11_see.2.1 79 = .ok (.putfield 234, 3) := by decide +kernel
theorem dX11_see_82 : decode mX11_see.2.1 82 = .ok (.aload_n 0, 1) := by decide +kernel
theorem dX11_see_83 : decode mX11_see.2.1 83 = .ok (.getfield 234, 3) := by decide +kernel
theorem dX11_see_86 : decode mX11_see.2.1 86 = .ok (.ireturn, 1) := by decide +kernel
def mX11_fits : String × ByteArray × Nat := (RX11, cX11_fits, 8)
theorem dX11_fits_0 : decode mX11_fits.2.1 0 = .ok (.iload_n 1, 1) := by decide +kernel
theorem dX11_fits_1 : decode mX11_fits.2.1 1 = .ok (.i2l, 1) := by decide +kernel
theorem dX11_fits_2 : decode mX11_fits.2.1 2 = .ok (.lconst 1, 1) := by decide +kernel
theorem dX11_fits_3 : decode mX11_fits.2.1 3 = .ok (.ldc2_w 137, 3) := by decide +kernel
theorem dX11_fits_6 : decode mX11_fits.2.1 6 = .ok (.invokestatic 129, 3) := by decide +kernel
theorem dX11_fits_9 : decode mX11_fits.2.1 9 = .ok (.ifCond .ne 6, 3) := by decide +kernel
theorem dX11_fits_12 : decode mX11_fits.2.1 12 = .ok (.bipush (-2), 2) := by decide +kernel
theorem dX11_fits_14 : decode mX11_fits.2.1 14 = .ok (.ireturn, 1) := by decide +kernel
theorem dX11_fits_15 : decode mX11_fits.2.1 15 = .ok (.iload_n 2, 1) := by decide +kernel
theorem dX11_fits_16 : decode mX11_fits.2.1 16 = .ok (.i2l, 1) := by decide +kernel
theorem dX11_fits_17 : decode mX11_fits.2.1 17 = .ok (.lconst 0, 1) := by decide +kernel
theorem dX11_fits_18 : decode mX11_fits.2.1 18 = .ok (.lconst 1, 1) := by decide +kernel
theorem dX11_fits_19 : decode mX11_fits.2.1 19 = .ok (.invokestatic 129, 3) := by decide +kernel
theorem dX11_fits_22 : decode mX11_fits.2.1 22 = .ok (.ifCond .ne 5, 3) := by decide +kernel
theorem dX11_fits_25 : decode mX11_fits.2.1 25 = .ok (.iconst (-1), 1) := by decide +kernel
theorem dX11_fits_26 : decode mX11_fits.2.1 26 = .ok (.ireturn, 1) := by decide +kernel
theorem dX11_fits_27 : decode mX11_fits.2.1 27 = .ok (.aload_n 0, 1) := by decide +kernel
theorem dX11_fits_28 : decode mX11_fits.2.1 28 = .ok (.iload_n 1, 1) := by decide +kernel
theorem dX11_fits_29 : decode mX11_fits.2.1 29 = .ok (.invokevirtual 215, 3) := by decide +kernel
theorem dX11_fits_32 : decode mX11_fits.2.1 32 = .ok (.iconst 0, 1) := by decide +kernel
theorem dX11_fits_33 : decode mX11_fits.2.1 33 = .ok (.istore_n 3, 1) := by decide +kernel
theorem dX11_fits_34 : decode mX11_fits.2.1 34 = .ok (.bipush (-5), 2) := by decide +kernel
theorem dX11_fits_36 : decode mX11_fits.2.1 36 = .ok (.istore 4, 2) := by decide +kernel
theorem dX11_fits_38 : decode mX11_fits.2.1 38 = .ok (.iconst 0, 1) := by decide +kernel
theorem dX11_fits_39 : decode mX11_fits.2.1 39 = .ok (.istore 5, 2) := by decide +kernel
theorem dX11_fits_41 : decode mX11_fits.2.1 41 = .ok (.iload 5, 2) := by decide +kernel
theorem dX11_fits_43 : decode mX11_fits.2.1 43 = .ok (.aload_n 0, 1) := by decide +kernel
theorem dX11_fits_44 : decode mX11_fits.2.1 44 = .ok (.getfield 209, 3) := by decide +kernel
theorem dX11_fits_47 : decode mX11_fits.2.1 47 = .ok (.if_icmp .ge 101, 3) := by decide +kernel
theorem dX11_fits_50 : decode mX11_fits.2.1 50 = .ok (.iconst 1, 1) := by decide +kernel
theorem dX11_fits_51 : decode mX11_fits.2.1 51 = .ok (.istore 6, 2) := by decide +kernel
theorem dX11_fits_53 : decode mX11_fits.2.1 53 = .ok (.iconst 0, 1) := by decide +kernel
theorem dX11_fits_54 : decode mX11_fits.2.1 54 = .ok (.istore 7, 2) := by decide +kernel
theorem dX11_fits_56 : decode mX11_fits.2.1 56 = .ok (.iload 7, 2) := by decide +kernel
theorem dX11_fits_58 : decode mX11_fits.2.1 58 = .ok (.aload_n 0, 1) := by decide +kernel
theorem dX11_fits_59 : decode mX11_fits.2.1 59 = .ok (.getfield 234, 3) := by decide +kernel
theorem dX11_fits_62 : decode mX11_fits.2.1 62 = .ok (.if_icmp .ge 49, 3) := by decide +kernel
theorem dX11_fits_65 : decode mX11_fits.2.1 65 = .ok (.iload 6, 2) := by decide +kernel
theorem dX11_fits_67 : decode mX11_fits.2.1 67 = .ok (.ifCond .eq 35, 3) := by decide +kernel
theorem dX11_fits_70 : decode mX11_fits.2.1 70 = .ok (.aload_n 0, 1) := by decide +kernel
theorem dX11_fits_71 : decode mX11_fits.2.1 71 = .ok (.getfield 112, 3) := by decide +kernel
theorem dX11_fits_74 : decode mX11_fits.2.1 74 = .ok (.bipush 7, 2) := by decide +kernel
theorem dX11_fits_76 : decode mX11_fits.2.1 76 = .ok (.iload 5, 2) := by decide +kernel
theorem dX11_fits_78 : decode mX11_fits.2.1 78 = .ok (.imul, 1) := by decide +kernel
theorem dX11_fits_79 : decode mX11_fits.2.1 79 = .ok (.aload_n 0, 1) := by decide +kernel
theorem dX11_fits_80 : decode mX11_fits.2.1 80 = .ok (.getfield 31, 3) := by decide +kernel
theorem dX11_fits_83 : decode mX11_fits.2.1 83 = .ok (.iload 7, 2) := by decide +kernel
theorem dX11_fits_85 : decode mX11_fits.2.1 85 = .ok (.iaload, 1) := by decide +kernel
theorem dX11_fits_86 : decode mX11_fits.2.1 86 = .ok (.iadd, 1) := by decide +kernel
theorem dX11_fits_87 : decode mX11_fits.2.1 87 = .ok (.iaload, 1) := by decide +kernel
theorem dX11_fits_88 : decode mX11_fits.2.1 88 = .ok (.aload_n 0, 1) := by decide +kernel
theorem dX11_fits_89 : decode mX11_fits.2.1 89 = .ok (.getfield 34, 3) := by decide +kernel
theorem dX11_fits_92 : decode mX11_fits.2.1 92 = .ok (.iload 7, 2) := by decide +kernel
theorem dX11_fits_94 : decode mX11_fits.2.1 94 = .ok (.iaload, 1) := by decide +kernel
theorem dX11_fits_95 : decode mX11_fits.2.1 95 = .ok (.if_icmp .ne 7, 3) := by decide +kernel
theorem dX11_fits_98 : decode mX11_fits.2.1 98 = .ok (.iconst 1, 1) := by decide +kernel
theorem dX11_fits_99 : decode mX11_fits.2.1 99 = .ok (.goto 4, 3) := by decide +kernel
theorem dX11_fits_102 : decode mX11_fits.2.1 102 = .ok (.iconst 0, 1) := by decide +kernel
theorem dX11_fits_103 : decode mX11_fits.2.1 103 = .ok (.istore 6, 2) := by decide +kernel
theorem dX11_fits_105 : decode mX11_fits.2.1 105 = .ok (.iinc 7 1, 3) := by decide +kernel
theorem dX11_fits_108 : decode mX11_fits.2.1 108 = .ok (.goto (-52), 3) := by decide +kernel
theorem dX11_fits_111 : decode mX11_fits.2.1 111 = .ok (.iload 6, 2) := by decide +kernel
theorem dX11_fits_113 : decode mX11_fits.2.1 113 = .ok (.ifCond .eq 12, 3) := by decide +kernel
theorem dX11_fits_116 : decode mX11_fits.2.1 116 = .ok (.iload_n 3, 1) := by decide +kernel
theorem dX11_fits_117 : decode mX11_fits.2.1 117 = .ok (.ifCond .ne 8, 3) := by decide +kernel
theorem dX11_fits_120 : decode mX11_fits.2.1 120 = .ok (.iload 5, 2) := by decide +kernel
theorem dX11_fits_122 : decode mX11_fits.2.1 122 = .ok (.goto 5, 3) := by decide +kernel
theorem dX11_fits_125 : decode mX11_fits.2.1 125 = .ok (.iload 4, 2) := by decide +kernel
theorem dX11_fits_127 : decode mX11_fits.2.1 127 = .ok (.istore 4, 2) := by decide +kernel
theorem dX11_fits_129 : decode mX11_fits.2.1 129 = .ok (.iload_n 3, 1) := by decide +kernel
theorem dX11_fits_130 : decode mX11_fits.2.1 130 = .ok (.iload 6, 2) := by decide +kernel
theorem dX11_fits_132 : decode mX11_fits.2.1 132 = .ok (.ifCond .eq 7, 3) := by decide +kernel
theorem dX11_fits_135 : decode mX11_fits.2.1 135 = .ok (.iconst 1, 1) := by decide +kernel
theorem dX11_fits_136 : decode mX11_fits.2.1 136 = .ok (.goto 4, 3) := by decide +kernel
theorem dX11_fits_139 : decode mX11_fits.2.1 139 = .ok (.iconst 0, 1) := by decide +kernel
theorem dX11_fits_140 : decode mX11_fits.2.1 140 = .ok (.iadd, 1) := by decide +kernel
theorem dX11_fits_141 : decode mX11_fits.2.1 141 = .ok (.istore_n 3, 1) := by decide +kernel
theorem dX11_fits_142 : decode mX11_fits.2.1 142 = .ok (.iinc 5 1, 3) := by decide +kernel
theorem dX11_fits_145 : decode mX11_fits.2.1 145 = .ok (.goto (-104), 3) := by decide +kernel
theorem dX11_fits_148 : decode mX11_fits.2.1 148 = .ok (.iload_n 2, 1) := by decide +kernel
theorem dX11_fits_149 : decode mX11_fits.2.1 149 = .ok (.ifCond .ne 7, 3) := by decide +kernel
theorem dX11_fits_152 : decode mX11_fits.2.1 152 = .ok (.iload_n 3, 1) := by decide +kernel
theorem dX11_fits_153 : decode mX11_fits.2.1 153 = .ok (.goto 5, 3) := by decide +kernel
theorem dX11_fits_156 : decode mX11_fits.2.1 156 = .ok (.iload 4, 2) := by decide +kernel
theorem dX11_fits_158 : decode mX11_fits.2.1 158 = .ok (.ireturn, 1) := by decide +kernel
def mX11_weight : String × ByteArray × Nat := (RX11, cX11_weight, 5)
theorem dX11_weight_0 : decode mX11_weight.2.1 0 = .ok (.iload_n 1, 1) := by decide +kernel
theorem dX11_weight_1 : decode mX11_weight.2.1 1 = .ok (.invokestatic 133, 3) := by decide +kernel
theorem dX11_weight_4 : decode mX11_weight.2.1 4 = .ok (.ifCond .eq 10, 3) := by decide +kernel
theorem dX11_weight_7 : decode mX11_weight.2.1 7 = .ok (.iload_n 2, 1) := by decide +kernel
theorem dX11_weight_8 : decode mX11_weight.2.1 8 = .ok (.invokestatic 133, 3) := by decide +kernel
theorem dX11_weight_11 : decode mX11_weight.2.1 11 = .ok (.ifCond .ne 5, 3) := by decide +kernel
theorem dX11_weight_14 : decode mX11_weight.2.1 14 = .ok (.iconst (-1), 1) := by decide +kernel
theorem dX11_weight_15 : decode mX11_weight.2.1 15 = .ok (.ireturn, 1) := by decide +kernel
theorem dX11_weight_16 : decode mX11_weight.2.1 16 = .ok (.iload_n 3, 1) := by decide +kernel
theorem dX11_weight_17 : decode mX11_weight.2.1 17 = .ok (.i2l, 1) := by decide +kernel
theorem dX11_weight_18 : decode mX11_weight.2.1 18 = .ok (.lconst 0, 1) := by decide +kernel
theorem dX11_weight_19 : decode mX11_weight.2.1 19 = .ok (.ldc2_w 239, 3) := by decide +kernel
theorem dX11_weight_22 : decode mX11_weight.2.1 22 = .ok (.invokestatic 129, 3) := by decide +kernel
theorem dX11_weight_25 : decode mX11_weight.2.1 25 = .ok (.ifCond .ne 6, 3) := by decide +kernel
theorem dX11_weight_28 : decode mX11_weight.2.1 28 = .ok (.bipush (-2), 2) := by decide +kernel
theorem dX11_weight_30 : decode mX11_weight.2.1 30 = .ok (.ireturn, 1) := by decide +kernel
theorem dX11_weight_31 : decode mX11_weight.2.1 31 = .ok (.aload_n 0, 1) := by decide +kernel
theorem dX11_weight_32 : decode mX11_weight.2.1 32 = .ok (.getfield 28, 3) := by decide +kernel
theorem dX11_weight_35 : decode mX11_weight.2.1 35 = .ok (.bipush 6, 2) := by decide +kernel
theorem dX11_weight_37 : decode mX11_weight.2.1 37 = .ok (.iload_n 1, 1) := by decide +kernel
theorem dX11_weight_38 : decode mX11_weight.2.1 38 = .ok (.imul, 1) := by decide +kernel
theorem dX11_weight_39 : decode mX11_weight.2.1 39 = .ok (.iload_n 2, 1) := by decide +kernel
theorem dX11_weight_40 : decode mX11_weight.2.1 40 = .ok (.iadd, 1) := by decide +kernel
theorem dX11_weight_41 : decode mX11_weight.2.1 41 = .ok (.iaload, 1) := by decide +kernel
theorem dX11_weight_42 : decode mX11_weight.2.1 42 = .ok (.istore 4, 2) := by decide +kernel
theorem dX11_weight_44 : decode mX11_weight.2.1 44 = .ok (.iload 4, 2) := by decide +kernel
theorem dX11_weight_46 : decode mX11_weight.2.1 46 = .ok (.iload_n 3, 1) := by decide +kernel
theorem dX11_weight_47 : decode mX11_weight.2.1 47 = .ok (.if_icmp .eq 28, 3) := by decide +kernel
theorem dX11_weight_50 : decode mX11_weight.2.1 50 = .ok (.aload_n 0, 1) := by decide +kernel
theorem dX11_weight_51 : decode mX11_weight.2.1 51 = .ok (.iconst (-1), 1) := by decide +kernel
theorem dX11_weight_52 : decode mX11_weight.2.1 52 = .ok (.bipush 6, 2) := by decide +kernel
theorem dX11_weight_54 : decode mX11_weight.2.1 54 = .ok (.iload_n 1, 1) := by decide +kernel
theorem dX11_weight_55 : decode mX11_weight.2.1 55 = .ok (.imul, 1) := by decide +kernel
theorem dX11_weight_56 : decode mX11_weight.2.1 56 = .ok (.iload_n 2, 1) := by decide +kernel
theorem dX11_weight_57 : decode mX11_weight.2.1 57 = .ok (.iadd, 1) := by decide +kernel
theorem dX11_weight_58 : decode mX11_weight.2.1 58 = .ok (.iload 4, 2) := by decide +kernel
theorem dX11_weight_60 : decode mX11_weight.2.1 60 = .ok (.invokevirtual 183, 3) := by decide +kernel
theorem dX11_weight_63 : decode mX11_weight.2.1 63 = .ok (.aload_n 0, 1) := by decide +kernel
theorem dX11_weight_64 : decode mX11_weight.2.1 64 = .ok (.getfield 28, 3) := by decide +kernel
theorem dX11_weight_67 : decode mX11_weight.2.1 67 = .ok (.bipush 6, 2) := by decide +kernel
theorem dX11_weight_69 : decode mX11_weight.2.1 69 = .ok (.iload_n 1, 1) := by decide +kernel
theorem dX11_weight_70 : decode mX11_weight.2.1 70 = .ok (.imul, 1) := by decide +kernel
theorem dX11_weight_71 : decode mX11_weight.2.1 71 = .ok (.iload_n 2, 1) := by decide +kernel
theorem dX11_weight_72 : decode mX11_weight.2.1 72 = .ok (.iadd, 1) := by decide +kernel
theorem dX11_weight_73 : decode mX11_weight.2.1 73 = .ok (.iload_n 3, 1) := by decide +kernel
theorem dX11_weight_74 : decode mX11_weight.2.1 74 = .ok (.iastore, 1) := by decide +kernel
theorem dX11_weight_75 : decode mX11_weight.2.1 75 = .ok (.iload 4, 2) := by decide +kernel
theorem dX11_weight_77 : decode mX11_weight.2.1 77 = .ok (.ireturn, 1) := by decide +kernel
def mX11_begin : String × ByteArray × Nat := (RX11, cX11_begin, 1)
theorem dX11_begin_0 : decode mX11_begin.2.1 0 = .ok (.aload_n 0, 1) := by decide +kernel
theorem dX11_begin_1 : decode mX11_begin.2.1 1 = .ok (.iconst 0, 1) := by decide +kernel
theorem dX11_begin_2 : decode mX11_begin.2.1 2 = .ok (.putfield 241, 3) := by decide +kernel
theorem dX11_begin_5 : decode mX11_begin.2.1 5 = .ok (.aload_n 0, 1) := by decide +kernel
theorem dX11_begin_6 : decode mX11_begin.2.1 6 = .ok (.iconst 0, 1) := by decide +kernel
theorem dX11_begin_7 : decode mX11_begin.2.1 7 = .ok (.putfield 244, 3) := by decide +kernel
theorem dX11_begin_10 : decode mX11_begin.2.1 10 = .ok (.aload_n 0, 1) := by decide +kernel
theorem dX11_begin_11 : decode mX11_begin.2.1 11 = .ok (.iconst 0, 1) := by decide +kernel
theorem dX11_begin_12 : decode mX11_begin.2.1 12 = .ok (.putfield 247, 3) := by decide +kernel
theorem dX11_begin_15 : decode mX11_begin.2.1 15 = .ok (.aload_n 0, 1) := by decide +kernel
theorem dX11_begin_16 : decode mX11_begin.2.1 16 = .ok (.iconst 0, 1) := by decide +kernel
theorem dX11_begin_17 : decode mX11_begin.2.1 17 = .ok (.putfield 250, 3) := by decide +kernel
theorem dX11_begin_20 : decode mX11_begin.2.1 20 = .ok (.aload_n 0, 1) := by decide +kernel
theorem dX11_begin_21 : decode mX11_begin.2.1 21 = .ok (.getfield 115, 3) := by decide +kernel
theorem dX11_begin_24 : decode mX11_begin.2.1 24 = .ok (.iconst 0, 1) := by decide +kernel
theorem dX11_begin_25 : decode mX11_begin.2.1 25 = .ok (.iconst (-1), 1) := by decide +kernel
theorem dX11_begin_26 : decode mX11_begin.2.1 26 = .ok (.iastore, 1) := by decide +kernel
theorem dX11_begin_27 : decode mX11_begin.2.1 27 = .ok (.return_, 1) := by decide +kernel
def mX11_lift : String × ByteArray × Nat := (RX11, cX11_lift, 3)
theorem dX11_lift_0 : decode mX11_lift.2.1 0 = .ok (.aload_n 0, 1) := by decide +kernel
theorem dX11_lift_1 : decode mX11_lift.2.1 1 = .ok (.getfield 115, 3) := by decide +kernel
theorem dX11_lift_4 : decode mX11_lift.2.1 4 = .ok (.aload_n 0, 1) := by decide +kernel
theorem dX11_lift_5 : decode mX11_lift.2.1 5 = .ok (.getfield 250, 3) := by decide +kernel
theorem dX11_lift_8 : decode mX11_lift.2.1 8 = .ok (.iaload, 1) := by decide +kernel
theorem dX11_lift_9 : decode mX11_lift.2.1 9 = .ok (.istore_n 2, 1) := by decide +kernel
theorem dX11_lift_10 : decode mX11_lift.2.1 10 = .ok (.iload_n 2, 1) := by decide +kernel
theorem dX11_lift_11 : decode mX11_lift.2.1 11 = .ok (.ifCond .lt 55, 3) := by decide +kernel
theorem dX11_lift_14 : decode mX11_lift.2.1 14 = .ok (.iload_n 2, 1) := by decide +kernel
theorem dX11_lift_15 : decode mX11_lift.2.1 15 = .ok (.iload_n 1, 1) := by decide +kernel
theorem dX11_lift_16 : decode mX11_lift.2.1 16 = .ok (.if_icmp .ge 50, 3) := by decide +kernel
theorem dX11_lift_19 : decode mX11_lift.2.1 19 = .ok (.aload_n 0, 1) := by decide +kernel
theorem dX11_lift_20 : decode mX11_lift.2.1 20 = .ok (.dup, 1) := by decide +kernel
theorem dX11_lift_21 : decode mX11_lift.2.1 21 = .ok (.getfield 241, 3) := by decide +kernel
theorem dX11_lift_24 : decode mX11_lift.2.1 24 = .ok (.iconst 1, 1) := by decide +kernel
theorem dX11_lift_25 : decode mX11_lift.2.1 25 = .ok (.isub, 1) := by decide +kernel
theorem dX11_lift_26 : decode mX11_lift.2.1 26 = .ok (.putfield 241, 3) := by decide +kernel
theorem dX11_lift_29 : decode mX11_lift.2.1 29 = .ok (.aload_n 0, 1) := by decide +kernel
theorem dX11_lift_30 : decode mX11_lift.2.1 30 = .ok (.dup, 1) := by decide +kernel
theorem dX11_lift_31 : decode mX11_lift.2.1 31 = .ok (.getfield 244, 3) := by decide +kernel
theorem dX11_lift_34 : decode mX11_lift.2.1 34 = .ok (.iconst 1, 1) := by decide +kernel
theorem dX11_lift_35 : decode mX11_lift.2.1 35 = .ok (.iload_n 2, 1) := by decide +kernel
theorem dX11_lift_36 : decode mX11_lift.2.1 36 = .ok (.ishl, 1) := by decide +kernel
theorem dX11_lift_37 : decode mX11_lift.2.1 37 = .ok (.iconst (-1), 1) := by decide +kernel
theorem dX11_lift_38 : decode mX11_lift.2.1 38 = .ok (.ixor, 1) := by decide +kernel
theorem dX11_lift_39 : decode mX11_lift.2.1 39 = .ok (.iand, 1) := by decide +kernel
theorem dX11_lift_40 : decode mX11_lift.2.1 40 = .ok (.putfield 244, 3) := by decide +kernel
theorem dX11_lift_43 : decode mX11_lift.2.1 43 = .ok (.aload_n 0, 1) := by decide +kernel
theorem dX11_lift_44 : decode mX11_lift.2.1 44 = .ok (.dup, 1) := by decide +kernel
theorem dX11_lift_45 : decode mX11_lift.2.1 45 = .ok (.getfield 247, 3) := by decide +kernel
theorem dX11_lift_48 : decode mX11_lift.2.1 48 = .ok (.aload_n 0, 1) := by decide +kernel
theorem dX11_lift_49 : decode mX11_lift.2.1 49 = .ok (.getfield 28, 3) := by decide +kernel
theorem dX11_lift_52 : decode mX11_lift.2.1 52 = .ok (.bipush 6, 2) := by decide +kernel
theorem dX11_lift_54 : decode mX11_lift.2.1 54 = .ok (.aload_n 0, 1) := by decide +kernel
theorem dX11_lift_55 : decode mX11_lift.2.1 55 = .ok (.getfield 250, 3) := by decide +kernel
theorem dX11_lift_58 : decode mX11_lift.2.1 58 = .ok (.imul, 1) := by decide +kernel
theorem dX11_lift_59 : decode mX11_lift.2.1 59 = .ok (.iload_n 2, 1) := by decide +kernel
theorem dX11_lift_60 : decode mX11_lift.2.1 60 = .ok (.iadd, 1) := by decide +kernel
theorem dX11_lift_61 : decode mX11_lift.2.1 61 = .ok (.iaload, 1) := by decide +kernel
theorem dX11_lift_62 : decode mX11_lift.2.1 62 = .ok (.isub, 1) := by decide +kernel
theorem dX11_lift_63 : decode mX11_lift.2.1 63 = .ok (.putfield 247, 3) := by decide +kernel
theorem dX11_lift_66 : decode mX11_lift.2.1 66 = .ok (.return_, 1) := by decide +kernel
def mX11_mayStand : String × ByteArray × Nat := (RX11, cX11_mayStand, 5)
theorem dX11_mayStand_0 : decode mX11_mayStand.2.1 0 = .ok (.aload_n 0, 1) := by decide +kernel
theorem dX11_mayStand_1 : decode mX11_mayStand.2.1 1 = .ok (.getfield 22, 3) := by decide +kernel
theorem dX11_mayStand_4 : decode mX11_mayStand.2.1 4 = .ok (.iload_n 1, 1) := by decide +kernel
theorem dX11_mayStand_5 : decode mX11_mayStand.2.1 5 = .ok (.iaload, 1) := by decide +kernel
theorem dX11_mayStand_6 : decode mX11_mayStand.2.1 6 = .ok (.istore 4, 2) := by decide +kernel
theorem dX11_mayStand_8 : decode mX11_mayStand.2.1 8 = .ok (.iload_n 3, 1) := by decide +kernel
theorem dX11_mayStand_9 : decode mX11_mayStand.2.1 9 = .ok (.iload 4, 2) := by decide +kernel
theorem dX11_mayStand_11 : decode mX11_mayStand.2.1 11 = .ok (.if_icmp .ne 27, 3) := by decide +kernel
theorem dX11_mayStand_14 : decode mX11_mayStand.2.1 14 = .ok (.aload_n 0, 1) := by decide +kernel
theorem dX11_mayStand_15 : decode mX11_mayStand.2.1 15 = .ok (.getfield 241, 3) := by decide +kernel
theorem dX11_mayStand_18 : decode mX11_mayStand.2.1 18 = .ok (.iload 4, 2) := by decide +kernel
theorem dX11_mayStand_20 : decode mX11_mayStand.2.1 20 = .ok (.iadd, 1) := by decide +kernel
theorem dX11_mayStand_21 : decode mX11_mayStand.2.1 21 = .ok (.iconst 1, 1) := by decide +kernel
theorem dX11_mayStand_22 : decode mX11_mayStand.2.1 22 = .ok (.isub, 1) := by decide +kernel
theorem dX11_mayStand_23 : decode mX11_mayStand.2.1 23 = .ok (.aload_n 0, 1) := by decide +kernel
theorem dX11_mayStand_24 : decode mX11_mayStand.2.1 24 = .ok (.getfield 250, 3) := by decide +kernel
theorem dX11_mayStand_27 : decode mX11_mayStand.2.1 27 = .ok (.isub, 1) := by decide +kernel
theorem dX11_mayStand_28 : decode mX11_mayStand.2.1 28 = .ok (.iload_n 2, 1) := by decide +kernel
theorem dX11_mayStand_29 : decode mX11_mayStand.2.1 29 = .ok (.if_icmp .lt 7, 3) := by decide +kernel
theorem dX11_mayStand_32 : decode mX11_mayStand.2.1 32 = .ok (.iconst 1, 1) := by decide +kernel
theorem dX11_mayStand_33 : decode mX11_mayStand.2.1 33 = .ok (.goto 4, 3) := by decide +kernel
theorem dX11_mayStand_36 : decode mX11_mayStand.2.1 36 = .ok (.iconst 0, 1) := by decide +kernel
theorem dX11_mayStand_37 : decode mX11_mayStand.2.1 37 = .ok (.ireturn, 1) := by decide +kernel
theorem dX11_mayStand_38 : decode mX11_mayStand.2.1 38 = .ok (.aload_n 0, 1) := by decide +kernel
theorem dX11_mayStand_39 : decode mX11_mayStand.2.1 39 = .ok (.getfield 241, 3) := by decide +kernel
theorem dX11_mayStand_42 : decode mX11_mayStand.2.1 42 = .ok (.iload_n 2, 1) := by decide +kernel
theorem dX11_mayStand_43 : decode mX11_mayStand.2.1 43 = .ok (.if_icmp .ge 31, 3) := by decide +kernel
theorem dX11_mayStand_46 : decode mX11_mayStand.2.1 46 = .ok (.aload_n 0, 1) := by decide +kernel
theorem dX11_mayStand_47 : decode mX11_mayStand.2.1 47 = .ok (.iload_n 1, 1) := by decide +kernel
theorem dX11_mayStand_48 : decode mX11_mayStand.2.1 48 = .ok (.aload_n 0, 1) := by decide +kernel
theorem dX11_mayStand_49 : decode mX11_mayStand.2.1 49 = .ok (.getfield 250, 3) := by decide +kernel
theorem dX11_mayStand_52 : decode mX11_mayStand.2.1 52 = .ok (.iload_n 3, 1) := by decide +kernel
theorem dX11_mayStand_53 : decode mX11_mayStand.2.1 53 = .ok (.invokevirtual 189, 3) := by decide +kernel
theorem dX11_mayStand_56 : decode mX11_mayStand.2.1 56 = .ok (.ifCond .eq 18, 3) := by decide +kernel
theorem dX11_mayStand_59 : decode mX11_mayStand.2.1 59 = .ok (.aload_n 0, 1) := by decide +kernel
theorem dX11_mayStand_60 : decode mX11_mayStand.2.1 60 = .ok (.getfield 244, 3) := by decide +kernel
theorem dX11_mayStand_63 : decode mX11_mayStand.2.1 63 = .ok (.iload_n 3, 1) := by decide +kernel
theorem dX11_mayStand_64 : decode mX11_mayStand.2.1 64 = .ok (.ishr, 1) := by decide +kernel
theorem dX11_mayStand_65 : decode mX11_mayStand.2.1 65 = .ok (.iconst 1, 1) := by decide +kernel
theorem dX11_mayStand_66 : decode mX11_mayStand.2.1 66 = .ok (.iand, 1) := by decide +kernel
theorem dX11_mayStand_67 : decode mX11_mayStand.2.1 67 = .ok (.ifCond .ne 7, 3) := by decide +kernel
theorem dX11_mayStand_70 : decode mX11_mayStand.2.1 70 = .ok (.iconst 1, 1) := by decide +kernel
theorem dX11_mayStand_71 : decode mX11_mayStand.2.1 71 = .ok (.goto 4, 3) := by decide +kernel
theorem dX11_mayStand_74 : decode mX11_mayStand.2.1 74 = .ok (.iconst 0, 1) := by decide +kernel
theorem dX11_mayStand_75 : decode mX11_mayStand.2.1 75 = .ok (.ireturn, 1) := by decide +kernel

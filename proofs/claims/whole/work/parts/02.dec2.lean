def mX9_pushPairs : String × ByteArray × Nat := (RX9, cX9_pushPairs, 5)
theorem dX9_pushPairs_0 : decode mX9_pushPairs.2.1 0 = .ok (.iconst 0, 1) := by decide +kernel
theorem dX9_pushPairs_1 : decode mX9_pushPairs.2.1 1 = .ok (.istore 4, 2) := by decide +kernel
theorem dX9_pushPairs_3 : decode mX9_pushPairs.2.1 3 = .ok (.iload 4, 2) := by decide +kernel
theorem dX9_pushPairs_5 : decode mX9_pushPairs.2.1 5 = .ok (.iload_n 3, 1) := by decide +kernel
theorem dX9_pushPairs_6 : decode mX9_pushPairs.2.1 6 = .ok (.if_icmp .ge 21, 3) := by decide +kernel
theorem dX9_pushPairs_9 : decode mX9_pushPairs.2.1 9 = .ok (.aload_n 0, 1) := by decide +kernel
theorem dX9_pushPairs_10 : decode mX9_pushPairs.2.1 10 = .ok (.iload_n 1, 1) := by decide +kernel
theorem dX9_pushPairs_11 : decode mX9_pushPairs.2.1 11 = .ok (.iconst 1, 1) := by decide +kernel
theorem dX9_pushPairs_12 : decode mX9_pushPairs.2.1 12 = .ok (.invokevirtual 19, 3) := by decide +kernel
theorem dX9_pushPairs_15 : decode mX9_pushPairs.2.1 15 = .ok (.aload_n 0, 1) := by decide +kernel
theorem dX9_pushPairs_16 : decode mX9_pushPairs.2.1 16 = .ok (.iload_n 2, 1) := by decide +kernel
theorem dX9_pushPairs_17 : decode mX9_pushPairs.2.1 17 = .ok (.iconst 1, 1) := by decide +kernel
theorem dX9_pushPairs_18 : decode mX9_pushPairs.2.1 18 = .ok (.invokevirtual 19, 3) := by decide +kernel
theorem dX9_pushPairs_21 : decode mX9_pushPairs.2.1 21 = .ok (.iinc 4 1, 3) := by decide +kernel
theorem dX9_pushPairs_24 : decode mX9_pushPairs.2.1 24 = .ok (.goto (-21), 3) := by decide +kernel
theorem dX9_pushPairs_27 : decode mX9_pushPairs.2.1 27 = .ok (.return_, 1) := by decide +kernel
def mX9_pushGrowing : String × ByteArray × Nat := (RX9, cX9_pushGrowing, 3)
theorem dX9_pushGrowing_0 : decode mX9_pushGrowing.2.1 0 = .ok (.iconst 1, 1) := by decide +kernel
theorem dX9_pushGrowing_1 : decode mX9_pushGrowing.2.1 1 = .ok (.istore_n 2, 1) := by decide +kernel
theorem dX9_pushGrowing_2 : decode mX9_pushGrowing.2.1 2 = .ok (.iload_n 2, 1) := by decide +kernel
theorem dX9_pushGrowing_3 : decode mX9_pushGrowing.2.1 3 = .ok (.iload_n 1, 1) := by decide +kernel
theorem dX9_pushGrowing_4 : decode mX9_pushGrowing.2.1 4 = .ok (.if_icmp .gt 31, 3) := by decide +kernel
theorem dX9_pushGrowing_7 : decode mX9_pushGrowing.2.1 7 = .ok (.aload_n 0, 1) := by decide +kernel
theorem dX9_pushGrowing_8 : decode mX9_pushGrowing.2.1 8 = .ok (.iload_n 2, 1) := by decide +kernel
theorem dX9_pushGrowing_9 : decode mX9_pushGrowing.2.1 9 = .ok (.iconst 1, 1) := by decide +kernel
theorem dX9_pushGrowing_10 : decode mX9_pushGrowing.2.1 10 = .ok (.iadd, 1) := by decide +kernel
theorem dX9_pushGrowing_11 : decode mX9_pushGrowing.2.1 11 = .ok (.invokevirtual 31, 3) := by decide +kernel
theorem dX9_pushGrowing_14 : decode mX9_pushGrowing.2.1 14 = .ok (.ifCond .eq 21, 3) := by decide +kernel
theorem dX9_pushGrowing_17 : decode mX9_pushGrowing.2.1 17 = .ok (.aload_n 0, 1) := by decide +kernel
theorem dX9_pushGrowing_18 : decode mX9_pushGrowing.2.1 18 = .ok (.iconst 1, 1) := by decide +kernel
theorem dX9_pushGrowing_19 : decode mX9_pushGrowing.2.1 19 = .ok (.iload_n 2, 1) := by decide +kernel
theorem dX9_pushGrowing_20 : decode mX9_pushGrowing.2.1 20 = .ok (.invokevirtual 19, 3) := by decide +kernel
theorem dX9_pushGrowing_23 : decode mX9_pushGrowing.2.1 23 = .ok (.aload_n 0, 1) := by decide +kernel
theorem dX9_pushGrowing_24 : decode mX9_pushGrowing.2.1 24 = .ok (.iconst 0, 1) := by decide +kernel
theorem dX9_pushGrowing_25 : decode mX9_pushGrowing.2.1 25 = .ok (.iconst 1, 1) := by decide +kernel
theorem dX9_pushGrowing_26 : decode mX9_pushGrowing.2.1 26 = .ok (.invokevirtual 19, 3) := by decide +kernel
theorem dX9_pushGrowing_29 : decode mX9_pushGrowing.2.1 29 = .ok (.iinc 2 1, 3) := by decide +kernel
theorem dX9_pushGrowing_32 : decode mX9_pushGrowing.2.1 32 = .ok (.goto (-30), 3) := by decide +kernel
theorem dX9_pushGrowing_35 : decode mX9_pushGrowing.2.1 35 = .ok (.return_, 1) := by decide +kernel
def mX9_ups : String × ByteArray × Nat := (RX9, cX9_ups, 3)
theorem dX9_ups_0 : decode mX9_ups.2.1 0 = .ok (.iconst 0, 1) := by decide +kernel
theorem dX9_ups_1 : decode mX9_ups.2.1 1 = .ok (.istore_n 1, 1) := by decide +kernel
theorem dX9_ups_2 : decode mX9_ups.2.1 2 = .ok (.iconst 0, 1) := by decide +kernel
theorem dX9_ups_3 : decode mX9_ups.2.1 3 = .ok (.istore_n 2, 1) := by decide +kernel
theorem dX9_ups_4 : decode mX9_ups.2.1 4 = .ok (.iload_n 2, 1) := by decide +kernel
theorem dX9_ups_5 : decode mX9_ups.2.1 5 = .ok (.aload_n 0, 1) := by decide +kernel
theorem dX9_ups_6 : decode mX9_ups.2.1 6 = .ok (.getfield 15, 3) := by decide +kernel
theorem dX9_ups_9 : decode mX9_ups.2.1 9 = .ok (.if_icmp .ge 21, 3) := by decide +kernel
theorem dX9_ups_12 : decode mX9_ups.2.1 12 = .ok (.aload_n 0, 1) := by decide +kernel
theorem dX9_ups_13 : decode mX9_ups.2.1 13 = .ok (.getfield 9, 3) := by decide +kernel
theorem dX9_ups_16 : decode mX9_ups.2.1 16 = .ok (.iload_n 2, 1) := by decide +kernel
theorem dX9_ups_17 : decode mX9_ups.2.1 17 = .ok (.iaload, 1) := by decide +kernel
theorem dX9_ups_18 : decode mX9_ups.2.1 18 = .ok (.ifCond .ne 6, 3) := by decide +kernel
theorem dX9_ups_21 : decode mX9_ups.2.1 21 = .ok (.iinc 1 1, 3) := by decide +kernel
theorem dX9_ups_24 : decode mX9_ups.2.1 24 = .ok (.iinc 2 1, 3) := by decide +kernel
theorem dX9_ups_27 : decode mX9_ups.2.1 27 = .ok (.goto (-23), 3) := by decide +kernel
theorem dX9_ups_30 : decode mX9_ups.2.1 30 = .ok (.iload_n 1, 1) := by decide +kernel
theorem dX9_ups_31 : decode mX9_ups.2.1 31 = .ok (.ireturn, 1) := by decide +kernel
def mX9_downs : String × ByteArray × Nat := (RX9, cX9_downs, 1)
theorem dX9_downs_0 : decode mX9_downs.2.1 0 = .ok (.aload_n 0, 1) := by decide +kernel
theorem dX9_downs_1 : decode mX9_downs.2.1 1 = .ok (.getfield 15, 3) := by decide +kernel
theorem dX9_downs_4 : decode mX9_downs.2.1 4 = .ok (.aload_n 0, 1) := by decide +kernel
theorem dX9_downs_5 : decode mX9_downs.2.1 5 = .ok (.invokevirtual 35, 3) := by decide +kernel
theorem dX9_downs_8 : decode mX9_downs.2.1 8 = .ok (.isub, 1) := by decide +kernel
theorem dX9_downs_9 : decode mX9_downs.2.1 9 = .ok (.ireturn, 1) := by decide +kernel
def mX9_turnAbout : String × ByteArray × Nat := (RX9, cX9_turnAbout, 4)
theorem dX9_turnAbout_0 : decode mX9_turnAbout.2.1 0 = .ok (.iconst 0, 1) := by decide +kernel
theorem dX9_turnAbout_1 : decode mX9_turnAbout.2.1 1 = .ok (.istore_n 1, 1) := by decide +kernel
theorem dX9_turnAbout_2 : decode mX9_turnAbout.2.1 2 = .ok (.aload_n 0, 1) := by decide +kernel
theorem dX9_turnAbout_3 : decode mX9_turnAbout.2.1 3 = .ok (.getfield 15, 3) := by decide +kernel
theorem dX9_turnAbout_6 : decode mX9_turnAbout.2.1 6 = .ok (.iconst 1, 1) := by decide +kernel
theorem dX9_turnAbout_7 : decode mX9_turnAbout.2.1 7 = .ok (.isub, 1) := by decide +kernel
theorem dX9_turnAbout_8 : decode mX9_turnAbout.2.1 8 = .ok (.istore_n 2, 1) := by decide +kernel
theorem dX9_turnAbout_9 : decode mX9_turnAbout.2.1 9 = .ok (.iload_n 1, 1) := by decide +kernel
theorem dX9_turnAbout_10 : decode mX9_turnAbout.2.1 10 = .ok (.iload_n 2, 1) := by decide +kernel
theorem dX9_turnAbout_11 : decode mX9_turnAbout.2.1 11 = .ok (.if_icmp .gt 42, 3) := by decide +kernel
theorem dX9_turnAbout_14 : decode mX9_turnAbout.2.1 14 = .ok (.aload_n 0, 1) := by decide +kernel
theorem dX9_turnAbout_15 : decode mX9_turnAbout.2.1 15 = .ok (.getfield 9, 3) := by decide +kernel
theorem dX9_turnAbout_18 : decode mX9_turnAbout.2.1 18 = .ok (.iload_n 1, 1) := by decide +kernel
theorem dX9_turnAbout_19 : decode mX9_turnAbout.2.1 19 = .ok (.iaload, 1) := by decide +kernel
theorem dX9_turnAbout_20 : decode mX9_turnAbout.2.1 20 = .ok (.istore_n 3, 1) := by decide +kernel
theorem dX9_turnAbout_21 : decode mX9_turnAbout.2.1 21 = .ok (.aload_n 0, 1) := by decide +kernel
theorem dX9_turnAbout_22 : decode mX9_turnAbout.2.1 22 = .ok (.getfield 9, 3) := by decide +kernel
theorem dX9_turnAbout_25 : decode mX9_turnAbout.2.1 25 = .ok (.iload_n 1, 1) := by decide +kernel
theorem dX9_turnAbout_26 : decode mX9_turnAbout.2.1 26 = .ok (.iconst 1, 1) := by decide +kernel
theorem dX9_turnAbout_27 : decode mX9_turnAbout.2.1 27 = .ok (.aload_n 0, 1) := by decide +kernel
theorem dX9_turnAbout_28 : decode mX9_turnAbout.2.1 28 = .ok (.getfield 9, 3) := by decide +kernel
theorem dX9_turnAbout_31 : decode mX9_turnAbout.2.1 31 = .ok (.iload_n 2, 1) := by decide +kernel
theorem dX9_turnAbout_32 : decode mX9_turnAbout.2.1 32 = .ok (.iaload, 1) := by decide +kernel
theorem dX9_turnAbout_33 : decode mX9_turnAbout.2.1 33 = .ok (.isub, 1) := by decide +kernel
theorem dX9_turnAbout_34 : decode mX9_turnAbout.2.1 34 = .ok (.iastore, 1) := by decide +kernel
theorem dX9_turnAbout_35 : decode mX9_turnAbout.2.1 35 = .ok (.aload_n 0, 1) := by decide +kernel
theorem dX9_turnAbout_36 : decode mX9_turnAbout.2.1 36 = .ok (.getfield 9, 3) := by decide +kernel
theorem dX9_turnAbout_39 : decode mX9_turnAbout.2.1 39 = .ok (.iload_n 2, 1) := by decide +kernel
theorem dX9_turnAbout_40 : decode mX9_turnAbout.2.1 40 = .ok (.iconst 1, 1) := by decide +kernel
theorem dX9_turnAbout_41 : decode mX9_turnAbout.2.1 41 = .ok (.iload_n 3, 1) := by decide +kernel
theorem dX9_turnAbout_42 : decode mX9_turnAbout.2.1 42 = .ok (.isub, 1) := by decide +kernel
theorem dX9_turnAbout_43 : decode mX9_turnAbout.2.1 43 = .ok (.iastore, 1) := by decide +kernel
theorem dX9_turnAbout_44 : decode mX9_turnAbout.2.1 44 = .ok (.iinc 1 1, 3) := by decide +kernel
theorem dX9_turnAbout_47 : decode mX9_turnAbout.2.1 47 = .ok (.iinc 2 (-1), 3) := by decide +kernel
theorem dX9_turnAbout_50 : decode mX9_turnAbout.2.1 50 = .ok (.goto (-41), 3) := by decide +kernel
theorem dX9_turnAbout_53 : decode mX9_turnAbout.2.1 53 = .ok (.return_, 1) := by decide +kernel
def mX9_becomeLetters : String × ByteArray × Nat := (RX9, cX9_becomeLetters, 4)
theorem dX9_becomeLetters_0 : decode mX9_becomeLetters.2.1 0 = .ok (.aload_n 0, 1) := by decide +kernel
theorem dX9_becomeLetters_1 : decode mX9_becomeLetters.2.1 1 = .ok (.iconst 0, 1) := by decide +kernel
theorem dX9_becomeLetters_2 : decode mX9_becomeLetters.2.1 2 = .ok (.putfield 15, 3) := by decide +kernel
theorem dX9_becomeLetters_5 : decode mX9_becomeLetters.2.1 5 = .ok (.iconst 0, 1) := by decide +kernel
theorem dX9_becomeLetters_6 : decode mX9_becomeLetters.2.1 6 = .ok (.istore_n 3, 1) := by decide +kernel
theorem dX9_becomeLetters_7 : decode mX9_becomeLetters.2.1 7 = .ok (.iload_n 3, 1) := by decide +kernel
theorem dX9_becomeLetters_8 : decode mX9_becomeLetters.2.1 8 = .ok (.iload_n 2, 1) := by decide +kernel
theorem dX9_becomeLetters_9 : decode mX9_becomeLetters.2.1 9 = .ok (.if_icmp .ge 23, 3) := by decide +kernel
theorem dX9_becomeLetters_12 : decode mX9_becomeLetters.2.1 12 = .ok (.iload_n 3, 1) := by decide +kernel
theorem dX9_becomeLetters_13 : decode mX9_becomeLetters.2.1 13 = .ok (.aload_n 1, 1) := by decide +kernel
theorem dX9_becomeLetters_14 : decode mX9_becomeLetters.2.1 14 = .ok (.arraylength, 1) := by decide +kernel
theorem dX9_becomeLetters_15 : decode mX9_becomeLetters.2.1 15 = .ok (.if_icmp .ge 17, 3) := by decide +kernel
theorem dX9_becomeLetters_18 : decode mX9_becomeLetters.2.1 18 = .ok (.aload_n 0, 1) := by decide +kernel
theorem dX9_becomeLetters_19 : decode mX9_becomeLetters.2.1 19 = .ok (.aload_n 1, 1) := by decide +kernel
theorem dX9_becomeLetters_20 : decode mX9_becomeLetters.2.1 20 = .ok (.iload_n 3, 1) := by decide +kernel
theorem dX9_becomeLetters_21 : decode mX9_becomeLetters.2.1 21 = .ok (.iaload, 1) := by decide +kernel
theorem dX9_becomeLetters_22 : decode mX9_becomeLetters.2.1 22 = .ok (.iconst 1, 1) := by decide +kernel
theorem dX9_becomeLetters_23 : decode mX9_becomeLetters.2.1 23 = .ok (.invokevirtual 19, 3) := by decide +kernel
theorem dX9_becomeLetters_26 : decode mX9_becomeLetters.2.1 26 = .ok (.iinc 3 1, 3) := by decide +kernel
theorem dX9_becomeLetters_29 : decode mX9_becomeLetters.2.1 29 = .ok (.goto (-22), 3) := by decide +kernel
theorem dX9_becomeLetters_32 : decode mX9_becomeLetters.2.1 32 = .ok (.return_, 1) := by decide +kernel
def mX9_fillOrders : String × ByteArray × Nat := (RX9, cX9_fillOrders, 5)
theorem dX9_fillOrders_0 : decode mX9_fillOrders.2.1 0 = .ok (.aload_n 1, 1) := by decide +kernel
theorem dX9_fillOrders_1 : decode mX9_fillOrders.2.1 1 = .ok (.lconst 0, 1) := by decide +kernel
theorem dX9_fillOrders_2 : decode mX9_fillOrders.2.1 2 = .ok (.invokestatic 39, 3) := by decide +kernel
theorem dX9_fillOrders_5 : decode mX9_fillOrders.2.1 5 = .ok (.aload_n 1, 1) := by decide +kernel
theorem dX9_fillOrders_6 : decode mX9_fillOrders.2.1 6 = .ok (.iconst 0, 1) := by decide +kernel
theorem dX9_fillOrders_7 : decode mX9_fillOrders.2.1 7 = .ok (.lconst 1, 1) := by decide +kernel
theorem dX9_fillOrders_8 : decode mX9_fillOrders.2.1 8 = .ok (.lastore, 1) := by decide +kernel
theorem dX9_fillOrders_9 : decode mX9_fillOrders.2.1 9 = .ok (.iconst 0, 1) := by decide +kernel
theorem dX9_fillOrders_10 : decode mX9_fillOrders.2.1 10 = .ok (.istore_n 2, 1) := by decide +kernel
theorem dX9_fillOrders_11 : decode mX9_fillOrders.2.1 11 = .ok (.iconst 0, 1) := by decide +kernel
theorem dX9_fillOrders_12 : decode mX9_fillOrders.2.1 12 = .ok (.istore_n 3, 1) := by decide +kernel
theorem dX9_fillOrders_13 : decode mX9_fillOrders.2.1 13 = .ok (.iload_n 3, 1) := by decide +kernel
theorem dX9_fillOrders_14 : decode mX9_fillOrders.2.1 14 = .ok (.aload_n 0, 1) := by decide +kernel
theorem dX9_fillOrders_15 : decode mX9_fillOrders.2.1 15 = .ok (.getfield 15, 3) := by decide +kernel
theorem dX9_fillOrders_18 : decode mX9_fillOrders.2.1 18 = .ok (.if_icmp .ge 61, 3) := by decide +kernel
theorem dX9_fillOrders_21 : decode mX9_fillOrders.2.1 21 = .ok (.aload_n 0, 1) := by decide +kernel
theorem dX9_fillOrders_22 : decode mX9_fillOrders.2.1 22 = .ok (.getfield 9, 3) := by decide +kernel
theorem dX9_fillOrders_25 : decode mX9_fillOrders.2.1 25 = .ok (.iload_n 3, 1) := by decide +kernel
theorem dX9_fillOrders_26 : decode mX9_fillOrders.2.1 26 = .ok (.iaload, 1) := by decide +kernel
theorem dX9_fillOrders_27 : decode mX9_fillOrders.2.1 27 = .ok (.iconst 1, 1) := by decide +kernel
theorem dX9_fillOrders_28 : decode mX9_fillOrders.2.1 28 = .ok (.if_icmp .ne 9, 3) := by decide +kernel
theorem dX9_fillOrders_31 : decode mX9_fillOrders.2.1 31 = .ok (.iinc 2 1, 3) := by decide +kernel
theorem dX9_fillOrders_34 : decode mX9_fillOrders.2.1 34 = .ok (.goto 39, 3) := by decide +kernel
theorem dX9_fillOrders_37 : decode mX9_fillOrders.2.1 37 = .ok (.iload_n 2, 1) := by decide +kernel
theorem dX9_fillOrders_38 : decode mX9_fillOrders.2.1 38 = .ok (.istore 4, 2) := by decide +kernel
theorem dX9_fillOrders_40 : decode mX9_fillOrders.2.1 40 = .ok (.iload 4, 2) := by decide +kernel
theorem dX9_fillOrders_42 : decode mX9_fillOrders.2.1 42 = .ok (.iconst 1, 1) := by decide +kernel
theorem dX9_fillOrders_43 : decode mX9_fillOrders.2.1 43 = .ok (.if_icmp .lt 30, 3) := by decide +kernel
theorem dX9_fillOrders_46 : decode mX9_fillOrders.2.1 46 = .ok (.aload_n 1, 1) := by decide +kernel
theorem dX9_fillOrders_47 : decode mX9_fillOrders.2.1 47 = .ok (.iload 4, 2) := by decide +kernel
theorem dX9_fillOrders_49 : decode mX9_fillOrders.2.1 49 = .ok (.dup2, 1) := by decide +kernel
theorem dX9_fillOrders_50 : decode mX9_fillOrders.2.1 50 = .ok (.laload, 1) := by decide +kernel
theorem dX9_fillOrders_51 : decode mX9_fillOrders.2.1 51 = .ok (.iload_n 2, 1) := by decide +kernel
theorem dX9_fillOrders_52 : decode mX9_fillOrders.2.1 52 = .ok (.iload 4, 2) := by decide +kernel
theorem dX9_fillOrders_54 : decode mX9_fillOrders.2.1 54 = .ok (.isub, 1) := by decide +kernel
theorem dX9_fillOrders_55 : decode mX9_fillOrders.2.1 55 = .ok (.iconst 1, 1) := by decide +kernel
theorem dX9_fillOrders_56 : decode mX9_fillOrders.2.1 56 = .ok (.iadd, 1) := by decide +kernel
theorem dX9_fillOrders_57 : decode mX9_fillOrders.2.1 57 = .ok (.i2l, 1) := by decide +kernel
theorem dX9_fillOrders_58 : decode mX9_fillOrders.2.1 58 = .ok (.aload_n 1, 1) := by decide +kernel
theorem dX9_fillOrders_59 : decode mX9_fillOrders.2.1 59 = .ok (.iload 4, 2) := by decide +kernel
theorem dX9_fillOrders_61 : decode mX9_fillOrders.2.1 61 = .ok (.iconst 1, 1) := by decide +kernel
theorem dX9_fillOrders_62 : decode mX9_fillOrders.2.1 62 = .ok (.isub, 1) := by decide +kernel
theorem dX9_fillOrders_63 : decode mX9_fillOrders.2.1 63 = .ok (.laload, 1) := by decide +kernel
theorem dX9_fillOrders_64 : decode mX9_fillOrders.2.1 64 = .ok (.lmul, 1) := by decide +kernel
theorem dX9_fillOrders_65 : decode mX9_fillOrders.2.1 65 = .ok (.ladd, 1) := by decide +kernel
theorem dX9_fillOrders_66 : decode mX9_fillOrders.2.1 66 = .ok (.lastore, 1) := by decide +kernel
theorem dX9_fillOrders_67 : decode mX9_fillOrders.2.1 67 = .ok (.iinc 4 (-1), 3) := by decide +kernel
theorem dX9_fillOrders_70 : decode mX9_fillOrders.2.1 70 = .ok (.goto (-30), 3) := by decide +kernel
theorem dX9_fillOrders_73 : decode mX9_fillOrders.2.1 73 = .ok (.iinc 3 1, 3) := by decide +kernel
theorem dX9_fillOrders_76 : decode mX9_fillOrders.2.1 76 = .ok (.goto (-63), 3) := by decide +kernel
theorem dX9_fillOrders_79 : decode mX9_fillOrders.2.1 79 = .ok (.return_, 1) := by decide +kernel
def mX10_init : String × ByteArray × Nat := (RX10, cX10_init, 2)
theorem dX10_init_0 : decode mX10_init.2.1 0 = .ok (.aload_n 0, 1) := by decide +kernel
theorem dX10_init_1 : decode mX10_init.2.1 1 = .ok (.invokespecial 3, 3) := by decide +kernel
theorem dX10_init_4 : decode mX10_init.2.1 4 = .ok (.aload_n 0, 1) := by decide +kernel
theorem dX10_init_5 : decode mX10_init.2.1 5 = .ok (.new 9, 3) := by decide +kernel
theorem dX10_init_8 : decode mX10_init.2.1 8 = .ok (.dup, 1) := by decide +kernel
theorem dX10_init_9 : decode mX10_init.2.1 9 = .ok (.invokespecial 11, 3) := by decide +kernel
theorem dX10_init_12 : decode mX10_init.2.1 12 = .ok (.putfield 12, 3) := by decide +kernel
theorem dX10_init_15 : decode mX10_init.2.1 15 = .ok (.aload_n 0, 1) := by decide +kernel
theorem dX10_init_16 : decode mX10_init.2.1 16 = .ok (.new 9, 3) := by decide +kernel
theorem dX10_init_19 : decode mX10_init.2.1 19 = .ok (.dup, 1) := by decide +kernel
theorem dX10_init_20 : decode mX10_init.2.1 20 = .ok (.invokespecial 11, 3) := by decide +kernel
theorem dX10_init_23 : decode mX10_init.2.1 23 = .ok (.putfield 18, 3) := by decide +kernel
theorem dX10_init_26 : decode mX10_init.2.1 26 = .ok (.aload_n 0, 1) := by decide +kernel
theorem dX10_init_27 : decode mX10_init.2.1 27 = .ok (.new 21, 3) := by decide +kernel
theorem dX10_init_30 : decode mX10_init.2.1 30 = .ok (.dup, 1) := by decide +kernel
theorem dX10_init_31 : decode mX10_init.2.1 31 = .ok (.invokespecial 23, 3) := by decide +kernel
theorem dX10_init_34 : decode mX10_init.2.1 34 = .ok (.putfield 24, 3) := by decide +kernel
theorem dX10_init_37 : decode mX10_init.2.1 37 = .ok (.aload_n 0, 1) := by decide +kernel
theorem dX10_init_38 : decode mX10_init.2.1 38 = .ok (.new 28, 3) := by decide +kernel
theorem dX10_init_41 : decode mX10_init.2.1 41 = .ok (.dup, 1) := by decide +kernel
theorem dX10_init_42 : decode mX10_init.2.1 42 = .ok (.invokespecial 30, 3) := by decide +kernel
theorem dX10_init_45 : decode mX10_init.2.1 45 = .ok (.putfield 31, 3) := by decide +kernel
theorem dX10_init_48 : decode mX10_init.2.1 48 = .ok (.aload_n 0, 1) := by decide +kernel
theorem dX10_init_49 : decode mX10_init.2.1 49 = .ok (.new 35, 3) := by decide +kernel
theorem dX10_init_52 : decode mX10_init.2.1 52 = .ok (.dup, 1) := by decide +kernel
theorem dX10_init_53 : decode mX10_init.2.1 53 = .ok (.invokespecial 37, 3) := by decide +kernel
theorem dX10_init_56 : decode mX10_init.2.1 56 = .ok (.putfield 38, 3) := by decide +kernel
theorem dX10_init_59 : decode mX10_init.2.1 59 = .ok (.aload_n 0, 1) := by decide +kernel
theorem dX10_init_60 : decode mX10_init.2.1 60 = .ok (.bipush 6, 2) := by decide +kernel
theorem dX10_init_62 : decode mX10_init.2.1 62 = .ok (.anewarray 42, 3) := by decide +kernel
theorem dX10_init_65 : decode mX10_init.2.1 65 = .ok (.putfield 44, 3) := by decide +kernel
theorem dX10_init_68 : decode mX10_init.2.1 68 = .ok (.iconst 0, 1) := by decide +kernel
theorem dX10_init_69 : decode mX10_init.2.1 69 = .ok (.istore_n 1, 1) := by decide +kernel
theorem dX10_init_70 : decode mX10_init.2.1 70 = .ok (.iload_n 1, 1) := by decide +kernel
theorem dX10_init_71 : decode mX10_init.2.1 71 = .ok (.bipush 6, 2) := by decide +kernel
theorem dX10_init_73 : decode mX10_init.2.1 73 = .ok (.if_icmp .ge 22, 3) := by decide +kernel
theorem dX10_init_76 : decode mX10_init.2.1 76 = .ok (.aload_n 0, 1) := by decide +kernel
theorem dX10_init_77 : decode mX10_init.2.1 77 = .ok (.getfield 44, 3) := by decide +kernel
theorem dX10_init_80 : decode mX10_init.2.1 80 = .ok (.iload_n 1, 1) := by decide +kernel
theorem dX10_init_81 : decode mX10_init.2.1 81 = .ok (.new 42, 3) := by decide +kernel
theorem dX10_init_84 : decode mX10_init.2.1 84 = .ok (.dup, 1) := by decide +kernel
theorem dX10_init_85 : decode mX10_init.2.1 85 = .ok (.invokespecial 48, 3) := by decide +kernel
theorem dX10_init_88 : decode mX10_init.2.1 88 = .ok (.aastore, 1) := by decide +kernel
theorem dX10_init_89 : decode mX10_init.2.1 89 = .ok (.iinc 1 1, 3) := by decide +kernel
theorem dX10_init_92 : decode mX10_init.2.1 92 = .ok (.goto (-22), 3) := by decide +kernel
theorem dX10_init_95 : decode mX10_init.2.1 95 = .ok (.aload_n 0, 1) := by decide +kernel
theorem dX10_init_96 : decode mX10_init.2.1 96 = .ok (.new 49, 3) := by decide +kernel
theorem dX10_init_99 : decode mX10_init.2.1 99 = .ok (.dup, 1) := by decide +kernel
theorem dX10_init_100 : decode mX10_init.2.1 100 = .ok (.invokespecial 51, 3) := by decide +kernel
theorem dX10_init_103 : decode mX10_init.2.1 103 = .ok (.putfield 52, 3) := by decide +kernel
theorem dX10_init_106 : decode mX10_init.2.1 106 = .ok (.aload_n 0, 1) := by decide +kernel
theorem dX10_init_107 : decode mX10_init.2.1 107 = .ok (.bipush 7, 2) := by decide +kernel
theorem dX10_init_109 : decode mX10_init.2.1 109 = .ok (.anewarray 56, 3) := by decide +kernel
theorem dX10_init_112 : decode mX10_init.2.1 112 = .ok (.putfield 58, 3) := by decide +kernel
theorem dX10_init_115 : decode mX10_init.2.1 115 = .ok (.aload_n 0, 1) := by decide +kernel
theorem dX10_init_116 : decode mX10_init.2.1 116 = .ok (.bipush 13, 2) := by decide +kernel
theorem dX10_init_118 : decode mX10_init.2.1 118 = .ok (.newarray .long, 2) := by decide +kernel
theorem dX10_init_120 : decode mX10_init.2.1 120 = .ok (.putfield 62, 3) := by decide +kernel
theorem dX10_init_123 : decode mX10_init.2.1 123 = .ok (.return_, 1) := by decide +kernel
def mX10_letter : String × ByteArray × Nat := (RX10, cX10_letter, 4)
theorem dX10_letter_0 : decode mX10_letter.2.1 0 = .ok (.iload_n 1, 1) := by decide +kernel
theorem dX10_letter_1 : decode mX10_letter.2.1 1 = .ok (.invokestatic 66, 3) := by decide +kernel
theorem dX10_letter_4 : decode mX10_letter.2.1 4 = .ok (.ifCond .ne 5, 3) := by decide +kernel
theorem dX10_letter_7 : decode mX10_letter.2.1 7 = .ok (.iconst (-1), 1) := by decide +kernel
theorem dX10_letter_8 : decode mX10_letter.2.1 8 = .ok (.ireturn, 1) := by decide +kernel
theorem dX10_letter_9 : decode mX10_letter.2.1 9 = .ok (.iload_n 2, 1) := by decide +kernel
theorem dX10_letter_10 : decode mX10_letter.2.1 10 = .ok (.ifCond .eq 11, 3) := by decide +kernel
theorem dX10_letter_13 : decode mX10_letter.2.1 13 = .ok (.iload_n 2, 1) := by decide +kernel
theorem dX10_letter_14 : decode mX10_letter.2.1 14 = .ok (.iconst 1, 1) := by decide +kernel
theorem dX10_letter_15 : decode mX10_letter.2.1 15 = .ok (.if_icmp .eq 6, 3) := by decide +kernel
theorem dX10_letter_18 : decode mX10_letter.2.1 18 = .ok (.bipush (-2), 2) := by decide +kernel
theorem dX10_letter_20 : decode mX10_letter.2.1 20 = .ok (.ireturn, 1) := by decide +kernel
theorem dX10_letter_21 : decode mX10_letter.2.1 21 = .ok (.aload_n 0, 1) := by decide +kernel
theorem dX10_letter_22 : decode mX10_letter.2.1 22 = .ok (.getfield 12, 3) := by decide +kernel
theorem dX10_letter_25 : decode mX10_letter.2.1 25 = .ok (.getfield 70, 3) := by decide +kernel
theorem dX10_letter_28 : decode mX10_letter.2.1 28 = .ok (.iload_n 1, 1) := by decide +kernel
theorem dX10_letter_29 : decode mX10_letter.2.1 29 = .ok (.aaload, 1) := by decide +kernel
theorem dX10_letter_30 : decode mX10_letter.2.1 30 = .ok (.astore_n 3, 1) := by decide +kernel
theorem dX10_letter_31 : decode mX10_letter.2.1 31 = .ok (.aload_n 3, 1) := by decide +kernel
theorem dX10_letter_32 : decode mX10_letter.2.1 32 = .ok (.iconst 1, 1) := by decide +kernel
theorem dX10_letter_33 : decode mX10_letter.2.1 33 = .ok (.invokevirtual 74, 3) := by decide +kernel
theorem dX10_letter_36 : decode mX10_letter.2.1 36 = .ok (.ifCond .ne 6, 3) := by decide +kernel
theorem dX10_letter_39 : decode mX10_letter.2.1 39 = .ok (.bipush (-4), 2) := by decide +kernel
theorem dX10_letter_41 : decode mX10_letter.2.1 41 = .ok (.ireturn, 1) := by decide +kernel
theorem dX10_letter_42 : decode mX10_letter.2.1 42 = .ok (.aload_n 3, 1) := by decide +kernel
theorem dX10_letter_43 : decode mX10_letter.2.1 43 = .ok (.iload_n 2, 1) := by decide +kernel
theorem dX10_letter_44 : decode mX10_letter.2.1 44 = .ok (.iconst 1, 1) := by decide +kernel
theorem dX10_letter_45 : decode mX10_letter.2.1 45 = .ok (.invokevirtual 79, 3) := by decide +kernel
theorem dX10_letter_48 : decode mX10_letter.2.1 48 = .ok (.aload_n 3, 1) := by decide +kernel
theorem dX10_letter_49 : decode mX10_letter.2.1 49 = .ok (.getfield 83, 3) := by decide +kernel
theorem dX10_letter_52 : decode mX10_letter.2.1 52 = .ok (.ireturn, 1) := by decide +kernel
def mX10_empty : String × ByteArray × Nat := (RX10, cX10_empty, 4)
theorem dX10_empty_0 : decode mX10_empty.2.1 0 = .ok (.iload_n 1, 1) := by decide +kernel
theorem dX10_empty_1 : decode mX10_empty.2.1 1 = .ok (.invokestatic 66, 3) := by decide +kernel
theorem dX10_empty_4 : decode mX10_empty.2.1 4 = .ok (.ifCond .ne 5, 3) := by decide +kernel
theorem dX10_empty_7 : decode mX10_empty.2.1 7 = .ok (.iconst (-1), 1) := by decide +kernel
theorem dX10_empty_8 : decode mX10_empty.2.1 8 = .ok (.ireturn, 1) := by decide +kernel
theorem dX10_empty_9 : decode mX10_empty.2.1 9 = .ok (.aload_n 0, 1) := by decide +kernel
theorem dX10_empty_10 : decode mX10_empty.2.1 10 = .ok (.getfield 12, 3) := by decide +kernel
theorem dX10_empty_13 : decode mX10_empty.2.1 13 = .ok (.getfield 70, 3) := by decide +kernel
theorem dX10_empty_16 : decode mX10_empty.2.1 16 = .ok (.iload_n 1, 1) := by decide +kernel
theorem dX10_empty_17 : decode mX10_empty.2.1 17 = .ok (.aaload, 1) := by decide +kernel
theorem dX10_empty_18 : decode mX10_empty.2.1 18 = .ok (.astore_n 2, 1) := by decide +kernel
theorem dX10_empty_19 : decode mX10_empty.2.1 19 = .ok (.aload_n 2, 1) := by decide +kernel
theorem dX10_empty_20 : decode mX10_empty.2.1 20 = .ok (.getfield 83, 3) := by decide +kernel
theorem dX10_empty_23 : decode mX10_empty.2.1 23 = .ok (.istore_n 3, 1) := by decide +kernel
theorem dX10_empty_24 : decode mX10_empty.2.1 24 = .ok (.aload_n 2, 1) := by decide +kernel
theorem dX10_empty_25 : decode mX10_empty.2.1 25 = .ok (.iconst 0, 1) := by decide +kernel
theorem dX10_empty_26 : decode mX10_empty.2.1 26 = .ok (.putfield 83, 3) := by decide +kernel
theorem dX10_empty_29 : decode mX10_empty.2.1 29 = .ok (.iload_n 3, 1) := by decide +kernel
theorem dX10_empty_30 : decode mX10_empty.2.1 30 = .ok (.ireturn, 1) := by decide +kernel
def mX10_make : String × ByteArray × Nat := (RX10, cX10_make, 5)
theorem dX10_make_0 : decode mX10_make.2.1 0 = .ok (.iload_n 1, 1) := by decide +kernel
theorem dX10_make_1 : decode mX10_make.2.1 1 = .ok (.invokestatic 66, 3) := by decide +kernel
theorem dX10_make_4 : decode mX10_make.2.1 4 = .ok (.ifCond .eq 12, 3) := by decide +kernel
theorem dX10_make_7 : decode mX10_make.2.1 7 = .ok (.iload_n 2, 1) := by decide +kernel
theorem dX10_make_8 : decode mX10_make.2.1 8 = .ok (.ifCond .lt 8, 3) := by decide +kernel
theorem dX10_make_11 : decode mX10_make.2.1 11 = .ok (.iload_n 2, 1) := by decide +kernel
theorem dX10_make_12 : decode mX10_make.2.1 12 = .ok (.iconst 5, 1) := by decide +kernel
theorem dX10_make_13 : decode mX10_make.2.1 13 = .ok (.if_icmp .le 5, 3) := by decide +kernel
theorem dX10_make_16 : decode mX10_make.2.1 16 = .ok (.iconst (-1), 1) := by decide +kernel
theorem dX10_make_17 : decode mX10_make.2.1 17 = .ok (.ireturn, 1) := by decide +kernel
theorem dX10_make_18 : decode mX10_make.2.1 18 = .ok (.iload_n 3, 1) := by decide +kernel
theorem dX10_make_19 : decode mX10_make.2.1 19 = .ok (.ifCond .lt 9, 3) := by decide +kernel
theorem dX10_make_22 : decode mX10_make.2.1 22 = .ok (.iload_n 3, 1) := by decide +kernel
theorem dX10_make_23 : decode mX10_make.2.1 23 = .ok (.bipush 6, 2) := by decide +kernel
theorem dX10_make_25 : decode mX10_make.2.1 25 = .ok (.if_icmp .le 6, 3) := by decide +kernel
theorem dX10_make_28 : decode mX10_make.2.1 28 = .ok (.bipush (-2), 2) := by decide +kernel
theorem dX10_make_30 : decode mX10_make.2.1 30 = .ok (.ireturn, 1) := by decide +kernel
theorem dX10_make_31 : decode mX10_make.2.1 31 = .ok (.aload_n 0, 1) := by decide +kernel
theorem dX10_make_32 : decode mX10_make.2.1 32 = .ok (.getfield 12, 3) := by decide +kernel
theorem dX10_make_35 : decode mX10_make.2.1 35 = .ok (.getfield 70, 3) := by decide +kernel
theorem dX10_make_38 : decode mX10_make.2.1 38 = .ok (.iload_n 1, 1) := by decide +kernel
theorem dX10_make_39 : decode mX10_make.2.1 39 = .ok (.aaload, 1) := by decide +kernel
theorem dX10_make_40 : decode mX10_make.2.1 40 = .ok (.astore 4, 2) := by decide +kernel
theorem dX10_make_42 : decode mX10_make.2.1 42 = .ok (.aload 4, 2) := by decide +kernel
theorem dX10_make_44 : decode mX10_make.2.1 44 = .ok (.iconst 0, 1) := by decide +kernel
theorem dX10_make_45 : decode mX10_make.2.1 45 = .ok (.putfield 83, 3) := by decide +kernel
theorem dX10_make_48 : decode mX10_make.2.1 48 = .ok (.aload 4, 2) := by decide +kernel
theorem dX10_make_50 : decode mX10_make.2.1 50 = .ok (.iload_n 2, 1) := by decide +kernel
theorem dX10_make_51 : decode mX10_make.2.1 51 = .ok (.iload_n 3, 1) := by decide +kernel
theorem dX10_make_52 : decode mX10_make.2.1 52 = .ok (.invokevirtual 87, 3) := by decide +kernel
theorem dX10_make_55 : decode mX10_make.2.1 55 = .ok (.aload 4, 2) := by decide +kernel
theorem dX10_make_57 : decode mX10_make.2.1 57 = .ok (.getfield 83, 3) := by decide +kernel
theorem dX10_make_60 : decode mX10_make.2.1 60 = .ok (.ireturn, 1) := by decide +kernel
def mX10_join : String × ByteArray × Nat := (RX10, cX10_join, 7)
theorem dX10_join_0 : decode mX10_join.2.1 0 = .ok (.iload_n 1, 1) := by decide +kernel
theorem dX10_join_1 : decode mX10_join.2.1 1 = .ok (.invokestatic 66, 3) := by decide +kernel
theorem dX10_join_4 : decode mX10_join.2.1 4 = .ok (.ifCond .eq 10, 3) := by decide +kernel
theorem dX10_join_7 : decode mX10_join.2.1 7 = .ok (.iload_n 2, 1) := by decide +kernel
theorem dX10_join_8 : decode mX10_join.2.1 8 = .ok (.invokestatic 66, 3) := by decide +kernel
theorem dX10_join_11 : decode mX10_join.2.1 11 = .ok (.ifCond .ne 5, 3) := by decide +kernel
theorem dX10_join_14 : decode mX10_join.2.1 14 = .ok (.iconst (-1), 1) := by decide +kernel
theorem dX10_join_15 : decode mX10_join.2.1 15 = .ok (.ireturn, 1) := by decide +kernel
theorem dX10_join_16 : decode mX10_join.2.1 16 = .ok (.aload_n 0, 1) := by decide +kernel
theorem dX10_join_17 : decode mX10_join.2.1 17 = .ok (.getfield 12, 3) := by decide +kernel
theorem dX10_join_20 : decode mX10_join.2.1 20 = .ok (.getfield 70, 3) := by decide +kernel
theorem dX10_join_23 : decode mX10_join.2.1 23 = .ok (.iload_n 1, 1) := by decide +kernel
theorem dX10_join_24 : decode mX10_join.2.1 24 = .ok (.aaload, 1) := by decide +kernel
theorem dX10_join_25 : decode mX10_join.2.1 25 = .ok (.astore_n 3, 1) := by decide +kernel
theorem dX10_join_26 : decode mX10_join.2.1 26 = .ok (.aload_n 0, 1) := by decide +kernel
theorem dX10_join_27 : decode mX10_join.2.1 27 = .ok (.getfield 12, 3) := by decide +kernel
theorem dX10_join_30 : decode mX10_join.2.1 30 = .ok (.getfield 70, 3) := by decide +kernel
theorem dX10_join_33 : decode mX10_join.2.1 33 = .ok (.iload_n 2, 1) := by decide +kernel
theorem dX10_join_34 : decode mX10_join.2.1 34 = .ok (.aaload, 1) := by decide +kernel
theorem dX10_join_35 : decode mX10_join.2.1 35 = .ok (.astore 4, 2) := by decide +kernel
theorem dX10_join_37 : decode mX10_join.2.1 37 = .ok (.aload_n 3, 1) := by decide +kernel
theorem dX10_join_38 : decode mX10_join.2.1 38 = .ok (.aload 4, 2) := by decide +kernel
theorem dX10_join_40 : decode mX10_join.2.1 40 = .ok (.getfield 83, 3) := by decide +kernel
theorem dX10_join_43 : decode mX10_join.2.1 43 = .ok (.invokevirtual 74, 3) := by decide +kernel
theorem dX10_join_46 : decode mX10_join.2.1 46 = .ok (.ifCond .ne 6, 3) := by decide +kernel
theorem dX10_join_49 : decode mX10_join.2.1 49 = .ok (.bipush (-4), 2) := by decide +kernel
theorem dX10_join_51 : decode mX10_join.2.1 51 = .ok (.ireturn, 1) := by decide +kernel
theorem dX10_join_52 : decode mX10_join.2.1 52 = .ok (.aload 4, 2) := by decide +kernel
theorem dX10_join_54 : decode mX10_join.2.1 54 = .ok (.getfield 83, 3) := by decide +kernel
theorem dX10_join_57 : decode mX10_join.2.1 57 = .ok (.istore 5, 2) := by decide +kernel
theorem dX10_join_59 : decode mX10_join.2.1 59 = .ok (.iconst 0, 1) := by decide +kernel
theorem dX10_join_60 : decode mX10_join.2.1 60 = .ok (.istore 6, 2) := by decide +kernel
theorem dX10_join_62 : decode mX10_join.2.1 62 = .ok (.iload 6, 2) := by decide +kernel
theorem dX10_join_64 : decode mX10_join.2.1 64 = .ok (.iload 5, 2) := by decide +kernel
theorem dX10_join_66 : decode mX10_join.2.1 66 = .ok (.if_icmp .ge 22, 3) := by decide +kernel
theorem dX10_join_69 : decode mX10_join.2.1 69 = .ok (.aload_n 3, 1) := by decide +kernel
theorem dX10_join_70 : decode mX10_join.2.1 70 = .ok (.aload 4, 2) := by decide +kernel
theorem dX10_join_72 : decode mX10_join.2.1 72 = .ok (.getfield 90, 3) := by decide +kernel
theorem dX10_join_75 : decode mX10_join.2.1 75 = .ok (.iload 6, 2) := by decide +kernel
theorem dX10_join_77 : decode mX10_join.2.1 77 = .ok (.iaload, 1) := by decide +kernel
theorem dX10_join_78 : decode mX10_join.2.1 78 = .ok (.iconst 1, 1) := by decide +kernel
theorem dX10_join_79 : decode mX10_join.2.1 79 = .ok (.invokevirtual 79, 3) := by decide +kernel
theorem dX10_join_82 : decode mX10_join.2.1 82 = .ok (.iinc 6 1, 3) := by decide +kernel
theorem dX10_join_85 : decode mX10_join.2.1 85 = .ok (.goto (-23), 3) := by decide +kernel
theorem dX10_join_88 : decode mX10_join.2.1 88 = .ok (.aload_n 3, 1) := by decide +kernel
theorem dX10_join_89 : decode mX10_join.2.1 89 = .ok (.getfield 83, 3) := by decide +kernel
theorem dX10_join_92 : decode mX10_join.2.1 92 = .ok (.ireturn, 1) := by decide +kernel
def mX10_turn : String × ByteArray × Nat := (RX10, cX10_turn, 3)
theorem dX10_turn_0 : decode mX10_turn.2.1 0 = .ok (.iload_n 1, 1) := by decide +kernel
theorem dX10_turn_1 : decode mX10_turn.2.1 1 = .ok (.invokestatic 66, 3) := by decide +kernel
theorem dX10_turn_4 : decode mX10_turn.2.1 4 = .ok (.ifCond .ne 5, 3) := by decide +kernel
theorem dX10_turn_7 : decode mX10_turn.2.1 7 = .ok (.iconst (-1), 1) := by decide +kernel
theorem dX10_turn_8 : decode mX10_turn.2.1 8 = .ok (.ireturn, 1) := by decide +kernel
theorem dX10_turn_9 : decode mX10_turn.2.1 9 = .ok (.aload_n 0, 1) := by decide +kernel
theorem dX10_turn_10 : decode mX10_turn.2.1 10 = .ok (.getfield 12, 3) := by decide +kernel
theorem dX10_turn_13 : decode mX10_turn.2.1 13 = .ok (.getfield 70, 3) := by decide +kernel
theorem dX10_turn_16 : decode mX10_turn.2.1 16 = .ok (.iload_n 1, 1) := by decide +kernel
theorem dX10_turn_17 : decode mX10_turn.2.1 17 = .ok (.aaload, 1) := by decide +kernel
theorem dX10_turn_18 : decode mX10_turn.2.1 18 = .ok (.astore_n 2, 1) := by decide +kernel
theorem dX10_turn_19 : decode mX10_turn.2.1 19 = .ok (.aload_n 2, 1) := by decide +kernel
theorem dX10_turn_20 : decode mX10_turn.2.1 20 = .ok (.invokevirtual 94, 3) := by decide +kernel
theorem dX10_turn_23 : decode mX10_turn.2.1 23 = .ok (.aload_n 2, 1) := by decide +kernel
theorem dX10_turn_24 : decode mX10_turn.2.1 24 = .ok (.getfield 83, 3) := by decide +kernel
theorem dX10_turn_27 : decode mX10_turn.2.1 27 = .ok (.ireturn, 1) := by decide +kernel
def mX10_word : String × ByteArray × Nat := (RX10, cX10_word, 4)
theorem dX10_word_0 : decode mX10_word.2.1 0 = .ok (.iload_n 1, 1) := by decide +kernel
theorem dX10_word_1 : decode mX10_word.2.1 1 = .ok (.invokestatic 66, 3) := by decide +kernel
theorem dX10_word_4 : decode mX10_word.2.1 4 = .ok (.ifCond .eq 9, 3) := by decide +kernel
theorem dX10_word_7 : decode mX10_word.2.1 7 = .ok (.iload_n 2, 1) := by decide +kernel
theorem dX10_word_8 : decode mX10_word.2.1 8 = .ok (.bipush (-2), 2) := by decide +kernel
theorem dX10_word_10 : decode mX10_word.2.1 10 = .ok (.if_icmp .ge 5, 3) := by decide +kernel
theorem dX10_word_13 : decode mX10_word.2.1 13 = .ok (.iconst (-1), 1) := by decide +kernel
theorem dX10_word_14 : decode mX10_word.2.1 14 = .ok (.ireturn, 1) := by decide +kernel
theorem dX10_word_15 : decode mX10_word.2.1 15 = .ok (.aload_n 0, 1) := by decide +kernel
theorem dX10_word_16 : decode mX10_word.2.1 16 = .ok (.getfield 12, 3) := by decide +kernel
theorem dX10_word_19 : decode mX10_word.2.1 19 = .ok (.getfield 70, 3) := by decide +kernel
theorem dX10_word_22 : decode mX10_word.2.1 22 = .ok (.iload_n 1, 1) := by decide +kernel
theorem dX10_word_23 : decode mX10_word.2.1 23 = .ok (.aaload, 1) := by decide +kernel
theorem dX10_word_24 : decode mX10_word.2.1 24 = .ok (.astore_n 3, 1) := by decide +kernel
theorem dX10_word_25 : decode mX10_word.2.1 25 = .ok (.iload_n 2, 1) := by decide +kernel
theorem dX10_word_26 : decode mX10_word.2.1 26 = .ok (.bipush (-2), 2) := by decide +kernel
theorem dX10_word_28 : decode mX10_word.2.1 28 = .ok (.if_icmp .ne 8, 3) := by decide +kernel
theorem dX10_word_31 : decode mX10_word.2.1 31 = .ok (.aload_n 3, 1) := by decide +kernel
theorem dX10_word_32 : decode mX10_word.2.1 32 = .ok (.invokevirtual 97, 3) := by decide +kernel
theorem dX10_word_35 : decode mX10_word.2.1 35 = .ok (.ireturn, 1) := by decide +kernel
theorem dX10_word_36 : decode mX10_word.2.1 36 = .ok (.iload_n 2, 1) := by decide +kernel
theorem dX10_word_37 : decode mX10_word.2.1 37 = .ok (.iconst (-1), 1) := by decide +kernel
theorem dX10_word_38 : decode mX10_word.2.1 38 = .ok (.if_icmp .ne 8, 3) := by decide +kernel
theorem dX10_word_41 : decode mX10_word.2.1 41 = .ok (.aload_n 3, 1) := by decide +kernel
theorem dX10_word_42 : decode mX10_word.2.1 42 = .ok (.getfield 83, 3) := by decide +kernel
theorem dX10_word_45 : decode mX10_word.2.1 45 = .ok (.ireturn, 1) := by decide +kernel
theorem dX10_word_46 : decode mX10_word.2.1 46 = .ok (.iload_n 2, 1) := by decide +kernel
theorem dX10_word_47 : decode mX10_word.2.1 47 = .ok (.aload_n 3, 1) := by decide +kernel
theorem dX10_word_48 : decode mX10_word.2.1 48 = .ok (.getfield 83, 3) := by decide +kernel
theorem dX10_word_51 : decode mX10_word.2.1 51 = .ok (.if_icmp .ge 12, 3) := by decide +kernel
theorem dX10_word_54 : decode mX10_word.2.1 54 = .ok (.aload_n 3, 1) := by decide +kernel
theorem dX10_word_55 : decode mX10_word.2.1 55 = .ok (.getfield 90, 3) := by decide +kernel
theorem dX10_word_58 : decode mX10_word.2.1 58 = .ok (.iload_n 2, 1) := by decide +kernel
theorem dX10_word_59 : decode mX10_word.2.1 59 = .ok (.iaload, 1) := by decide +kernel
theorem dX10_word_60 : decode mX10_word.2.1 60 = .ok (.goto 5, 3) := by decide +kernel
theorem dX10_word_63 : decode mX10_word.2.1 63 = .ok (.bipush (-5), 2) := by decide +kernel
theorem dX10_word_65 : decode mX10_word.2.1 65 = .ok (.ireturn, 1) := by decide +kernel
def mX10_acted : String × ByteArray × Nat := (RX10, cX10_acted, 9)
theorem dX10_acted_0 : decode mX10_acted.2.1 0 = .ok (.iload_n 1, 1) := by decide +kernel
theorem dX10_acted_1 : decode mX10_acted.2.1 1 = .ok (.invokestatic 66, 3) := by decide +kernel
theorem dX10_acted_4 : decode mX10_acted.2.1 4 = .ok (.ifCond .eq 22, 3) := by decide +kernel
theorem dX10_acted_7 : decode mX10_acted.2.1 7 = .ok (.iload_n 2, 1) := by decide +kernel
theorem dX10_acted_8 : decode mX10_acted.2.1 8 = .ok (.ifCond .lt 18, 3) := by decide +kernel
theorem dX10_acted_11 : decode mX10_acted.2.1 11 = .ok (.iload_n 2, 1) := by decide +kernel
theorem dX10_acted_12 : decode mX10_acted.2.1 12 = .ok (.bipush 20, 2) := by decide +kernel
theorem dX10_acted_14 : decode mX10_acted.2.1 14 = .ok (.if_icmp .gt 12, 3) := by decide +kernel
theorem dX10_acted_17 : decode mX10_acted.2.1 17 = .ok (.iload_n 3, 1) := by decide +kernel
theorem dX10_acted_18 : decode mX10_acted.2.1 18 = .ok (.ifCond .lt 8, 3) := by decide +kernel
theorem dX10_acted_21 : decode mX10_acted.2.1 21 = .ok (.iload_n 3, 1) := by decide +kernel
theorem dX10_acted_22 : decode mX10_acted.2.1 22 = .ok (.iconst 1, 1) := by decide +kernel
theorem dX10_acted_23 : decode mX10_acted.2.1 23 = .ok (.if_icmp .le 7, 3) := by decide +kernel
theorem dX10_acted_26 : decode mX10_acted.2.1 26 = .ok (.ldc2_w 101, 3) := by decide +kernel
theorem dX10_acted_29 : decode mX10_acted.2.1 29 = .ok (.lreturn, 1) := by decide +kernel
theorem dX10_acted_30 : decode mX10_acted.2.1 30 = .ok (.aload_n 0, 1) := by decide +kernel
theorem dX10_acted_31 : decode mX10_acted.2.1 31 = .ok (.getfield 12, 3) := by decide +kernel
theorem dX10_acted_34 : decode mX10_acted.2.1 34 = .ok (.getfield 70, 3) := by decide +kernel
theorem dX10_acted_37 : decode mX10_acted.2.1 37 = .ok (.iload_n 1, 1) := by decide +kernel
theorem dX10_acted_38 : decode mX10_acted.2.1 38 = .ok (.aaload, 1) := by decide +kernel
theorem dX10_acted_39 : decode mX10_acted.2.1 39 = .ok (.astore 4, 2) := by decide +kernel
theorem dX10_acted_41 : decode mX10_acted.2.1 41 = .ok (.lconst 1, 1) := by decide +kernel
theorem dX10_acted_42 : decode mX10_acted.2.1 42 = .ok (.lstore 5, 2) := by decide +kernel
theorem dX10_acted_44 : decode mX10_acted.2.1 44 = .ok (.iload_n 2, 1) := by decide +kernel
theorem dX10_acted_45 : decode mX10_acted.2.1 45 = .ok (.istore 7, 2) := by decide +kernel
theorem dX10_acted_47 : decode mX10_acted.2.1 47 = .ok (.aload 4, 2) := by decide +kernel
theorem dX10_acted_49 : decode mX10_acted.2.1 49 = .ok (.getfield 83, 3) := by decide +kernel
theorem dX10_acted_52 : decode mX10_acted.2.1 52 = .ok (.iconst 1, 1) := by decide +kernel
theorem dX10_acted_53 : decode mX10_acted.2.1 53 = .ok (.isub, 1) := by decide +kernel
theorem dX10_acted_54 : decode mX10_acted.2.1 54 = .ok (.istore 8, 2) := by decide +kernel
theorem dX10_acted_56 : decode mX10_acted.2.1 56 = .ok (.iload 8, 2) := by decide +kernel
theorem dX10_acted_58 : decode mX10_acted.2.1 58 = .ok (.ifCond .lt 44, 3) := by decide +kernel
theorem dX10_acted_61 : decode mX10_acted.2.1 61 = .ok (.aload 4, 2) := by decide +kernel
theorem dX10_acted_63 : decode mX10_acted.2.1 63 = .ok (.getfield 90, 3) := by decide +kernel
theorem dX10_acted_66 : decode mX10_acted.2.1 66 = .ok (.iload 8, 2) := by decide +kernel
theorem dX10_acted_68 : decode mX10_acted.2.1 68 = .ok (.iaload, 1) := by decide +kernel
theorem dX10_acted_69 : decode mX10_acted.2.1 69 = .ok (.ifCond .ne 9, 3) := by decide +kernel
theorem dX10_acted_72 : decode mX10_acted.2.1 72 = .ok (.iinc 7 1, 3) := by decide +kernel
theorem dX10_acted_75 : decode mX10_acted.2.1 75 = .ok (.goto 21, 3) := by decide +kernel
theorem dX10_acted_78 : decode mX10_acted.2.1 78 = .ok (.lload 5, 2) := by decide +kernel
theorem dX10_acted_80 : decode mX10_acted.2.1 80 = .ok (.iload 7, 2) := by decide +kernel
theorem dX10_acted_82 : decode mX10_acted.2.1 82 = .ok (.i2l, 1) := by decide +kernel
theorem dX10_acted_83 : decode mX10_acted.2.1 83 = .ok (.lmul, 1) := by decide +kernel
theorem dX10_acted_84 : decode mX10_acted.2.1 84 = .ok (.lstore 5, 2) := by decide +kernel
theorem dX10_acted_86 : decode mX10_acted.2.1 86 = .ok (.iload 7, 2) := by decide +kernel
theorem dX10_acted_88 : decode mX10_acted.2.1 88 = .ok (.iconst 1, 1) := by decide +kernel
theorem dX10_acted_89 : decode mX10_acted.2.1 89 = .ok (.isub, 1) := by decide +kernel
theorem dX10_acted_90 : decode mX10_acted.2.1 90 = .ok (.iconst 0, 1) := by decide +kernel
theorem dX10_acted_91 : decode mX10_acted.2.1 91 = .ok (.invokestatic 103, 3) := by decide +kernel
theorem dX10_acted_94 : decode mX10_acted.2.1 94 = .ok (.istore 7, 2) := by decide +kernel
theorem dX10_acted_96 : decode mX10_acted.2.1 96 = .ok (.iinc 8 (-1), 3) := by decide +kernel
theorem dX10_acted_99 : decode mX10_acted.2.1 99 = .ok (.goto (-43), 3) := by decide +kernel
theorem dX10_acted_102 : decode mX10_acted.2.1 102 = .ok (.iload_n 3, 1) := by decide +kernel
theorem dX10_acted_103 : decode mX10_acted.2.1 103 = .ok (.ifCond .ne 8, 3) := by decide +kernel
theorem dX10_acted_106 : decode mX10_acted.2.1 106 = .ok (.lload 5, 2) := by decide +kernel
theorem dX10_acted_108 : decode mX10_acted.2.1 108 = .ok (.goto 6, 3) := by decide +kernel
theorem dX10_acted_111 : decode mX10_acted.2.1 111 = .ok (.iload 7, 2) := by decide +kernel
theorem dX10_acted_113 : decode mX10_acted.2.1 113 = .ok (.i2l, 1) := by decide +kernel
theorem dX10_acted_114 : decode mX10_acted.2.1 114 = .ok (.lreturn, 1) := by decide +kernel
def mX10_order : String × ByteArray × Nat := (RX10, cX10_order, 3)
theorem dX10_order_0 : decode mX10_order.2.1 0 = .ok (.iload_n 1, 1) := by decide +kernel
theorem dX10_order_1 : decode mX10_order.2.1 1 = .ok (.invokestatic 66, 3) := by decide +kernel
theorem dX10_order_4 : decode mX10_order.2.1 4 = .ok (.ifCond .eq 7, 3) := by decide +kernel
theorem dX10_order_7 : decode mX10_order.2.1 7 = .ok (.iload_n 2, 1) := by decide +kernel
theorem dX10_order_8 : decode mX10_order.2.1 8 = .ok (.ifCond .ge 7, 3) := by decide +kernel
theorem dX10_order_11 : decode mX10_order.2.1 11 = .ok (.ldc2_w 101, 3) := by decide +kernel
theorem dX10_order_14 : decode mX10_order.2.1 14 = .ok (.lreturn, 1) := by decide +kernel
theorem dX10_order_15 : decode mX10_order.2.1 15 = .ok (.iload_n 2, 1) := by decide +kernel
theorem dX10_order_16 : decode mX10_order.2.1 16 = .ok (.aload_n 0, 1) := by decide +kernel
theorem dX10_order_17 : decode mX10_order.2.1 17 = .ok (.getfield 62, 3) := by decide +kernel
theorem dX10_order_20 : decode mX10_order.2.1 20 = .ok (.arraylength, 1) := by decide +kernel
theorem dX10_order_21 : decode mX10_order.2.1 21 = .ok (.if_icmp .lt 5, 3) := by decide +kernel
theorem dX10_order_24 : decode mX10_order.2.1 24 = .ok (.lconst 0, 1) := by decide +kernel
theorem dX10_order_25 : decode mX10_order.2.1 25 = .ok (.lreturn, 1) := by decide +kernel
theorem dX10_order_26 : decode mX10_order.2.1 26 = .ok (.aload_n 0, 1) := by decide +kernel
theorem dX10_order_27 : decode mX10_order.2.1 27 = .ok (.getfield 12, 3) := by decide +kernel
theorem dX10_order_30 : decode mX10_order.2.1 30 = .ok (.getfield 70, 3) := by decide +kernel
theorem dX10_order_33 : decode mX10_order.2.1 33 = .ok (.iload_n 1, 1) := by decide +kernel
theorem dX10_order_34 : decode mX10_order.2.1 34 = .ok (.aaload, 1) := by decide +kernel
theorem dX10_order_35 : decode mX10_order.2.1 35 = .ok (.aload_n 0, 1) := by decide +kernel
theorem dX10_order_36 : decode mX10_order.2.1 36 = .ok (.getfield 62, 3) := by decide +kernel
theorem dX10_order_39 : decode mX10_order.2.1 39 = .ok (.invokevirtual 109, 3) := by decide +kernel
theorem dX10_order_42 : decode mX10_order.2.1 42 = .ok (.aload_n 0, 1) := by decide +kernel
theorem dX10_order_43 : decode mX10_order.2.1 43 = .ok (.getfield 62, 3) := by decide +kernel
theorem dX10_order_46 : decode mX10_order.2.1 46 = .ok (.iload_n 2, 1) := by decide +kernel
theorem dX10_order_47 : decode mX10_order.2.1 47 = .ok (.laload, 1) := by decide +kernel
theorem dX10_order_48 : decode mX10_order.2.1 48 = .ok (.lreturn, 1) := by decide +kernel
def mX10_clear : String × ByteArray × Nat := (RX10, cX10_clear, 2)
theorem dX10_clear_0 : decode mX10_clear.2.1 0 = .ok (.aload_n 0, 1) := by decide +kernel
theorem dX10_clear_1 : decode mX10_clear.2.1 1 = .ok (.getfield 12, 3) := by decide +kernel
theorem dX10_clear_4 : decode mX10_clear.2.1 4 = .ok (.getfield 113, 3) := by decide +kernel
theorem dX10_clear_7 : decode mX10_clear.2.1 7 = .ok (.invokevirtual 117, 3) := by decide +kernel
theorem dX10_clear_10 : decode mX10_clear.2.1 10 = .ok (.istore_n 1, 1) := by decide +kernel
theorem dX10_clear_11 : decode mX10_clear.2.1 11 = .ok (.aload_n 0, 1) := by decide +kernel
theorem dX10_clear_12 : decode mX10_clear.2.1 12 = .ok (.getfield 12, 3) := by decide +kernel
theorem dX10_clear_15 : decode mX10_clear.2.1 15 = .ok (.getfield 113, 3) := by decide +kernel
theorem dX10_clear_18 : decode mX10_clear.2.1 18 = .ok (.invokevirtual 122, 3) := by decide +kernel
theorem dX10_clear_21 : decode mX10_clear.2.1 21 = .ok (.iload_n 1, 1) := by decide +kernel
theorem dX10_clear_22 : decode mX10_clear.2.1 22 = .ok (.ireturn, 1) := by decide +kernel
def mX10_add : String × ByteArray × Nat := (RX10, cX10_add, 4)
theorem dX10_add_0 : decode mX10_add.2.1 0 = .ok (.iload_n 1, 1) := by decide +kernel
theorem dX10_add_1 : decode mX10_add.2.1 1 = .ok (.invokestatic 66, 3) := by decide +kernel
theorem dX10_add_4 : decode mX10_add.2.1 4 = .ok (.ifCond .ne 5, 3) := by decide +kernel
theorem dX10_add_7 : decode mX10_add.2.1 7 = .ok (.iconst (-1), 1) := by decide +kernel
theorem dX10_add_8 : decode mX10_add.2.1 8 = .ok (.ireturn, 1) := by decide +kernel
theorem dX10_add_9 : decode mX10_add.2.1 9 = .ok (.iload_n 2, 1) := by decide +kernel
theorem dX10_add_10 : decode mX10_add.2.1 10 = .ok (.bipush (-99), 2) := by decide +kernel
theorem dX10_add_12 : decode mX10_add.2.1 12 = .ok (.if_icmp .lt 9, 3) := by decide +kernel
theorem dX10_add_15 : decode mX10_add.2.1 15 = .ok (.iload_n 2, 1) := by decide +kernel
theorem dX10_add_16 : decode mX10_add.2.1 16 = .ok (.bipush 99, 2) := by decide +kernel
theorem dX10_add_18 : decode mX10_add.2.1 18 = .ok (.if_icmp .le 6, 3) := by decide +kernel
theorem dX10_add_21 : decode mX10_add.2.1 21 = .ok (.bipush (-2), 2) := by decide +kernel
theorem dX10_add_23 : decode mX10_add.2.1 23 = .ok (.ireturn, 1) := by decide +kernel
theorem dX10_add_24 : decode mX10_add.2.1 24 = .ok (.aload_n 0, 1) := by decide +kernel
theorem dX10_add_25 : decode mX10_add.2.1 25 = .ok (.getfield 12, 3) := by decide +kernel
theorem dX10_add_28 : decode mX10_add.2.1 28 = .ok (.getfield 70, 3) := by decide +kernel
theorem dX10_add_31 : decode mX10_add.2.1 31 = .ok (.iload_n 1, 1) := by decide +kernel
theorem dX10_add_32 : decode mX10_add.2.1 32 = .ok (.aaload, 1) := by decide +kernel
theorem dX10_add_33 : decode mX10_add.2.1 33 = .ok (.astore_n 3, 1) := by decide +kernel
theorem dX10_add_34 : decode mX10_add.2.1 34 = .ok (.aload_n 3, 1) := by decide +kernel
theorem dX10_add_35 : decode mX10_add.2.1 35 = .ok (.aload_n 0, 1) := by decide +kernel
theorem dX10_add_36 : decode mX10_add.2.1 36 = .ok (.getfield 62, 3) := by decide +kernel
theorem dX10_add_39 : decode mX10_add.2.1 39 = .ok (.invokevirtual 109, 3) := by decide +kernel
theorem dX10_add_42 : decode mX10_add.2.1 42 = .ok (.aload_n 0, 1) := by decide +kernel
theorem dX10_add_43 : decode mX10_add.2.1 43 = .ok (.getfield 12, 3) := by decide +kernel
theorem dX10_add_46 : decode mX10_add.2.1 46 = .ok (.getfield 113, 3) := by decide +kernel
theorem dX10_add_49 : decode mX10_add.2.1 49 = .ok (.aload_n 0, 1) := by decide +kernel
theorem dX10_add_50 : decode mX10_add.2.1 50 = .ok (.getfield 62, 3) := by decide +kernel
theorem dX10_add_53 : decode mX10_add.2.1 53 = .ok (.aload_n 3, 1) := by decide +kernel
theorem dX10_add_54 : decode mX10_add.2.1 54 = .ok (.invokevirtual 97, 3) := by decide +kernel
theorem dX10_add_57 : decode mX10_add.2.1 57 = .ok (.aload_n 3, 1) := by decide +kernel
theorem dX10_add_58 : decode mX10_add.2.1 58 = .ok (.invokevirtual 125, 3) := by decide +kernel
theorem dX10_add_61 : decode mX10_add.2.1 61 = .ok (.iload_n 2, 1) := by decide +kernel
theorem dX10_add_62 : decode mX10_add.2.1 62 = .ok (.invokevirtual 128, 3) := by decide +kernel
theorem dX10_add_65 : decode mX10_add.2.1 65 = .ok (.ifCond .ne 6, 3) := by decide +kernel
theorem dX10_add_68 : decode mX10_add.2.1 68 = .ok (.bipush (-6), 2) := by decide +kernel
theorem dX10_add_70 : decode mX10_add.2.1 70 = .ok (.ireturn, 1) := by decide +kernel
theorem dX10_add_71 : decode mX10_add.2.1 71 = .ok (.aload_n 0, 1) := by decide +kernel
theorem dX10_add_72 : decode mX10_add.2.1 72 = .ok (.getfield 12, 3) := by decide +kernel
theorem dX10_add_75 : decode mX10_add.2.1 75 = .ok (.getfield 113, 3) := by decide +kernel
theorem dX10_add_78 : decode mX10_add.2.1 78 = .ok (.invokevirtual 117, 3) := by decide +kernel
theorem dX10_add_81 : decode mX10_add.2.1 81 = .ok (.ireturn, 1) := by decide +kernel
def mX10_times : String × ByteArray × Nat := (RX10, cX10_times, 2)
theorem dX10_times_0 : decode mX10_times.2.1 0 = .ok (.iload_n 1, 1) := by decide +kernel
theorem dX10_times_1 : decode mX10_times.2.1 1 = .ok (.invokestatic 66, 3) := by decide +kernel
theorem dX10_times_4 : decode mX10_times.2.1 4 = .ok (.ifCond .ne 5, 3) := by decide +kernel
theorem dX10_times_7 : decode mX10_times.2.1 7 = .ok (.iconst (-1), 1) := by decide +kernel
theorem dX10_times_8 : decode mX10_times.2.1 8 = .ok (.ireturn, 1) := by decide +kernel
theorem dX10_times_9 : decode mX10_times.2.1 9 = .ok (.aload_n 0, 1) := by decide +kernel
theorem dX10_times_10 : decode mX10_times.2.1 10 = .ok (.getfield 12, 3) := by decide +kernel
theorem dX10_times_13 : decode mX10_times.2.1 13 = .ok (.getfield 113, 3) := by decide +kernel
theorem dX10_times_16 : decode mX10_times.2.1 16 = .ok (.aload_n 0, 1) := by decide +kernel
theorem dX10_times_17 : decode mX10_times.2.1 17 = .ok (.getfield 12, 3) := by decide +kernel
theorem dX10_times_20 : decode mX10_times.2.1 20 = .ok (.getfield 70, 3) := by decide +kernel
theorem dX10_times_23 : decode mX10_times.2.1 23 = .ok (.iload_n 1, 1) := by decide +kernel
theorem dX10_times_24 : decode mX10_times.2.1 24 = .ok (.aaload, 1) := by decide +kernel
theorem dX10_times_25 : decode mX10_times.2.1 25 = .ok (.invokevirtual 132, 3) := by decide +kernel
theorem dX10_times_28 : decode mX10_times.2.1 28 = .ok (.ifCond .ne 6, 3) := by decide +kernel
theorem dX10_times_31 : decode mX10_times.2.1 31 = .ok (.bipush (-6), 2) := by decide +kernel
theorem dX10_times_33 : decode mX10_times.2.1 33 = .ok (.ireturn, 1) := by decide +kernel
theorem dX10_times_34 : decode mX10_times.2.1 34 = .ok (.aload_n 0, 1) := by decide +kernel
theorem dX10_times_35 : decode mX10_times.2.1 35 = .ok (.getfield 12, 3) := by decide +kernel
theorem dX10_times_38 : decode mX10_times.2.1 38 = .ok (.getfield 113, 3) := by decide +kernel
theorem dX10_times_41 : decode mX10_times.2.1 41 = .ok (.invokevirtual 117, 3) := by decide +kernel
theorem dX10_times_44 : decode mX10_times.2.1 44 = .ok (.ireturn, 1) := by decide +kernel
def mX10_number : String × ByteArray × Nat := (RX10, cX10_number, 3)
theorem dX10_number_0 : decode mX10_number.2.1 0 = .ok (.aload_n 0, 1) := by decide +kernel
theorem dX10_number_1 : decode mX10_number.2.1 1 = .ok (.getfield 12, 3) := by decide +kernel
theorem dX10_number_4 : decode mX10_number.2.1 4 = .ok (.getfield 113, 3) := by decide +kernel
theorem dX10_number_7 : decode mX10_number.2.1 7 = .ok (.iload_n 1, 1) := by decide +kernel
theorem dX10_number_8 : decode mX10_number.2.1 8 = .ok (.iload_n 2, 1) := by decide +kernel
theorem dX10_number_9 : decode mX10_number.2.1 9 = .ok (.invokevirtual 136, 3) := by decide +kernel
theorem dX10_number_12 : decode mX10_number.2.1 12 = .ok (.lreturn, 1) := by decide +kernel
def mX10_side : String × ByteArray × Nat := (RX10, cX10_side, 5)
theorem dX10_side_0 : decode mX10_side.2.1 0 = .ok (.iload_n 1, 1) := by decide +kernel
theorem dX10_side_1 : decode mX10_side.2.1 1 = .ok (.invokestatic 66, 3) := by decide +kernel
theorem dX10_side_4 : decode mX10_side.2.1 4 = .ok (.ifCond .ne 5, 3) := by decide +kernel
theorem dX10_side_7 : decode mX10_side.2.1 7 = .ok (.iconst (-1), 1) := by decide +kernel
theorem dX10_side_8 : decode mX10_side.2.1 8 = .ok (.ireturn, 1) := by decide +kernel
theorem dX10_side_9 : decode mX10_side.2.1 9 = .ok (.iload_n 2, 1) := by decide +kernel
theorem dX10_side_10 : decode mX10_side.2.1 10 = .ok (.invokestatic 140, 3) := by decide +kernel
theorem dX10_side_13 : decode mX10_side.2.1 13 = .ok (.ifCond .ne 6, 3) := by decide +kernel
theorem dX10_side_16 : decode mX10_side.2.1 16 = .ok (.bipush (-2), 2) := by decide +kernel
theorem dX10_side_18 : decode mX10_side.2.1 18 = .ok (.ireturn, 1) := by decide +kernel
theorem dX10_side_19 : decode mX10_side.2.1 19 = .ok (.aload_n 0, 1) := by decide +kernel
theorem dX10_side_20 : decode mX10_side.2.1 20 = .ok (.getfield 12, 3) := by decide +kernel
theorem dX10_side_23 : decode mX10_side.2.1 23 = .ok (.getfield 143, 3) := by decide +kernel
theorem dX10_side_26 : decode mX10_side.2.1 26 = .ok (.iload_n 1, 1) := by decide +kernel
theorem dX10_side_27 : decode mX10_side.2.1 27 = .ok (.aaload, 1) := by decide +kernel
theorem dX10_side_28 : decode mX10_side.2.1 28 = .ok (.astore_n 3, 1) := by decide +kernel
theorem dX10_side_29 : decode mX10_side.2.1 29 = .ok (.aload_n 3, 1) := by decide +kernel
theorem dX10_side_30 : decode mX10_side.2.1 30 = .ok (.getfield 147, 3) := by decide +kernel
theorem dX10_side_33 : decode mX10_side.2.1 33 = .ok (.istore 4, 2) := by decide +kernel
theorem dX10_side_35 : decode mX10_side.2.1 35 = .ok (.aload_n 3, 1) := by decide +kernel
theorem dX10_side_36 : decode mX10_side.2.1 36 = .ok (.iload_n 2, 1) := by decide +kernel
theorem dX10_side_37 : decode mX10_side.2.1 37 = .ok (.invokevirtual 152, 3) := by decide +kernel
theorem dX10_side_40 : decode mX10_side.2.1 40 = .ok (.aload_n 0, 1) := by decide +kernel
theorem dX10_side_41 : decode mX10_side.2.1 41 = .ok (.getfield 24, 3) := by decide +kernel
theorem dX10_side_44 : decode mX10_side.2.1 44 = .ok (.invokevirtual 156, 3) := by decide +kernel
theorem dX10_side_47 : decode mX10_side.2.1 47 = .ok (.iload 4, 2) := by decide +kernel
theorem dX10_side_49 : decode mX10_side.2.1 49 = .ok (.ireturn, 1) := by decide +kernel
def mX10_cell : String × ByteArray × Nat := (RX10, cX10_cell, 5)
theorem dX10_cell_0 : decode mX10_cell.2.1 0 = .ok (.iload_n 1, 1) := by decide +kernel
theorem dX10_cell_1 : decode mX10_cell.2.1 1 = .ok (.invokestatic 66, 3) := by decide +kernel
theorem dX10_cell_4 : decode mX10_cell.2.1 4 = .ok (.ifCond .eq 20, 3) := by decide +kernel
theorem dX10_cell_7 : decode mX10_cell.2.1 7 = .ok (.aload_n 0, 1) := by decide +kernel
theorem dX10_cell_8 : decode mX10_cell.2.1 8 = .ok (.getfield 12, 3) := by decide +kernel
theorem dX10_cell_11 : decode mX10_cell.2.1 11 = .ok (.getfield 143, 3) := by decide +kernel
theorem dX10_cell_14 : decode mX10_cell.2.1 14 = .ok (.iload_n 1, 1) := by decide +kernel
theorem dX10_cell_15 : decode mX10_cell.2.1 15 = .ok (.aaload, 1) := by decide +kernel
theorem dX10_cell_16 : decode mX10_cell.2.1 16 = .ok (.iload_n 2, 1) := by decide +kernel
theorem dX10_cell_17 : decode mX10_cell.2.1 17 = .ok (.iload_n 3, 1) := by decide +kernel
theorem dX10_cell_18 : decode mX10_cell.2.1 18 = .ok (.invokevirtual 159, 3) := by decide +kernel
theorem dX10_cell_21 : decode mX10_cell.2.1 21 = .ok (.ifCond .ne 5, 3) := by decide +kernel
theorem dX10_cell_24 : decode mX10_cell.2.1 24 = .ok (.iconst (-1), 1) := by decide +kernel
theorem dX10_cell_25 : decode mX10_cell.2.1 25 = .ok (.ireturn, 1) := by decide +kernel
theorem dX10_cell_26 : decode mX10_cell.2.1 26 = .ok (.aload_n 0, 1) := by decide +kernel
theorem dX10_cell_27 : decode mX10_cell.2.1 27 = .ok (.getfield 12, 3) := by decide +kernel
theorem dX10_cell_30 : decode mX10_cell.2.1 30 = .ok (.getfield 143, 3) := by decide +kernel
theorem dX10_cell_33 : decode mX10_cell.2.1 33 = .ok (.iload_n 1, 1) := by decide +kernel
theorem dX10_cell_34 : decode mX10_cell.2.1 34 = .ok (.aaload, 1) := by decide +kernel
theorem dX10_cell_35 : decode mX10_cell.2.1 35 = .ok (.astore 4, 2) := by decide +kernel
theorem dX10_cell_37 : decode mX10_cell.2.1 37 = .ok (.aload 4, 2) := by decide +kernel
theorem dX10_cell_39 : decode mX10_cell.2.1 39 = .ok (.iload_n 2, 1) := by decide +kernel
theorem dX10_cell_40 : decode mX10_cell.2.1 40 = .ok (.iload_n 3, 1) := by decide +kernel
theorem dX10_cell_41 : decode mX10_cell.2.1 41 = .ok (.invokevirtual 163, 3) := by decide +kernel
theorem dX10_cell_44 : decode mX10_cell.2.1 44 = .ok (.aload_n 0, 1) := by decide +kernel
theorem dX10_cell_45 : decode mX10_cell.2.1 45 = .ok (.getfield 24, 3) := by decide +kernel
theorem dX10_cell_48 : decode mX10_cell.2.1 48 = .ok (.iload_n 1, 1) := by decide +kernel
theorem dX10_cell_49 : decode mX10_cell.2.1 49 = .ok (.iload_n 2, 1) := by decide +kernel
theorem dX10_cell_50 : decode mX10_cell.2.1 50 = .ok (.iload_n 3, 1) := by decide +kernel
theorem dX10_cell_51 : decode mX10_cell.2.1 51 = .ok (.iconst 0, 1) := by decide +kernel
theorem dX10_cell_52 : decode mX10_cell.2.1 52 = .ok (.invokevirtual 166, 3) := by decide +kernel
theorem dX10_cell_55 : decode mX10_cell.2.1 55 = .ok (.aload 4, 2) := by decide +kernel
theorem dX10_cell_57 : decode mX10_cell.2.1 57 = .ok (.invokevirtual 170, 3) := by decide +kernel
theorem dX10_cell_60 : decode mX10_cell.2.1 60 = .ok (.ireturn, 1) := by decide +kernel
def mX10_board : String × ByteArray × Nat := (RX10, cX10_board, 5)
theorem dX10_board_0 : decode mX10_board.2.1 0 = .ok (.iload_n 1, 1) := by decide +kernel
theorem dX10_board_1 : decode mX10_board.2.1 1 = .ok (.invokestatic 66, 3) := by decide +kernel
theorem dX10_board_4 : decode mX10_board.2.1 4 = .ok (.ifCond .eq 10, 3) := by decide +kernel
theorem dX10_board_7 : decode mX10_board.2.1 7 = .ok (.iload_n 2, 1) := by decide +kernel
theorem dX10_board_8 : decode mX10_board.2.1 8 = .ok (.invokestatic 66, 3) := by decide +kernel
theorem dX10_board_11 : decode mX10_board.2.1 11 = .ok (.ifCond .ne 5, 3) := by decide +kernel
theorem dX10_board_14 : decode mX10_board.2.1 14 = .ok (.iconst (-1), 1) := by decide +kernel
theorem dX10_board_15 : decode mX10_board.2.1 15 = .ok (.ireturn, 1) := by decide +kernel
theorem dX10_board_16 : decode mX10_board.2.1 16 = .ok (.aload_n 0, 1) := by decide +kernel
theorem dX10_board_17 : decode mX10_board.2.1 17 = .ok (.getfield 12, 3) := by decide +kernel
theorem dX10_board_20 : decode mX10_board.2.1 20 = .ok (.getfield 70, 3) := by decide +kernel
theorem dX10_board_23 : decode mX10_board.2.1 23 = .ok (.iload_n 2, 1) := by decide +kernel
theorem dX10_board_24 : decode mX10_board.2.1 24 = .ok (.aaload, 1) := by decide +kernel
theorem dX10_board_25 : decode mX10_board.2.1 25 = .ok (.astore_n 3, 1) := by decide +kernel
theorem dX10_board_26 : decode mX10_board.2.1 26 = .ok (.aload_n 3, 1) := by decide +kernel
theorem dX10_board_27 : decode mX10_board.2.1 27 = .ok (.invokevirtual 97, 3) := by decide +kernel
theorem dX10_board_30 : decode mX10_board.2.1 30 = .ok (.bipush 6, 2) := by decide +kernel
theorem dX10_board_32 : decode mX10_board.2.1 32 = .ok (.if_icmp .gt 12, 3) := by decide +kernel
theorem dX10_board_35 : decode mX10_board.2.1 35 = .ok (.aload_n 3, 1) := by decide +kernel
theorem dX10_board_36 : decode mX10_board.2.1 36 = .ok (.invokevirtual 125, 3) := by decide +kernel
theorem dX10_board_39 : decode mX10_board.2.1 39 = .ok (.bipush 6, 2) := by decide +kernel
theorem dX10_board_41 : decode mX10_board.2.1 41 = .ok (.if_icmp .le 6, 3) := by decide +kernel
theorem dX10_board_44 : decode mX10_board.2.1 44 = .ok (.bipush (-3), 2) := by decide +kernel
theorem dX10_board_46 : decode mX10_board.2.1 46 = .ok (.ireturn, 1) := by decide +kernel
theorem dX10_board_47 : decode mX10_board.2.1 47 = .ok (.aload_n 0, 1) := by decide +kernel
theorem dX10_board_48 : decode mX10_board.2.1 48 = .ok (.getfield 12, 3) := by decide +kernel
theorem dX10_board_51 : decode mX10_board.2.1 51 = .ok (.getfield 143, 3) := by decide +kernel
theorem dX10_board_54 : decode mX10_board.2.1 54 = .ok (.iload_n 1, 1) := by decide +kernel
theorem dX10_board_55 : decode mX10_board.2.1 55 = .ok (.aaload, 1) := by decide +kernel
theorem dX10_board_56 : decode mX10_board.2.1 56 = .ok (.astore 4, 2) := by decide +kernel
theorem dX10_board_58 : decode mX10_board.2.1 58 = .ok (.aload 4, 2) := by decide +kernel
theorem dX10_board_60 : decode mX10_board.2.1 60 = .ok (.aload_n 3, 1) := by decide +kernel
theorem dX10_board_61 : decode mX10_board.2.1 61 = .ok (.invokevirtual 173, 3) := by decide +kernel
theorem dX10_board_64 : decode mX10_board.2.1 64 = .ok (.aload_n 0, 1) := by decide +kernel
theorem dX10_board_65 : decode mX10_board.2.1 65 = .ok (.getfield 24, 3) := by decide +kernel
theorem dX10_board_68 : decode mX10_board.2.1 68 = .ok (.invokevirtual 156, 3) := by decide +kernel
theorem dX10_board_71 : decode mX10_board.2.1 71 = .ok (.aload 4, 2) := by decide +kernel
theorem dX10_board_73 : decode mX10_board.2.1 73 = .ok (.invokevirtual 170, 3) := by decide +kernel
theorem dX10_board_76 : decode mX10_board.2.1 76 = .ok (.ireturn, 1) := by decide +kernel
def mX10_steps : String × ByteArray × Nat := (RX10, cX10_steps, 5)
theorem dX10_steps_0 : decode mX10_steps.2.1 0 = .ok (.iload_n 1, 1) := by decide +kernel
theorem dX10_steps_1 : decode mX10_steps.2.1 1 = .ok (.invokestatic 66, 3) := by decide +kernel
theorem dX10_steps_4 : decode mX10_steps.2.1 4 = .ok (.ifCond .ne 5, 3) := by decide +kernel
theorem dX10_steps_7 : decode mX10_steps.2.1 7 = .ok (.iconst (-1), 1) := by decide +kernel
theorem dX10_steps_8 : decode mX10_steps.2.1 8 = .ok (.ireturn, 1) := by decide +kernel
theorem dX10_steps_9 : decode mX10_steps.2.1 9 = .ok (.iload_n 2, 1) := by decide +kernel
theorem dX10_steps_10 : decode mX10_steps.2.1 10 = .ok (.invokestatic 140, 3) := by decide +kernel
theorem dX10_steps_13 : decode mX10_steps.2.1 13 = .ok (.ifCond .eq 11, 3) := by decide +kernel
theorem dX10_steps_16 : decode mX10_steps.2.1 16 = .ok (.iload_n 2, 1) := by decide +kernel
theorem dX10_steps_17 : decode mX10_steps.2.1 17 = .ok (.iload_n 3, 1) := by decide +kernel
theorem dX10_steps_18 : decode mX10_steps.2.1 18 = .ok (.invokestatic 177, 3) := by decide +kernel
theorem dX10_steps_21 : decode mX10_steps.2.1 21 = .ok (.ifCond .ne 6, 3) := by decide +kernel
theorem dX10_steps_24 : decode mX10_steps.2.1 24 = .ok (.bipush (-2), 2) := by decide +kernel
theorem dX10_steps_26 : decode mX10_steps.2.1 26 = .ok (.ireturn, 1) := by decide +kernel
theorem dX10_steps_27 : decode mX10_steps.2.1 27 = .ok (.aload_n 0, 1) := by decide +kernel
theorem dX10_steps_28 : decode mX10_steps.2.1 28 = .ok (.getfield 12, 3) := by decide +kernel
theorem dX10_steps_31 : decode mX10_steps.2.1 31 = .ok (.getfield 143, 3) := by decide +kernel
theorem dX10_steps_34 : decode mX10_steps.2.1 34 = .ok (.iload_n 1, 1) := by decide +kernel
theorem dX10_steps_35 : decode mX10_steps.2.1 35 = .ok (.aaload, 1) := by decide +kernel
theorem dX10_steps_36 : decode mX10_steps.2.1 36 = .ok (.astore 4, 2) := by decide +kernel
theorem dX10_steps_38 : decode mX10_steps.2.1 38 = .ok (.aload 4, 2) := by decide +kernel
theorem dX10_steps_40 : decode mX10_steps.2.1 40 = .ok (.iload_n 2, 1) := by decide +kernel
theorem dX10_steps_41 : decode mX10_steps.2.1 41 = .ok (.iload_n 3, 1) := by decide +kernel
theorem dX10_steps_42 : decode mX10_steps.2.1 42 = .ok (.invokevirtual 180, 3) := by decide +kernel
theorem dX10_steps_45 : decode mX10_steps.2.1 45 = .ok (.aload_n 0, 1) := by decide +kernel
theorem dX10_steps_46 : decode mX10_steps.2.1 46 = .ok (.getfield 24, 3) := by decide +kernel
theorem dX10_steps_49 : decode mX10_steps.2.1 49 = .ok (.invokevirtual 156, 3) := by decide +kernel
theorem dX10_steps_52 : decode mX10_steps.2.1 52 = .ok (.aload 4, 2) := by decide +kernel
theorem dX10_steps_54 : decode mX10_steps.2.1 54 = .ok (.invokevirtual 170, 3) := by decide +kernel
theorem dX10_steps_57 : decode mX10_steps.2.1 57 = .ok (.ireturn, 1) := by decide +kernel
def mX10_other : String × ByteArray × Nat := (RX10, cX10_other, 3)
theorem dX10_other_0 : decode mX10_other.2.1 0 = .ok (.iload_n 1, 1) := by decide +kernel
theorem dX10_other_1 : decode mX10_other.2.1 1 = .ok (.invokestatic 66, 3) := by decide +kernel
theorem dX10_other_4 : decode mX10_other.2.1 4 = .ok (.ifCond .ne 5, 3) := by decide +kernel
theorem dX10_other_7 : decode mX10_other.2.1 7 = .ok (.iconst (-1), 1) := by decide +kernel
theorem dX10_other_8 : decode mX10_other.2.1 8 = .ok (.ireturn, 1) := by decide +kernel
theorem dX10_other_9 : decode mX10_other.2.1 9 = .ok (.aload_n 0, 1) := by decide +kernel
theorem dX10_other_10 : decode mX10_other.2.1 10 = .ok (.getfield 12, 3) := by decide +kernel
theorem dX10_other_13 : decode mX10_other.2.1 13 = .ok (.getfield 143, 3) := by decide +kernel
theorem dX10_other_16 : decode mX10_other.2.1 16 = .ok (.iload_n 1, 1) := by decide +kernel
theorem dX10_other_17 : decode mX10_other.2.1 17 = .ok (.aaload, 1) := by decide +kernel
theorem dX10_other_18 : decode mX10_other.2.1 18 = .ok (.astore_n 2, 1) := by decide +kernel
theorem dX10_other_19 : decode mX10_other.2.1 19 = .ok (.aload_n 2, 1) := by decide +kernel
theorem dX10_other_20 : decode mX10_other.2.1 20 = .ok (.invokevirtual 183, 3) := by decide +kernel
theorem dX10_other_23 : decode mX10_other.2.1 23 = .ok (.aload_n 0, 1) := by decide +kernel
theorem dX10_other_24 : decode mX10_other.2.1 24 = .ok (.getfield 24, 3) := by decide +kernel
theorem dX10_other_27 : decode mX10_other.2.1 27 = .ok (.invokevirtual 156, 3) := by decide +kernel
theorem dX10_other_30 : decode mX10_other.2.1 30 = .ok (.aload_n 2, 1) := by decide +kernel
theorem dX10_other_31 : decode mX10_other.2.1 31 = .ok (.invokevirtual 170, 3) := by decide +kernel
theorem dX10_other_34 : decode mX10_other.2.1 34 = .ok (.ireturn, 1) := by decide +kernel
def mX10_turned : String × ByteArray × Nat := (RX10, cX10_turned, 3)
theorem dX10_turned_0 : decode mX10_turned.2.1 0 = .ok (.iload_n 1, 1) := by decide +kernel
theorem dX10_turned_1 : decode mX10_turned.2.1 1 = .ok (.invokestatic 66, 3) := by decide +kernel
theorem dX10_turned_4 : decode mX10_turned.2.1 4 = .ok (.ifCond .ne 5, 3) := by decide +kernel
theorem dX10_turned_7 : decode mX10_turned.2.1 7 = .ok (.iconst (-1), 1) := by decide +kernel
theorem dX10_turned_8 : decode mX10_turned.2.1 8 = .ok (.ireturn, 1) := by decide +kernel
theorem dX10_turned_9 : decode mX10_turned.2.1 9 = .ok (.aload_n 0, 1) := by decide +kernel
theorem dX10_turned_10 : decode mX10_turned.2.1 10 = .ok (.getfield 12, 3) := by decide +kernel
theorem dX10_turned_13 : decode mX10_turned.2.1 13 = .ok (.getfield 143, 3) := by decide +kernel
theorem dX10_turned_16 : decode mX10_turned.2.1 16 = .ok (.iload_n 1, 1) := by decide +kernel
theorem dX10_turned_17 : decode mX10_turned.2.1 17 = .ok (.aaload, 1) := by decide +kernel
theorem dX10_turned_18 : decode mX10_turned.2.1 18 = .ok (.astore_n 2, 1) := by decide +kernel
theorem dX10_turned_19 : decode mX10_turned.2.1 19 = .ok (.aload_n 2, 1) := by decide +kernel
theorem dX10_turned_20 : decode mX10_turned.2.1 20 = .ok (.invokevirtual 186, 3) := by decide +kernel
theorem dX10_turned_23 : decode mX10_turned.2.1 23 = .ok (.aload_n 0, 1) := by decide +kernel
theorem dX10_turned_24 : decode mX10_turned.2.1 24 = .ok (.getfield 24, 3) := by decide +kernel
theorem dX10_turned_27 : decode mX10_turned.2.1 27 = .ok (.invokevirtual 156, 3) := by decide +kernel
theorem dX10_turned_30 : decode mX10_turned.2.1 30 = .ok (.aload_n 2, 1) := by decide +kernel
theorem dX10_turned_31 : decode mX10_turned.2.1 31 = .ok (.invokevirtual 170, 3) := by decide +kernel
theorem dX10_turned_34 : decode mX10_turned.2.1 34 = .ok (.ireturn, 1) := by decide +kernel
def mX10_flipped : String × ByteArray × Nat := (RX10, cX10_flipped, 3)
theorem dX10_flipped_0 : decode mX10_flipped.2.1 0 = .ok (.iload_n 1, 1) := by decide +kernel
theorem dX10_flipped_1 : decode mX10_flipped.2.1 1 = .ok (.invokestatic 66, 3) := by decide +kernel
theorem dX10_flipped_4 : decode mX10_flipped.2.1 4 = .ok (.ifCond .ne 5, 3) := by decide +kernel
theorem dX10_flipped_7 : decode mX10_flipped.2.1 7 = .ok (.iconst (-1), 1) := by decide +kernel
theorem dX10_flipped_8 : decode mX10_flipped.2.1 8 = .ok (.ireturn, 1) := by decide +kernel
theorem dX10_flipped_9 : decode mX10_flipped.2.1 9 = .ok (.aload_n 0, 1) := by decide +kernel
theorem dX10_flipped_10 : decode mX10_flipped.2.1 10 = .ok (.getfield 12, 3) := by decide +kernel
theorem dX10_flipped_13 : decode mX10_flipped.2.1 13 = .ok (.getfield 143, 3) := by decide +kernel
theorem dX10_flipped_16 : decode mX10_flipped.2.1 16 = .ok (.iload_n 1, 1) := by decide +kernel
theorem dX10_flipped_17 : decode mX10_flipped.2.1 17 = .ok (.aaload, 1) := by decide +kernel
theorem dX10_flipped_18 : decode mX10_flipped.2.1 18 = .ok (.astore_n 2, 1) := by decide +kernel
theorem dX10_flipped_19 : decode mX10_flipped.2.1 19 = .ok (.aload_n 2, 1) := by decide +kernel
theorem dX10_flipped_20 : decode mX10_flipped.2.1 20 = .ok (.invokevirtual 189, 3) := by decide +kernel
theorem dX10_flipped_23 : decode mX10_flipped.2.1 23 = .ok (.aload_n 0, 1) := by decide +kernel
theorem dX10_flipped_24 : decode mX10_flipped.2.1 24 = .ok (.getfield 24, 3) := by decide +kernel
theorem dX10_flipped_27 : decode mX10_flipped.2.1 27 = .ok (.invokevirtual 156, 3) := by decide +kernel
theorem dX10_flipped_30 : decode mX10_flipped.2.1 30 = .ok (.aload_n 2, 1) := by decide +kernel
theorem dX10_flipped_31 : decode mX10_flipped.2.1 31 = .ok (.invokevirtual 170, 3) := by decide +kernel
theorem dX10_flipped_34 : decode mX10_flipped.2.1 34 = .ok (.ireturn, 1) := by decide +kernel
def mX10_row : String × ByteArray × Nat := (RX10, cX10_row, 3)
theorem dX10_row_0 : decode mX10_row.2.1 0 = .ok (.iload_n 1, 1) := by decide +kernel
theorem dX10_row_1 : decode mX10_row.2.1 1 = .ok (.invokestatic 66, 3) := by decide +kernel
theorem dX10_row_4 : decode mX10_row.2.1 4 = .ok (.ifCond .eq 20, 3) := by decide +kernel
theorem dX10_row_7 : decode mX10_row.2.1 7 = .ok (.aload_n 0, 1) := by decide +kernel
theorem dX10_row_8 : decode mX10_row.2.1 8 = .ok (.getfield 12, 3) := by decide +kernel
theorem dX10_row_11 : decode mX10_row.2.1 11 = .ok (.getfield 143, 3) := by decide +kernel
theorem dX10_row_14 : decode mX10_row.2.1 14 = .ok (.iload_n 1, 1) := by decide +kernel
theorem dX10_row_15 : decode mX10_row.2.1 15 = .ok (.aaload, 1) := by decide +kernel
theorem dX10_row_16 : decode mX10_row.2.1 16 = .ok (.iload_n 2, 1) := by decide +kernel
theorem dX10_row_17 : decode mX10_row.2.1 17 = .ok (.iconst 0, 1) := by decide +kernel
theorem dX10_row_18 : decode mX10_row.2.1 18 = .ok (.invokevirtual 159, 3) := by decide +kernel
theorem dX10_row_21 : decode mX10_row.2.1 21 = .ok (.ifCond .ne 5, 3) := by decide +kernel
theorem dX10_row_24 : decode mX10_row.2.1 24 = .ok (.iconst (-1), 1) := by decide +kernel
theorem dX10_row_25 : decode mX10_row.2.1 25 = .ok (.ireturn, 1) := by decide +kernel
theorem dX10_row_26 : decode mX10_row.2.1 26 = .ok (.aload_n 0, 1) := by decide +kernel
theorem dX10_row_27 : decode mX10_row.2.1 27 = .ok (.getfield 12, 3) := by decide +kernel
theorem dX10_row_30 : decode mX10_row.2.1 30 = .ok (.getfield 143, 3) := by decide +kernel
theorem dX10_row_33 : decode mX10_row.2.1 33 = .ok (.iload_n 1, 1) := by decide +kernel
theorem dX10_row_34 : decode mX10_row.2.1 34 = .ok (.aaload, 1) := by decide +kernel
theorem dX10_row_35 : decode mX10_row.2.1 35 = .ok (.getfield 192, 3) := by decide +kernel
theorem dX10_row_38 : decode mX10_row.2.1 38 = .ok (.iload_n 2, 1) := by decide +kernel
theorem dX10_row_39 : decode mX10_row.2.1 39 = .ok (.iaload, 1) := by decide +kernel
theorem dX10_row_40 : decode mX10_row.2.1 40 = .ok (.ireturn, 1) := by decide +kernel
def mX10_of : String × ByteArray × Nat := (RX10, cX10_of, 4)
theorem dX10_of_0 : decode mX10_of.2.1 0 = .ok (.iload_n 1, 1) := by decide +kernel
theorem dX10_of_1 : decode mX10_of.2.1 1 = .ok (.invokestatic 66, 3) := by decide +kernel
theorem dX10_of_4 : decode mX10_of.2.1 4 = .ok (.ifCond .eq 12, 3) := by decide +kernel
theorem dX10_of_7 : decode mX10_of.2.1 7 = .ok (.iload_n 2, 1) := by decide +kernel
theorem dX10_of_8 : decode mX10_of.2.1 8 = .ok (.ifCond .lt 8, 3) := by decide +kernel
theorem dX10_of_11 : decode mX10_of.2.1 11 = .ok (.iload_n 2, 1) := by decide +kernel
theorem dX10_of_12 : decode mX10_of.2.1 12 = .ok (.iconst 4, 1) := by decide +kernel
theorem dX10_of_13 : decode mX10_of.2.1 13 = .ok (.if_icmp .le 5, 3) := by decide +kernel
theorem dX10_of_16 : decode mX10_of.2.1 16 = .ok (.iconst (-1), 1) := by decide +kernel
theorem dX10_of_17 : decode mX10_of.2.1 17 = .ok (.ireturn, 1) := by decide +kernel
theorem dX10_of_18 : decode mX10_of.2.1 18 = .ok (.aload_n 0, 1) := by decide +kernel
theorem dX10_of_19 : decode mX10_of.2.1 19 = .ok (.getfield 12, 3) := by decide +kernel
theorem dX10_of_22 : decode mX10_of.2.1 22 = .ok (.getfield 143, 3) := by decide +kernel
theorem dX10_of_25 : decode mX10_of.2.1 25 = .ok (.iload_n 1, 1) := by decide +kernel
theorem dX10_of_26 : decode mX10_of.2.1 26 = .ok (.aaload, 1) := by decide +kernel
theorem dX10_of_27 : decode mX10_of.2.1 27 = .ok (.astore_n 3, 1) := by decide +kernel
theorem dX10_of_28 : decode mX10_of.2.1 28 = .ok (.iload_n 2, 1) := by decide +kernel
theorem dX10_of_29 : decode mX10_of.2.1 29 = .ok (.tableswitch 82 0 3 #[31, 36, 41, 54], 31) := by decide +kernel
theorem dX10_of_60 : decode mX10_of.2.1 60 = .ok (.aload_n 3, 1) := by decide +kernel
theorem dX10_of_61 : decode mX10_of.2.1 61 = .ok (.getfield 147, 3) := by decide +kernel
theorem dX10_of_64 : decode mX10_of.2.1 64 = .ok (.ireturn, 1) := by decide +kernel
theorem dX10_of_65 : decode mX10_of.2.1 65 = .ok (.aload_n 3, 1) := by decide +kernel
theorem dX10_of_66 : decode mX10_of.2.1 66 = .ok (.invokevirtual 170, 3) := by decide +kernel
theorem dX10_of_69 : decode mX10_of.2.1 69 = .ok (.ireturn, 1) := by decide +kernel
theorem dX10_of_70 : decode mX10_of.2.1 70 = .ok (.aload_n 3, 1) := by decide +kernel
theorem dX10_of_71 : decode mX10_of.2.1 71 = .ok (.invokevirtual 195, 3) := by decide +kernel
theorem dX10_of_74 : decode mX10_of.2.1 74 = .ok (.ifCond .eq 7, 3) := by decide +kernel
theorem dX10_of_77 : decode mX10_of.2.1 77 = .ok (.iconst 1, 1) := by decide +kernel
theorem dX10_of_78 : decode mX10_of.2.1 78 = .ok (.goto 4, 3) := by decide +kernel
theorem dX10_of_81 : decode mX10_of.2.1 81 = .ok (.iconst 0, 1) := by decide +kernel
theorem dX10_of_82 : decode mX10_of.2.1 82 = .ok (.ireturn, 1) := by decide +kernel
theorem dX10_of_83 : decode mX10_of.2.1 83 = .ok (.aload_n 3, 1) := by decide +kernel
theorem dX10_of_84 : decode mX10_of.2.1 84 = .ok (.invokevirtual 195, 3) := by decide +kernel
theorem dX10_of_87 : decode mX10_of.2.1 87 = .ok (.ifCond .eq 21, 3) := by decide +kernel
theorem dX10_of_90 : decode mX10_of.2.1 90 = .ok (.aload_n 0, 1) := by decide +kernel
theorem dX10_of_91 : decode mX10_of.2.1 91 = .ok (.aload_n 3, 1) := by decide +kernel
theorem dX10_of_92 : decode mX10_of.2.1 92 = .ok (.getfield 147, 3) := by decide +kernel
theorem dX10_of_95 : decode mX10_of.2.1 95 = .ok (.invokevirtual 199, 3) := by decide +kernel
theorem dX10_of_98 : decode mX10_of.2.1 98 = .ok (.aload_n 3, 1) := by decide +kernel
theorem dX10_of_99 : decode mX10_of.2.1 99 = .ok (.invokevirtual 203, 3) := by decide +kernel
theorem dX10_of_102 : decode mX10_of.2.1 102 = .ok (.invokevirtual 206, 3) := by decide +kernel
theorem dX10_of_105 : decode mX10_of.2.1 105 = .ok (.goto 5, 3) := by decide +kernel
theorem dX10_of_108 : decode mX10_of.2.1 108 = .ok (.bipush (-5), 2) := by decide +kernel
theorem dX10_of_110 : decode mX10_of.2.1 110 = .ok (.ireturn, 1) := by decide +kernel
theorem dX10_of_111 : decode mX10_of.2.1 111 = .ok (.aload_n 0, 1) := by decide +kernel
theorem dX10_of_112 : decode mX10_of.2.1 112 = .ok (.getfield 52, 3) := by decide +kernel
theorem dX10_of_115 : decode mX10_of.2.1 115 = .ok (.aload_n 3, 1) := by decide +kernel
theorem dX10_of_116 : decode mX10_of.2.1 116 = .ok (.invokevirtual 210, 3) := by decide +kernel
theorem dX10_of_119 : decode mX10_of.2.1 119 = .ok (.invokestatic 214, 3) := by decide +kernel
theorem dX10_of_122 : decode mX10_of.2.1 122 = .ok (.ireturn, 1) := by decide +kernel
def mX10_count : String × ByteArray × Nat := (RX10, cX10_count, 3)
theorem dX10_count_0 : decode mX10_count.2.1 0 = .ok (.iload_n 1, 1) := by decide +kernel
theorem dX10_count_1 : decode mX10_count.2.1 1 = .ok (.invokestatic 66, 3) := by decide +kernel
theorem dX10_count_4 : decode mX10_count.2.1 4 = .ok (.ifCond .eq 7, 3) := by decide +kernel
theorem dX10_count_7 : decode mX10_count.2.1 7 = .ok (.iload_n 2, 1) := by decide +kernel
theorem dX10_count_8 : decode mX10_count.2.1 8 = .ok (.ifCond .ge 5, 3) := by decide +kernel
theorem dX10_count_11 : decode mX10_count.2.1 11 = .ok (.iconst (-1), 1) := by decide +kernel
theorem dX10_count_12 : decode mX10_count.2.1 12 = .ok (.ireturn, 1) := by decide +kernel
theorem dX10_count_13 : decode mX10_count.2.1 13 = .ok (.iload_n 2, 1) := by decide +kernel
theorem dX10_count_14 : decode mX10_count.2.1 14 = .ok (.bipush 6, 2) := by decide +kernel
theorem dX10_count_16 : decode mX10_count.2.1 16 = .ok (.if_icmp .le 5, 3) := by decide +kernel
theorem dX10_count_19 : decode mX10_count.2.1 19 = .ok (.iconst 0, 1) := by decide +kernel
theorem dX10_count_20 : decode mX10_count.2.1 20 = .ok (.ireturn, 1) := by decide +kernel
theorem dX10_count_21 : decode mX10_count.2.1 21 = .ok (.aload_n 0, 1) := by decide +kernel
theorem dX10_count_22 : decode mX10_count.2.1 22 = .ok (.getfield 52, 3) := by decide +kernel
theorem dX10_count_25 : decode mX10_count.2.1 25 = .ok (.aload_n 0, 1) := by decide +kernel
theorem dX10_count_26 : decode mX10_count.2.1 26 = .ok (.getfield 12, 3) := by decide +kernel
theorem dX10_count_29 : decode mX10_count.2.1 29 = .ok (.getfield 143, 3) := by decide +kernel
theorem dX10_count_32 : decode mX10_count.2.1 32 = .ok (.iload_n 1, 1) := by decide +kernel
theorem dX10_count_33 : decode mX10_count.2.1 33 = .ok (.aaload, 1) := by decide +kernel
theorem dX10_count_34 : decode mX10_count.2.1 34 = .ok (.invokevirtual 210, 3) := by decide +kernel
theorem dX10_count_37 : decode mX10_count.2.1 37 = .ok (.iload_n 2, 1) := by decide +kernel
theorem dX10_count_38 : decode mX10_count.2.1 38 = .ok (.iaload, 1) := by decide +kernel
theorem dX10_count_39 : decode mX10_count.2.1 39 = .ok (.ireturn, 1) := by decide +kernel
def mX10_hits : String × ByteArray × Nat := (RX10, cX10_hits, 3)
theorem dX10_hits_0 : decode mX10_hits.2.1 0 = .ok (.iload_n 1, 1) := by decide +kernel
theorem dX10_hits_1 : decode mX10_hits.2.1 1 = .ok (.invokestatic 66, 3) := by decide +kernel
theorem dX10_hits_4 : decode mX10_hits.2.1 4 = .ok (.ifCond .eq 7, 3) := by decide +kernel
theorem dX10_hits_7 : decode mX10_hits.2.1 7 = .ok (.iload_n 2, 1) := by decide +kernel
theorem dX10_hits_8 : decode mX10_hits.2.1 8 = .ok (.ifCond .ge 5, 3) := by decide +kernel
theorem dX10_hits_11 : decode mX10_hits.2.1 11 = .ok (.iconst (-1), 1) := by decide +kernel
theorem dX10_hits_12 : decode mX10_hits.2.1 12 = .ok (.ireturn, 1) := by decide +kernel
theorem dX10_hits_13 : decode mX10_hits.2.1 13 = .ok (.iload_n 2, 1) := by decide +kernel
theorem dX10_hits_14 : decode mX10_hits.2.1 14 = .ok (.bipush 6, 2) := by decide +kernel
theorem dX10_hits_16 : decode mX10_hits.2.1 16 = .ok (.if_icmp .le 5, 3) := by decide +kernel
theorem dX10_hits_19 : decode mX10_hits.2.1 19 = .ok (.iconst 0, 1) := by decide +kernel
theorem dX10_hits_20 : decode mX10_hits.2.1 20 = .ok (.ireturn, 1) := by decide +kernel
theorem dX10_hits_21 : decode mX10_hits.2.1 21 = .ok (.aload_n 0, 1) := by decide +kernel
theorem dX10_hits_22 : decode mX10_hits.2.1 22 = .ok (.getfield 52, 3) := by decide +kernel
theorem dX10_hits_25 : decode mX10_hits.2.1 25 = .ok (.aload_n 0, 1) := by decide +kernel
theorem dX10_hits_26 : decode mX10_hits.2.1 26 = .ok (.getfield 12, 3) := by decide +kernel
theorem dX10_hits_29 : decode mX10_hits.2.1 29 = .ok (.getfield 143, 3) := by decide +kernel
theorem dX10_hits_32 : decode mX10_hits.2.1 32 = .ok (.iload_n 1, 1) := by decide +kernel
theorem dX10_hits_33 : decode mX10_hits.2.1 33 = .ok (.aaload, 1) := by decide +kernel
theorem dX10_hits_34 : decode mX10_hits.2.1 34 = .ok (.iload_n 2, 1) := by decide +kernel
theorem dX10_hits_35 : decode mX10_hits.2.1 35 = .ok (.invokevirtual 218, 3) := by decide +kernel
theorem dX10_hits_38 : decode mX10_hits.2.1 38 = .ok (.ireturn, 1) := by decide +kernel
def mX10_factored : String × ByteArray × Nat := (RX10, cX10_factored, 11)
theorem dX10_factored_0 : decode mX10_factored.2.1 0 = .ok (.iload_n 1, 1) := by decide +kernel
theorem dX10_factored_1 : decode mX10_factored.2.1 1 = .ok (.invokestatic 66, 3) := by decide +kernel
theorem dX10_factored_4 : decode mX10_factored.2.1 4 = .ok (.ifCond .eq 13, 3) := by decide +kernel
theorem dX10_factored_7 : decode mX10_factored.2.1 7 = .ok (.iload_n 2, 1) := by decide +kernel
theorem dX10_factored_8 : decode mX10_factored.2.1 8 = .ok (.ifCond .lt 9, 3) := by decide +kernel
theorem dX10_factored_11 : decode mX10_factored.2.1 11 = .ok (.iload_n 2, 1) := by decide +kernel
theorem dX10_factored_12 : decode mX10_factored.2.1 12 = .ok (.bipush 20, 2) := by decide +kernel
theorem dX10_factored_14 : decode mX10_factored.2.1 14 = .ok (.if_icmp .le 7, 3) := by decide +kernel
theorem dX10_factored_17 : decode mX10_factored.2.1 17 = .ok (.ldc2_w 101, 3) := by decide +kernel
theorem dX10_factored_20 : decode mX10_factored.2.1 20 = .ok (.lreturn, 1) := by decide +kernel
theorem dX10_factored_21 : decode mX10_factored.2.1 21 = .ok (.aload_n 0, 1) := by decide +kernel
theorem dX10_factored_22 : decode mX10_factored.2.1 22 = .ok (.getfield 12, 3) := by decide +kernel
theorem dX10_factored_25 : decode mX10_factored.2.1 25 = .ok (.getfield 143, 3) := by decide +kernel
theorem dX10_factored_28 : decode mX10_factored.2.1 28 = .ok (.iload_n 1, 1) := by decide +kernel
theorem dX10_factored_29 : decode mX10_factored.2.1 29 = .ok (.aaload, 1) := by decide +kernel
theorem dX10_factored_30 : decode mX10_factored.2.1 30 = .ok (.astore_n 3, 1) := by decide +kernel
theorem dX10_factored_31 : decode mX10_factored.2.1 31 = .ok (.aload_n 0, 1) := by decide +kernel
theorem dX10_factored_32 : decode mX10_factored.2.1 32 = .ok (.getfield 52, 3) := by decide +kernel
theorem dX10_factored_35 : decode mX10_factored.2.1 35 = .ok (.aload_n 3, 1) := by decide +kernel
theorem dX10_factored_36 : decode mX10_factored.2.1 36 = .ok (.invokevirtual 210, 3) := by decide +kernel
theorem dX10_factored_39 : decode mX10_factored.2.1 39 = .ok (.astore 4, 2) := by decide +kernel
theorem dX10_factored_41 : decode mX10_factored.2.1 41 = .ok (.lconst 0, 1) := by decide +kernel
theorem dX10_factored_42 : decode mX10_factored.2.1 42 = .ok (.lstore 5, 2) := by decide +kernel
theorem dX10_factored_44 : decode mX10_factored.2.1 44 = .ok (.iconst 0, 1) := by decide +kernel
theorem dX10_factored_45 : decode mX10_factored.2.1 45 = .ok (.istore 7, 2) := by decide +kernel
theorem dX10_factored_47 : decode mX10_factored.2.1 47 = .ok (.iload 7, 2) := by decide +kernel
theorem dX10_factored_49 : decode mX10_factored.2.1 49 = .ok (.aload_n 3, 1) := by decide +kernel
theorem dX10_factored_50 : decode mX10_factored.2.1 50 = .ok (.getfield 147, 3) := by decide +kernel
theorem dX10_factored_53 : decode mX10_factored.2.1 53 = .ok (.if_icmp .gt 55, 3) := by decide +kernel
theorem dX10_factored_56 : decode mX10_factored.2.1 56 = .ok (.aload 4, 2) := by decide +kernel
theorem dX10_factored_58 : decode mX10_factored.2.1 58 = .ok (.iload 7, 2) := by decide +kernel
theorem dX10_factored_60 : decode mX10_factored.2.1 60 = .ok (.iaload, 1) := by decide +kernel
theorem dX10_factored_61 : decode mX10_factored.2.1 61 = .ok (.i2l, 1) := by decide +kernel
theorem dX10_factored_62 : decode mX10_factored.2.1 62 = .ok (.lstore 8, 2) := by decide +kernel
theorem dX10_factored_64 : decode mX10_factored.2.1 64 = .ok (.iconst 0, 1) := by decide +kernel
theorem dX10_factored_65 : decode mX10_factored.2.1 65 = .ok (.istore 10, 2) := by decide +kernel
theorem dX10_factored_67 : decode mX10_factored.2.1 67 = .ok (.iload 10, 2) := by decide +kernel
theorem dX10_factored_69 : decode mX10_factored.2.1 69 = .ok (.aload_n 3, 1) := by decide +kernel
theorem dX10_factored_70 : decode mX10_factored.2.1 70 = .ok (.getfield 147, 3) := by decide +kernel
theorem dX10_factored_73 : decode mX10_factored.2.1 73 = .ok (.iload 7, 2) := by decide +kernel
theorem dX10_factored_75 : decode mX10_factored.2.1 75 = .ok (.isub, 1) := by decide +kernel
theorem dX10_factored_76 : decode mX10_factored.2.1 76 = .ok (.if_icmp .ge 19, 3) := by decide +kernel
theorem dX10_factored_79 : decode mX10_factored.2.1 79 = .ok (.lload 8, 2) := by decide +kernel
theorem dX10_factored_81 : decode mX10_factored.2.1 81 = .ok (.iload_n 2, 1) := by decide +kernel
theorem dX10_factored_82 : decode mX10_factored.2.1 82 = .ok (.iload 10, 2) := by decide +kernel
theorem dX10_factored_84 : decode mX10_factored.2.1 84 = .ok (.isub, 1) := by decide +kernel
theorem dX10_factored_85 : decode mX10_factored.2.1 85 = .ok (.i2l, 1) := by decide +kernel
theorem dX10_factored_86 : decode mX10_factored.2.1 86 = .ok (.lmul, 1) := by decide +kernel
theorem dX10_factored_87 : decode mX10_factored.2.1 87 = .ok (.lstore 8, 2) := by decide +kernel
theorem dX10_factored_89 : decode mX10_factored.2.1 89 = .ok (.iinc 10 1, 3) := by decide +kernel
theorem dX10_factored_92 : decode mX10_factored.2.1 92 = .ok (.goto (-25), 3) := by decide +kernel
theorem dX10_factored_95 : decode mX10_factored.2.1 95 = .ok (.lload 5, 2) := by decide +kernel
theorem dX10_factored_97 : decode mX10_factored.2.1 97 = .ok (.lload 8, 2) := by decide +kernel
theorem dX10_factored_99 : decode mX10_factored.2.1 99 = .ok (.ladd, 1) := by decide +kernel
theorem dX10_factored_100 : decode mX10_factored.2.1 100 = .ok (.lstore 5, 2) := by decide +kernel
theorem dX10_factored_102 : decode mX10_factored.2.1 102 = .ok (.iinc 7 1, 3) := by decide +kernel
theorem dX10_factored_105 : decode mX10_factored.2.1 105 = .ok (.goto (-58), 3) := by decide +kernel
theorem dX10_factored_108 : decode mX10_factored.2.1 108 = .ok (.lload 5, 2) := by decide +kernel
theorem dX10_factored_110 : decode mX10_factored.2.1 110 = .ok (.lreturn, 1) := by decide +kernel
def mX10_bySteps : String × ByteArray × Nat := (RX10, cX10_bySteps, 7)
theorem dX10_bySteps_0 : decode mX10_bySteps.2.1 0 = .ok (.iload_n 1, 1) := by decide +kernel
theorem dX10_bySteps_1 : decode mX10_bySteps.2.1 1 = .ok (.invokestatic 66, 3) := by decide +kernel
theorem dX10_bySteps_4 : decode mX10_bySteps.2.1 4 = .ok (.ifCond .eq 28, 3) := by decide +kernel
theorem dX10_bySteps_7 : decode mX10_bySteps.2.1 7 = .ok (.iload_n 2, 1) := by decide +kernel
theorem dX10_bySteps_8 : decode mX10_bySteps.2.1 8 = .ok (.ifCond .lt 24, 3) := by decide +kernel
theorem dX10_bySteps_11 : decode mX10_bySteps.2.1 11 = .ok (.iload_n 2, 1) := by decide +kernel
theorem dX10_bySteps_12 : decode mX10_bySteps.2.1 12 = .ok (.bipush 20, 2) := by decide +kernel
theorem dX10_bySteps_14 : decode mX10_bySteps.2.1 14 = .ok (.if_icmp .gt 18, 3) := by decide +kernel
theorem dX10_bySteps_17 : decode mX10_bySteps.2.1 17 = .ok (.aload_n 0, 1) := by decide +kernel
theorem dX10_bySteps_18 : decode mX10_bySteps.2.1 18 = .ok (.getfield 12, 3) := by decide +kernel
theorem dX10_bySteps_21 : decode mX10_bySteps.2.1 21 = .ok (.getfield 143, 3) := by decide +kernel
theorem dX10_bySteps_24 : decode mX10_bySteps.2.1 24 = .ok (.iload_n 1, 1) := by decide +kernel
theorem dX10_bySteps_25 : decode mX10_bySteps.2.1 25 = .ok (.aaload, 1) := by decide +kernel
theorem dX10_bySteps_26 : decode mX10_bySteps.2.1 26 = .ok (.invokevirtual 195, 3) := by decide +kernel
theorem dX10_bySteps_29 : decode mX10_bySteps.2.1 29 = .ok (.ifCond .ne 7, 3) := by decide +kernel
theorem dX10_bySteps_32 : decode mX10_bySteps.2.1 32 = .ok (.ldc2_w 101, 3) := by decide +kernel
theorem dX10_bySteps_35 : decode mX10_bySteps.2.1 35 = .ok (.lreturn, 1) := by decide +kernel
theorem dX10_bySteps_36 : decode mX10_bySteps.2.1 36 = .ok (.aload_n 0, 1) := by decide +kernel
theorem dX10_bySteps_37 : decode mX10_bySteps.2.1 37 = .ok (.getfield 12, 3) := by decide +kernel
theorem dX10_bySteps_40 : decode mX10_bySteps.2.1 40 = .ok (.getfield 143, 3) := by decide +kernel
theorem dX10_bySteps_43 : decode mX10_bySteps.2.1 43 = .ok (.iload_n 1, 1) := by decide +kernel
theorem dX10_bySteps_44 : decode mX10_bySteps.2.1 44 = .ok (.aaload, 1) := by decide +kernel
theorem dX10_bySteps_45 : decode mX10_bySteps.2.1 45 = .ok (.astore_n 3, 1) := by decide +kernel
theorem dX10_bySteps_46 : decode mX10_bySteps.2.1 46 = .ok (.lconst 1, 1) := by decide +kernel
theorem dX10_bySteps_47 : decode mX10_bySteps.2.1 47 = .ok (.lstore 4, 2) := by decide +kernel
theorem dX10_bySteps_49 : decode mX10_bySteps.2.1 49 = .ok (.iconst 0, 1) := by decide +kernel
theorem dX10_bySteps_50 : decode mX10_bySteps.2.1 50 = .ok (.istore 6, 2) := by decide +kernel
theorem dX10_bySteps_52 : decode mX10_bySteps.2.1 52 = .ok (.iload 6, 2) := by decide +kernel
theorem dX10_bySteps_54 : decode mX10_bySteps.2.1 54 = .ok (.aload_n 3, 1) := by decide +kernel
theorem dX10_bySteps_55 : decode mX10_bySteps.2.1 55 = .ok (.getfield 147, 3) := by decide +kernel
theorem dX10_bySteps_58 : decode mX10_bySteps.2.1 58 = .ok (.if_icmp .ge 26, 3) := by decide +kernel
theorem dX10_bySteps_61 : decode mX10_bySteps.2.1 61 = .ok (.lload 4, 2) := by decide +kernel
theorem dX10_bySteps_63 : decode mX10_bySteps.2.1 63 = .ok (.iload_n 2, 1) := by decide +kernel
theorem dX10_bySteps_64 : decode mX10_bySteps.2.1 64 = .ok (.aload_n 3, 1) := by decide +kernel
theorem dX10_bySteps_65 : decode mX10_bySteps.2.1 65 = .ok (.iload 6, 2) := by decide +kernel
theorem dX10_bySteps_67 : decode mX10_bySteps.2.1 67 = .ok (.invokevirtual 222, 3) := by decide +kernel
theorem dX10_bySteps_70 : decode mX10_bySteps.2.1 70 = .ok (.iadd, 1) := by decide +kernel
theorem dX10_bySteps_71 : decode mX10_bySteps.2.1 71 = .ok (.iload 6, 2) := by decide +kernel
theorem dX10_bySteps_73 : decode mX10_bySteps.2.1 73 = .ok (.isub, 1) := by decide +kernel
theorem dX10_bySteps_74 : decode mX10_bySteps.2.1 74 = .ok (.i2l, 1) := by decide +kernel
theorem dX10_bySteps_75 : decode mX10_bySteps.2.1 75 = .ok (.lmul, 1) := by decide +kernel
theorem dX10_bySteps_76 : decode mX10_bySteps.2.1 76 = .ok (.lstore 4, 2) := by decide +kernel
theorem dX10_bySteps_78 : decode mX10_bySteps.2.1 78 = .ok (.iinc 6 1, 3) := by decide +kernel
theorem dX10_bySteps_81 : decode mX10_bySteps.2.1 81 = .ok (.goto (-29), 3) := by decide +kernel
theorem dX10_bySteps_84 : decode mX10_bySteps.2.1 84 = .ok (.lload 4, 2) := by decide +kernel
theorem dX10_bySteps_86 : decode mX10_bySteps.2.1 86 = .ok (.lreturn, 1) := by decide +kernel
def mX10_all : String × ByteArray × Nat := (RX10, cX10_all, 5)
theorem dX10_all_0 : decode mX10_all.2.1 0 = .ok (.iload_n 1, 1) := by decide +kernel
theorem dX10_all_1 : decode mX10_all.2.1 1 = .ok (.invokestatic 140, 3) := by decide +kernel
theorem dX10_all_4 : decode mX10_all.2.1 4 = .ok (.ifCond .ne 6, 3) := by decide +kernel
theorem dX10_all_7 : decode mX10_all.2.1 7 = .ok (.bipush (-2), 2) := by decide +kernel
theorem dX10_all_9 : decode mX10_all.2.1 9 = .ok (.ireturn, 1) := by decide +kernel
theorem dX10_all_10 : decode mX10_all.2.1 10 = .ok (.iload_n 3, 1) := by decide +kernel
theorem dX10_all_11 : decode mX10_all.2.1 11 = .ok (.iconst (-1), 1) := by decide +kernel
theorem dX10_all_12 : decode mX10_all.2.1 12 = .ok (.if_icmp .lt 8, 3) := by decide +kernel
theorem dX10_all_15 : decode mX10_all.2.1 15 = .ok (.iload_n 3, 1) := by decide +kernel
theorem dX10_all_16 : decode mX10_all.2.1 16 = .ok (.iload_n 1, 1) := by decide +kernel
theorem dX10_all_17 : decode mX10_all.2.1 17 = .ok (.if_icmp .lt 5, 3) := by decide +kernel
theorem dX10_all_20 : decode mX10_all.2.1 20 = .ok (.iconst (-1), 1) := by decide +kernel
theorem dX10_all_21 : decode mX10_all.2.1 21 = .ok (.ireturn, 1) := by decide +kernel
theorem dX10_all_22 : decode mX10_all.2.1 22 = .ok (.aload_n 0, 1) := by decide +kernel
theorem dX10_all_23 : decode mX10_all.2.1 23 = .ok (.iload_n 1, 1) := by decide +kernel
theorem dX10_all_24 : decode mX10_all.2.1 24 = .ok (.invokevirtual 199, 3) := by decide +kernel
theorem dX10_all_27 : decode mX10_all.2.1 27 = .ok (.astore 4, 2) := by decide +kernel
theorem dX10_all_29 : decode mX10_all.2.1 29 = .ok (.iload_n 3, 1) := by decide +kernel
theorem dX10_all_30 : decode mX10_all.2.1 30 = .ok (.iconst (-1), 1) := by decide +kernel
theorem dX10_all_31 : decode mX10_all.2.1 31 = .ok (.if_icmp .ne 9, 3) := by decide +kernel
theorem dX10_all_34 : decode mX10_all.2.1 34 = .ok (.aload 4, 2) := by decide +kernel
theorem dX10_all_36 : decode mX10_all.2.1 36 = .ok (.getfield 225, 3) := by decide +kernel
theorem dX10_all_39 : decode mX10_all.2.1 39 = .ok (.ireturn, 1) := by decide +kernel
theorem dX10_all_40 : decode mX10_all.2.1 40 = .ok (.iload_n 2, 1) := by decide +kernel
theorem dX10_all_41 : decode mX10_all.2.1 41 = .ok (.ifCond .lt 12, 3) := by decide +kernel
theorem dX10_all_44 : decode mX10_all.2.1 44 = .ok (.iload_n 2, 1) := by decide +kernel
theorem dX10_all_45 : decode mX10_all.2.1 45 = .ok (.aload 4, 2) := by decide +kernel
theorem dX10_all_47 : decode mX10_all.2.1 47 = .ok (.getfield 225, 3) := by decide +kernel
theorem dX10_all_50 : decode mX10_all.2.1 50 = .ok (.if_icmp .lt 6, 3) := by decide +kernel
theorem dX10_all_53 : decode mX10_all.2.1 53 = .ok (.bipush (-5), 2) := by decide +kernel
theorem dX10_all_55 : decode mX10_all.2.1 55 = .ok (.ireturn, 1) := by decide +kernel
theorem dX10_all_56 : decode mX10_all.2.1 56 = .ok (.aload 4, 2) := by decide +kernel
theorem dX10_all_58 : decode mX10_all.2.1 58 = .ok (.getfield 226, 3) := by decide +kernel
theorem dX10_all_61 : decode mX10_all.2.1 61 = .ok (.iload_n 2, 1) := by decide +kernel
theorem dX10_all_62 : decode mX10_all.2.1 62 = .ok (.iaload, 1) := by decide +kernel
theorem dX10_all_63 : decode mX10_all.2.1 63 = .ok (.iload_n 1, 1) := by decide +kernel
theorem dX10_all_64 : decode mX10_all.2.1 64 = .ok (.iconst 1, 1) := by decide +kernel
theorem dX10_all_65 : decode mX10_all.2.1 65 = .ok (.isub, 1) := by decide +kernel
theorem dX10_all_66 : decode mX10_all.2.1 66 = .ok (.iload_n 3, 1) := by decide +kernel
theorem dX10_all_67 : decode mX10_all.2.1 67 = .ok (.isub, 1) := by decide +kernel
theorem dX10_all_68 : decode mX10_all.2.1 68 = .ok (.invokestatic 229, 3) := by decide +kernel
theorem dX10_all_71 : decode mX10_all.2.1 71 = .ok (.ireturn, 1) := by decide +kernel
def mX10_like : String × ByteArray × Nat := (RX10, cX10_like, 6)
theorem dX10_like_0 : decode mX10_like.2.1 0 = .ok (.iload_n 1, 1) := by decide +kernel
theorem dX10_like_1 : decode mX10_like.2.1 1 = .ok (.invokestatic 66, 3) := by decide +kernel
theorem dX10_like_4 : decode mX10_like.2.1 4 = .ok (.ifCond .eq 12, 3) := by decide +kernel
theorem dX10_like_7 : decode mX10_like.2.1 7 = .ok (.iload_n 2, 1) := by decide +kernel
theorem dX10_like_8 : decode mX10_like.2.1 8 = .ok (.ifCond .lt 8, 3) := by decide +kernel
theorem dX10_like_11 : decode mX10_like.2.1 11 = .ok (.iload_n 2, 1) := by decide +kernel
theorem dX10_like_12 : decode mX10_like.2.1 12 = .ok (.iconst 1, 1) := by decide +kernel
theorem dX10_like_13 : decode mX10_like.2.1 13 = .ok (.if_icmp .le 5, 3) := by decide +kernel
theorem dX10_like_16 : decode mX10_like.2.1 16 = .ok (.iconst (-1), 1) := by decide +kernel
theorem dX10_like_17 : decode mX10_like.2.1 17 = .ok (.ireturn, 1) := by decide +kernel
theorem dX10_like_18 : decode mX10_like.2.1 18 = .ok (.aload_n 0, 1) := by decide +kernel
theorem dX10_like_19 : decode mX10_like.2.1 19 = .ok (.getfield 12, 3) := by decide +kernel
theorem dX10_like_22 : decode mX10_like.2.1 22 = .ok (.getfield 143, 3) := by decide +kernel
theorem dX10_like_25 : decode mX10_like.2.1 25 = .ok (.iload_n 1, 1) := by decide +kernel
theorem dX10_like_26 : decode mX10_like.2.1 26 = .ok (.aaload, 1) := by decide +kernel
theorem dX10_like_27 : decode mX10_like.2.1 27 = .ok (.astore_n 3, 1) := by decide +kernel
theorem dX10_like_28 : decode mX10_like.2.1 28 = .ok (.aload_n 0, 1) := by decide +kernel
theorem dX10_like_29 : decode mX10_like.2.1 29 = .ok (.aload_n 3, 1) := by decide +kernel
theorem dX10_like_30 : decode mX10_like.2.1 30 = .ok (.getfield 147, 3) := by decide +kernel
theorem dX10_like_33 : decode mX10_like.2.1 33 = .ok (.invokevirtual 199, 3) := by decide +kernel
theorem dX10_like_36 : decode mX10_like.2.1 36 = .ok (.astore 4, 2) := by decide +kernel
theorem dX10_like_38 : decode mX10_like.2.1 38 = .ok (.aload 4, 2) := by decide +kernel
theorem dX10_like_40 : decode mX10_like.2.1 40 = .ok (.aload_n 0, 1) := by decide +kernel
theorem dX10_like_41 : decode mX10_like.2.1 41 = .ok (.getfield 52, 3) := by decide +kernel
theorem dX10_like_44 : decode mX10_like.2.1 44 = .ok (.aload_n 3, 1) := by decide +kernel
theorem dX10_like_45 : decode mX10_like.2.1 45 = .ok (.invokevirtual 210, 3) := by decide +kernel
theorem dX10_like_48 : decode mX10_like.2.1 48 = .ok (.invokestatic 232, 3) := by decide +kernel
theorem dX10_like_51 : decode mX10_like.2.1 51 = .ok (.invokevirtual 236, 3) := by decide +kernel
theorem dX10_like_54 : decode mX10_like.2.1 54 = .ok (.istore 5, 2) := by decide +kernel
theorem dX10_like_56 : decode mX10_like.2.1 56 = .ok (.iload 5, 2) := by decide +kernel
theorem dX10_like_58 : decode mX10_like.2.1 58 = .ok (.ifCond .ge 14, 3) := by decide +kernel
theorem dX10_like_61 : decode mX10_like.2.1 61 = .ok (.iload_n 2, 1) := by decide +kernel
theorem dX10_like_62 : decode mX10_like.2.1 62 = .ok (.ifCond .ne 7, 3) := by decide +kernel
theorem dX10_like_65 : decode mX10_like.2.1 65 = .ok (.iconst 0, 1) := by decide +kernel
theorem dX10_like_66 : decode mX10_like.2.1 66 = .ok (.goto 5, 3) := by decide +kernel
theorem dX10_like_69 : decode mX10_like.2.1 69 = .ok (.bipush (-5), 2) := by decide +kernel
theorem dX10_like_71 : decode mX10_like.2.1 71 = .ok (.ireturn, 1) := by decide +kernel
theorem dX10_like_72 : decode mX10_like.2.1 72 = .ok (.iload_n 2, 1) := by decide +kernel
theorem dX10_like_73 : decode mX10_like.2.1 73 = .ok (.ifCond .ne 14, 3) := by decide +kernel
theorem dX10_like_76 : decode mX10_like.2.1 76 = .ok (.aload 4, 2) := by decide +kernel
theorem dX10_like_78 : decode mX10_like.2.1 78 = .ok (.getfield 240, 3) := by decide +kernel
theorem dX10_like_81 : decode mX10_like.2.1 81 = .ok (.iload 5, 2) := by decide +kernel
theorem dX10_like_83 : decode mX10_like.2.1 83 = .ok (.iaload, 1) := by decide +kernel
theorem dX10_like_84 : decode mX10_like.2.1 84 = .ok (.goto 11, 3) := by decide +kernel
theorem dX10_like_87 : decode mX10_like.2.1 87 = .ok (.aload 4, 2) := by decide +kernel
theorem dX10_like_89 : decode mX10_like.2.1 89 = .ok (.getfield 243, 3) := by decide +kernel
theorem dX10_like_92 : decode mX10_like.2.1 92 = .ok (.iload 5, 2) := by decide +kernel
theorem dX10_like_94 : decode mX10_like.2.1 94 = .ok (.iaload, 1) := by decide +kernel
theorem dX10_like_95 : decode mX10_like.2.1 95 = .ok (.ireturn, 1) := by decide +kernel
def mX10_classes : String × ByteArray × Nat := (RX10, cX10_classes, 5)
theorem dX10_classes_0 : decode mX10_classes.2.1 0 = .ok (.iload_n 1, 1) := by decide +kernel
theorem dX10_classes_1 : decode mX10_classes.2.1 1 = .ok (.invokestatic 140, 3) := by decide +kernel
theorem dX10_classes_4 : decode mX10_classes.2.1 4 = .ok (.ifCond .ne 6, 3) := by decide +kernel
theorem dX10_classes_7 : decode mX10_classes.2.1 7 = .ok (.bipush (-2), 2) := by decide +kernel
theorem dX10_classes_9 : decode mX10_classes.2.1 9 = .ok (.ireturn, 1) := by decide +kernel
theorem dX10_classes_10 : decode mX10_classes.2.1 10 = .ok (.iload_n 2, 1) := by decide +kernel
theorem dX10_classes_11 : decode mX10_classes.2.1 11 = .ok (.iconst (-1), 1) := by decide +kernel
theorem dX10_classes_12 : decode mX10_classes.2.1 12 = .ok (.if_icmp .lt 12, 3) := by decide +kernel
theorem dX10_classes_15 : decode mX10_classes.2.1 15 = .ok (.iload_n 3, 1) := by decide +kernel
theorem dX10_classes_16 : decode mX10_classes.2.1 16 = .ok (.ifCond .lt 8, 3) := by decide +kernel
theorem dX10_classes_19 : decode mX10_classes.2.1 19 = .ok (.iload_n 3, 1) := by decide +kernel
theorem dX10_classes_20 : decode mX10_classes.2.1 20 = .ok (.iconst 1, 1) := by decide +kernel
theorem dX10_classes_21 : decode mX10_classes.2.1 21 = .ok (.if_icmp .le 5, 3) := by decide +kernel
theorem dX10_classes_24 : decode mX10_classes.2.1 24 = .ok (.iconst (-1), 1) := by decide +kernel
theorem dX10_classes_25 : decode mX10_classes.2.1 25 = .ok (.ireturn, 1) := by decide +kernel
theorem dX10_classes_26 : decode mX10_classes.2.1 26 = .ok (.aload_n 0, 1) := by decide +kernel
theorem dX10_classes_27 : decode mX10_classes.2.1 27 = .ok (.iload_n 1, 1) := by decide +kernel
theorem dX10_classes_28 : decode mX10_classes.2.1 28 = .ok (.invokevirtual 199, 3) := by decide +kernel
theorem dX10_classes_31 : decode mX10_classes.2.1 31 = .ok (.astore 4, 2) := by decide +kernel
theorem dX10_classes_33 : decode mX10_classes.2.1 33 = .ok (.iload_n 2, 1) := by decide +kernel
theorem dX10_classes_34 : decode mX10_classes.2.1 34 = .ok (.iconst (-1), 1) := by decide +kernel
theorem dX10_classes_35 : decode mX10_classes.2.1 35 = .ok (.if_icmp .ne 21, 3) := by decide +kernel
theorem dX10_classes_38 : decode mX10_classes.2.1 38 = .ok (.iload_n 3, 1) := by decide +kernel
theorem dX10_classes_39 : decode mX10_classes.2.1 39 = .ok (.ifCond .ne 11, 3) := by decide +kernel
theorem dX10_classes_42 : decode mX10_classes.2.1 42 = .ok (.aload 4, 2) := by decide +kernel
theorem dX10_classes_44 : decode mX10_classes.2.1 44 = .ok (.getfield 246, 3) := by decide +kernel
theorem dX10_classes_47 : decode mX10_classes.2.1 47 = .ok (.goto 8, 3) := by decide +kernel
theorem dX10_classes_50 : decode mX10_classes.2.1 50 = .ok (.aload 4, 2) := by decide +kernel
theorem dX10_classes_52 : decode mX10_classes.2.1 52 = .ok (.invokevirtual 249, 3) := by decide +kernel
theorem dX10_classes_55 : decode mX10_classes.2.1 55 = .ok (.ireturn, 1) := by decide +kernel
theorem dX10_classes_56 : decode mX10_classes.2.1 56 = .ok (.iload_n 2, 1) := by decide +kernel
theorem dX10_classes_57 : decode mX10_classes.2.1 57 = .ok (.aload 4, 2) := by decide +kernel
theorem dX10_classes_59 : decode mX10_classes.2.1 59 = .ok (.getfield 246, 3) := by decide +kernel
theorem dX10_classes_62 : decode mX10_classes.2.1 62 = .ok (.if_icmp .lt 6, 3) := by decide +kernel
theorem dX10_classes_65 : decode mX10_classes.2.1 65 = .ok (.bipush (-5), 2) := by decide +kernel
theorem dX10_classes_67 : decode mX10_classes.2.1 67 = .ok (.ireturn, 1) := by decide +kernel
theorem dX10_classes_68 : decode mX10_classes.2.1 68 = .ok (.iload_n 3, 1) := by decide +kernel
theorem dX10_classes_69 : decode mX10_classes.2.1 69 = .ok (.ifCond .ne 13, 3) := by decide +kernel
theorem dX10_classes_72 : decode mX10_classes.2.1 72 = .ok (.aload 4, 2) := by decide +kernel
theorem dX10_classes_74 : decode mX10_classes.2.1 74 = .ok (.getfield 240, 3) := by decide +kernel
theorem dX10_classes_77 : decode mX10_classes.2.1 77 = .ok (.iload_n 2, 1) := by decide +kernel
theorem dX10_classes_78 : decode mX10_classes.2.1 78 = .ok (.iaload, 1) := by decide +kernel
theorem dX10_classes_79 : decode mX10_classes.2.1 79 = .ok (.goto 10, 3) := by decide +kernel
theorem dX10_classes_82 : decode mX10_classes.2.1 82 = .ok (.aload 4, 2) := by decide +kernel
theorem dX10_classes_84 : decode mX10_classes.2.1 84 = .ok (.getfield 243, 3) := by decide +kernel
theorem dX10_classes_87 : decode mX10_classes.2.1 87 = .ok (.iload_n 2, 1) := by decide +kernel
theorem dX10_classes_88 : decode mX10_classes.2.1 88 = .ok (.iaload, 1) := by decide +kernel
theorem dX10_classes_89 : decode mX10_classes.2.1 89 = .ok (.ireturn, 1) := by decide +kernel
def mX10_see : String × ByteArray × Nat := (RX10, cX10_see, 3)
theorem dX10_see_0 : decode mX10_see.2.1 0 = .ok (.iload_n 1, 1) := by decide +kernel
theorem dX10_see_1 : decode mX10_see.2.1 1 = .ok (.iconst (-1), 1) := by decide +kernel
theorem dX10_see_2 : decode mX10_see.2.1 2 = .ok (.if_icmp .lt 9, 3) := by decide +kernel
theorem dX10_see_5 : decode mX10_see.2.1 5 = .ok (.iload_n 1, 1) := by decide +kernel
theorem dX10_see_6 : decode mX10_see.2.1 6 = .ok (.bipush 6, 2) := by decide +kernel
theorem dX10_see_8 : decode mX10_see.2.1 8 = .ok (.if_icmp .le 5, 3) := by decide +kernel
theorem dX10_see_11 : decode mX10_see.2.1 11 = .ok (.iconst (-1), 1) := by decide +kernel
theorem dX10_see_12 : decode mX10_see.2.1 12 = .ok (.ireturn, 1) := by decide +kernel
theorem dX10_see_13 : decode mX10_see.2.1 13 = .ok (.iload_n 1, 1) := by decide +kernel
theorem dX10_see_14 : decode mX10_see.2.1 14 = .ok (.iconst (-1), 1) := by decide +kernel
theorem dX10_see_15 : decode mX10_see.2.1 15 = .ok (.if_icmp .ne 13, 3) := by decide +kernel
theorem dX10_see_18 : decode mX10_see.2.1 18 = .ok (.aload_n 0, 1) := by decide +kernel
theorem dX10_see_19 : decode mX10_see.2.1 19 = .ok (.getfield 12, 3) := by decide +kernel
theorem dX10_see_22 : decode mX10_see.2.1 22 = .ok (.iconst 0, 1) := by decide +kernel
theorem dX10_see_23 : decode mX10_see.2.1 23 = .ok (.putfield 252, 3) := by decide +kernel
theorem dX10_see_26 : decode mX10_see.2.1 26 = .ok (.iconst 0, 1) := by decide +kernel
theorem dX10_see_27 : decode mX10_see.2.1 27 = .ok (.ireturn, 1) := by decide +kernel
theorem dX10_see_28 : decode mX10_see.2.1 28 = .ok (.iload_n 2, 1) := by decide +kernel
theorem dX10_see_29 : decode mX10_see.2.1 29 = .ok (.ifCond .lt 10, 3) := by decide +kernel
theorem dX10_see_32 : decode mX10_see.2.1 32 = .ok (.iload_n 2, 1) := by decide +kernel
theorem dX10_see_33 : decode mX10_see.2.1 33 = .ok (.sipush 9999, 3) := by decide +kernel
theorem dX10_see_36 : decode mX10_see.2.1 36 = .ok (.if_icmp .le 6, 3) := by decide +kernel
theorem dX10_see_39 : decode mX10_see.2.1 39 = .ok (.bipush (-2), 2) := by decide +kernel
theorem dX10_see_41 : decode mX10_see.2.1 41 = .ok (.ireturn, 1) := by decide +kernel
theorem dX10_see_42 : decode mX10_see.2.1 42 = .ok (.aload_n 0, 1) := by decide +kernel
theorem dX10_see_43 : decode mX10_see.2.1 43 = .ok (.getfield 12, 3) := by decide +kernel
theorem dX10_see_46 : decode mX10_see.2.1 46 = .ok (.getfield 252, 3) := by decide +kernel
theorem dX10_see_49 : decode mX10_see.2.1 49 = .ok (.iconst 4, 1) := by decide +kernel
theorem dX10_see_50 : decode mX10_see.2.1 50 = .ok (.if_icmp .lt 6, 3) := by decide +kernel
theorem dX10_see_53 : decode mX10_see.2.1 53 = .ok (.bipush (-4), 2) := by decide +kernel
theorem dX10_see_55 : decode mX10_see.2.1 55 = .ok (.ireturn, 1) := by decide +kernel
theorem dX10_see_56 : decode mX10_see.2.1 56 = .ok (.aload_n 0, 1) := by decide +kernel
theorem dX10_see_57 : decode mX10_see.2.1 57 = .ok (.getfield 12, 3) := by decide +kernel
theorem dX10_see_60 : decode mX10_see.2.1 60 = .ok (.getfield 255, 3) := by decide +kernel
theorem dX10_see_63 : decode mX10_see.2.1 63 = .ok (.aload_n 0, 1) := by decide +kernel
theorem dX10_see_64 : decode mX10_see.2.1 64 = .ok (.getfield 12, 3) := by decide +kernel
theorem dX10_see_67 : decode mX10_see.2.1 67 = .ok (.getfield 252, 3) := by decide +kernel
theorem dX10_see_70 : decode mX10_see.2.1 70 = .ok (.iload_n 1, 1) := by decide +kernel
theorem dX10_see_71 : decode mX10_see.2.1 71 = .ok (.iastore, 1) := by decide +kernel
theorem dX10_see_72 : decode mX10_see.2.1 72 = .ok (.aload_n 0, 1) := by decide +kernel
theorem dX10_see_73 : decode mX10_see.2.1 73 = .ok (.getfield 12, 3) := by decide +kernel
theorem dX10_see_76 : decode mX10_see.2.1 76 = .ok (.getfield 258, 3) := by decide +kernel
theorem dX10_see_79 : decode mX10_see.2.1 79 = .ok (.aload_n 0, 1) := by decide +kernel
theorem dX10_see_80 : decode mX10_see.2.1 80 = .ok (.getfield 12, 3) := by decide +kernel
theorem dX10_see_83 : decode mX10_see.2.1 83 = .ok (.getfield 252, 3) := by decide +kernel
theorem dX10_see_86 : decode mX10_see.2.1 86 = .ok (.iload_n 2, 1) := by decide +kernel
theorem dX10_see_87 : decode mX10_see.2.1 87 = .ok (.iastore, 1) := by decide +kernel
theorem dX10_see_88 : decode mX10_see.2.1 88 = .ok (.aload_n 0, 1) := by decide +kernel
theorem dX10_see_89 : decode mX10_see.2.1 89 = .ok (.getfield 12, 3) := by decide +kernel
theorem dX10_see_92 : decode mX10_see.2.1 92 = .ok (.dup, 1) := by decide +kernel
theorem dX10_see_93 : decode mX10_see.2.1 93 = .ok (.getfield 252, 3) := by decide +kernel
theorem dX10_see_96 : decode mX10_see.2.1 96 = .ok (.iconst 1, 1) := by decide +kernel
theorem dX10_see_97 : decode mX10_see.2.1 97 = .ok (.iadd, 1) := by decide +kernel
theorem dX10_see_98 : decode mX10_see.2.1 98 = .ok (.putfield 252, 3) := by decide +kernel
theorem dX10_see_101 : decode mX10_see.2.1 101 = .ok (.aload_n 0, 1) := by decide +kernel
theorem dX10_see_102 : decode mX10_see.2.1 102 = .ok (.getfield 12, 3) := by decide +kernel
theorem dX10_see_105 : decode mX10_see.2.1 105 = .ok (.getfield 252, 3) := by decide +kernel
theorem dX10_see_108 : decode mX10_see.2.1 108 = .ok (.ireturn, 1) := by decide +kernel
def mX10_fits : String × ByteArray × Nat := (RX10, cX10_fits, 7)
theorem dX10_fits_0 : decode mX10_fits.2.1 0 = .ok (.iload_n 1, 1) := by decide +kernel
theorem dX10_fits_1 : decode mX10_fits.2.1 1 = .ok (.invokestatic 140, 3) := by decide +kernel
theorem dX10_fits_4 : decode mX10_fits.2.1 4 = .ok (.ifCond .ne 6, 3) := by decide +kernel
theorem dX10_fits_7 : decode mX10_fits.2.1 7 = .ok (.bipush (-2), 2) := by decide +kernel
theorem dX10_fits_9 : decode mX10_fits.2.1 9 = .ok (.ireturn, 1) := by decide +kernel
theorem dX10_fits_10 : decode mX10_fits.2.1 10 = .ok (.iload_n 2, 1) := by decide +kernel
theorem dX10_fits_11 : decode mX10_fits.2.1 11 = .ok (.ifCond .lt 8, 3) := by decide +kernel
theorem dX10_fits_14 : decode mX10_fits.2.1 14 = .ok (.iload_n 2, 1) := by decide +kernel
theorem dX10_fits_15 : decode mX10_fits.2.1 15 = .ok (.iconst 1, 1) := by decide +kernel
theorem dX10_fits_16 : decode mX10_fits.2.1 16 = .ok (.if_icmp .le 5, 3) := by decide +kernel
theorem dX10_fits_19 : decode mX10_fits.2.1 19 = .ok (.iconst (-1), 1) := by decide +kernel
theorem dX10_fits_20 : decode mX10_fits.2.1 20 = .ok (.ireturn, 1) := by decide +kernel
theorem dX10_fits_21 : decode mX10_fits.2.1 21 = .ok (.aload_n 0, 1) := by decide +kernel
theorem dX10_fits_22 : decode mX10_fits.2.1 22 = .ok (.iload_n 1, 1) := by decide +kernel
theorem dX10_fits_23 : decode mX10_fits.2.1 23 = .ok (.invokevirtual 199, 3) := by decide +kernel
theorem dX10_fits_26 : decode mX10_fits.2.1 26 = .ok (.astore_n 3, 1) := by decide +kernel
theorem dX10_fits_27 : decode mX10_fits.2.1 27 = .ok (.iconst 0, 1) := by decide +kernel
theorem dX10_fits_28 : decode mX10_fits.2.1 28 = .ok (.istore 4, 2) := by decide +kernel
theorem dX10_fits_30 : decode mX10_fits.2.1 30 = .ok (.bipush (-5), 2) := by decide +kernel
theorem dX10_fits_32 : decode mX10_fits.2.1 32 = .ok (.istore 5, 2) := by decide +kernel
theorem dX10_fits_34 : decode mX10_fits.2.1 34 = .ok (.aload_n 3, 1) := by decide +kernel
theorem dX10_fits_35 : decode mX10_fits.2.1 35 = .ok (.getfield 225, 3) := by decide +kernel
theorem dX10_fits_38 : decode mX10_fits.2.1 38 = .ok (.iconst 1, 1) := by decide +kernel
theorem dX10_fits_39 : decode mX10_fits.2.1 39 = .ok (.isub, 1) := by decide +kernel
theorem dX10_fits_40 : decode mX10_fits.2.1 40 = .ok (.istore 6, 2) := by decide +kernel
theorem dX10_fits_42 : decode mX10_fits.2.1 42 = .ok (.iload 6, 2) := by decide +kernel
theorem dX10_fits_44 : decode mX10_fits.2.1 44 = .ok (.ifCond .lt 33, 3) := by decide +kernel
theorem dX10_fits_47 : decode mX10_fits.2.1 47 = .ok (.aload_n 0, 1) := by decide +kernel
theorem dX10_fits_48 : decode mX10_fits.2.1 48 = .ok (.getfield 12, 3) := by decide +kernel
theorem dX10_fits_51 : decode mX10_fits.2.1 51 = .ok (.aload_n 3, 1) := by decide +kernel
theorem dX10_fits_52 : decode mX10_fits.2.1 52 = .ok (.getfield 261, 3) := by decide +kernel
theorem dX10_fits_55 : decode mX10_fits.2.1 55 = .ok (.iload 6, 2) := by decide +kernel
theorem dX10_fits_57 : decode mX10_fits.2.1 57 = .ok (.laload, 1) := by decide +kernel
theorem dX10_fits_58 : decode mX10_fits.2.1 58 = .ok (.invokevirtual 264, 3) := by decide +kernel
theorem dX10_fits_61 : decode mX10_fits.2.1 61 = .ok (.ifCond .eq 10, 3) := by decide +kernel
theorem dX10_fits_64 : decode mX10_fits.2.1 64 = .ok (.iinc 4 1, 3) := by decide +kernel
theorem dX10_fits_67 : decode mX10_fits.2.1 67 = .ok (.iload 6, 2) := by decide +kernel
theorem dX10_fits_69 : decode mX10_fits.2.1 69 = .ok (.istore 5, 2) := by decide +kernel
theorem dX10_fits_71 : decode mX10_fits.2.1 71 = .ok (.iinc 6 (-1), 3) := by decide +kernel
theorem dX10_fits_74 : decode mX10_fits.2.1 74 = .ok (.goto (-32), 3) := by decide +kernel
theorem dX10_fits_77 : decode mX10_fits.2.1 77 = .ok (.iload_n 2, 1) := by decide +kernel
theorem dX10_fits_78 : decode mX10_fits.2.1 78 = .ok (.ifCond .ne 8, 3) := by decide +kernel
theorem dX10_fits_81 : decode mX10_fits.2.1 81 = .ok (.iload 4, 2) := by decide +kernel
theorem dX10_fits_83 : decode mX10_fits.2.1 83 = .ok (.goto 5, 3) := by decide +kernel
theorem dX10_fits_86 : decode mX10_fits.2.1 86 = .ok (.iload 5, 2) := by decide +kernel
theorem dX10_fits_88 : decode mX10_fits.2.1 88 = .ok (.ireturn, 1) := by decide +kernel
def mX10_weight : String × ByteArray × Nat := (RX10, cX10_weight, 6)
theorem dX10_weight_0 : decode mX10_weight.2.1 0 = .ok (.iload_n 1, 1) := by decide +kernel
theorem dX10_weight_1 : decode mX10_weight.2.1 1 = .ok (.ifCond .lt 19, 3) := by decide +kernel
theorem dX10_weight_4 : decode mX10_weight.2.1 4 = .ok (.iload_n 1, 1) := by decide +kernel
theorem dX10_weight_5 : decode mX10_weight.2.1 5 = .ok (.bipush 6, 2) := by decide +kernel
theorem dX10_weight_7 : decode mX10_weight.2.1 7 = .ok (.if_icmp .ge 13, 3) := by decide +kernel
theorem dX10_weight_10 : decode mX10_weight.2.1 10 = .ok (.iload_n 2, 1) := by decide +kernel
theorem dX10_weight_11 : decode mX10_weight.2.1 11 = .ok (.ifCond .lt 9, 3) := by decide +kernel
theorem dX10_weight_14 : decode mX10_weight.2.1 14 = .ok (.iload_n 2, 1) := by decide +kernel
theorem dX10_weight_15 : decode mX10_weight.2.1 15 = .ok (.bipush 6, 2) := by decide +kernel
theorem dX10_weight_17 : decode mX10_weight.2.1 17 = .ok (.if_icmp .lt 5, 3) := by decide +kernel
theorem dX10_weight_20 : decode mX10_weight.2.1 20 = .ok (.iconst (-1), 1) := by decide +kernel
theorem dX10_weight_21 : decode mX10_weight.2.1 21 = .ok (.ireturn, 1) := by decide +kernel
theorem dX10_weight_22 : decode mX10_weight.2.1 22 = .ok (.iload_n 3, 1) := by decide +kernel
theorem dX10_weight_23 : decode mX10_weight.2.1 23 = .ok (.ifCond .lt 9, 3) := by decide +kernel
theorem dX10_weight_26 : decode mX10_weight.2.1 26 = .ok (.iload_n 3, 1) := by decide +kernel
theorem dX10_weight_27 : decode mX10_weight.2.1 27 = .ok (.bipush 9, 2) := by decide +kernel
theorem dX10_weight_29 : decode mX10_weight.2.1 29 = .ok (.if_icmp .le 6, 3) := by decide +kernel
theorem dX10_weight_32 : decode mX10_weight.2.1 32 = .ok (.bipush (-2), 2) := by decide +kernel
theorem dX10_weight_34 : decode mX10_weight.2.1 34 = .ok (.ireturn, 1) := by decide +kernel
theorem dX10_weight_35 : decode mX10_weight.2.1 35 = .ok (.iload_n 1, 1) := by decide +kernel
theorem dX10_weight_36 : decode mX10_weight.2.1 36 = .ok (.bipush 6, 2) := by decide +kernel
theorem dX10_weight_38 : decode mX10_weight.2.1 38 = .ok (.imul, 1) := by decide +kernel
theorem dX10_weight_39 : decode mX10_weight.2.1 39 = .ok (.iload_n 2, 1) := by decide +kernel
theorem dX10_weight_40 : decode mX10_weight.2.1 40 = .ok (.iadd, 1) := by decide +kernel
theorem dX10_weight_41 : decode mX10_weight.2.1 41 = .ok (.istore 4, 2) := by decide +kernel
theorem dX10_weight_43 : decode mX10_weight.2.1 43 = .ok (.aload_n 0, 1) := by decide +kernel
theorem dX10_weight_44 : decode mX10_weight.2.1 44 = .ok (.getfield 12, 3) := by decide +kernel
theorem dX10_weight_47 : decode mX10_weight.2.1 47 = .ok (.getfield 268, 3) := by decide +kernel
theorem dX10_weight_50 : decode mX10_weight.2.1 50 = .ok (.iload 4, 2) := by decide +kernel
theorem dX10_weight_52 : decode mX10_weight.2.1 52 = .ok (.iaload, 1) := by decide +kernel
theorem dX10_weight_53 : decode mX10_weight.2.1 53 = .ok (.istore 5, 2) := by decide +kernel
theorem dX10_weight_55 : decode mX10_weight.2.1 55 = .ok (.iload 5, 2) := by decide +kernel
theorem dX10_weight_57 : decode mX10_weight.2.1 57 = .ok (.iload_n 3, 1) := by decide +kernel
theorem dX10_weight_58 : decode mX10_weight.2.1 58 = .ok (.if_icmp .eq 26, 3) := by decide +kernel
theorem dX10_weight_61 : decode mX10_weight.2.1 61 = .ok (.aload_n 0, 1) := by decide +kernel
theorem dX10_weight_62 : decode mX10_weight.2.1 62 = .ok (.getfield 12, 3) := by decide +kernel
theorem dX10_weight_65 : decode mX10_weight.2.1 65 = .ok (.getfield 268, 3) := by decide +kernel
theorem dX10_weight_68 : decode mX10_weight.2.1 68 = .ok (.iload 4, 2) := by decide +kernel
theorem dX10_weight_70 : decode mX10_weight.2.1 70 = .ok (.iload_n 3, 1) := by decide +kernel
theorem dX10_weight_71 : decode mX10_weight.2.1 71 = .ok (.iastore, 1) := by decide +kernel
theorem dX10_weight_72 : decode mX10_weight.2.1 72 = .ok (.aload_n 0, 1) := by decide +kernel
theorem dX10_weight_73 : decode mX10_weight.2.1 73 = .ok (.getfield 24, 3) := by decide +kernel
theorem dX10_weight_76 : decode mX10_weight.2.1 76 = .ok (.iconst (-1), 1) := by decide +kernel
theorem dX10_weight_77 : decode mX10_weight.2.1 77 = .ok (.iload_n 1, 1) := by decide +kernel
theorem dX10_weight_78 : decode mX10_weight.2.1 78 = .ok (.iload_n 2, 1) := by decide +kernel
theorem dX10_weight_79 : decode mX10_weight.2.1 79 = .ok (.iload 5, 2) := by decide +kernel
theorem dX10_weight_81 : decode mX10_weight.2.1 81 = .ok (.invokevirtual 166, 3) := by decide +kernel
theorem dX10_weight_84 : decode mX10_weight.2.1 84 = .ok (.iload 5, 2) := by decide +kernel
theorem dX10_weight_86 : decode mX10_weight.2.1 86 = .ok (.ireturn, 1) := by decide +kernel
def mX10_cheapest : String × ByteArray × Nat := (RX10, cX10_cheapest, 5)
theorem dX10_cheapest_0 : decode mX10_cheapest.2.1 0 = .ok (.iload_n 1, 1) := by decide +kernel
theorem dX10_cheapest_1 : decode mX10_cheapest.2.1 1 = .ok (.invokestatic 66, 3) := by decide +kernel
theorem dX10_cheapest_4 : decode mX10_cheapest.2.1 4 = .ok (.ifCond .eq 24, 3) := by decide +kernel
theorem dX10_cheapest_7 : decode mX10_cheapest.2.1 7 = .ok (.iload_n 3, 1) := by decide +kernel
theorem dX10_cheapest_8 : decode mX10_cheapest.2.1 8 = .ok (.iconst (-1), 1) := by decide +kernel
theorem dX10_cheapest_9 : decode mX10_cheapest.2.1 9 = .ok (.if_icmp .lt 19, 3) := by decide +kernel
theorem dX10_cheapest_12 : decode mX10_cheapest.2.1 12 = .ok (.iload_n 3, 1) := by decide +kernel
theorem dX10_cheapest_13 : decode mX10_cheapest.2.1 13 = .ok (.aload_n 0, 1) := by decide +kernel
theorem dX10_cheapest_14 : decode mX10_cheapest.2.1 14 = .ok (.getfield 12, 3) := by decide +kernel
theorem dX10_cheapest_17 : decode mX10_cheapest.2.1 17 = .ok (.getfield 143, 3) := by decide +kernel
theorem dX10_cheapest_20 : decode mX10_cheapest.2.1 20 = .ok (.iload_n 1, 1) := by decide +kernel
theorem dX10_cheapest_21 : decode mX10_cheapest.2.1 21 = .ok (.aaload, 1) := by decide +kernel
theorem dX10_cheapest_22 : decode mX10_cheapest.2.1 22 = .ok (.getfield 147, 3) := by decide +kernel
theorem dX10_cheapest_25 : decode mX10_cheapest.2.1 25 = .ok (.if_icmp .lt 5, 3) := by decide +kernel
theorem dX10_cheapest_28 : decode mX10_cheapest.2.1 28 = .ok (.iconst (-1), 1) := by decide +kernel
theorem dX10_cheapest_29 : decode mX10_cheapest.2.1 29 = .ok (.ireturn, 1) := by decide +kernel
theorem dX10_cheapest_30 : decode mX10_cheapest.2.1 30 = .ok (.iload_n 2, 1) := by decide +kernel
theorem dX10_cheapest_31 : decode mX10_cheapest.2.1 31 = .ok (.ifCond .ge 6, 3) := by decide +kernel
theorem dX10_cheapest_34 : decode mX10_cheapest.2.1 34 = .ok (.bipush (-2), 2) := by decide +kernel
theorem dX10_cheapest_36 : decode mX10_cheapest.2.1 36 = .ok (.ireturn, 1) := by decide +kernel
theorem dX10_cheapest_37 : decode mX10_cheapest.2.1 37 = .ok (.aload_n 0, 1) := by decide +kernel
theorem dX10_cheapest_38 : decode mX10_cheapest.2.1 38 = .ok (.getfield 52, 3) := by decide +kernel
theorem dX10_cheapest_41 : decode mX10_cheapest.2.1 41 = .ok (.aload_n 0, 1) := by decide +kernel
theorem dX10_cheapest_42 : decode mX10_cheapest.2.1 42 = .ok (.getfield 12, 3) := by decide +kernel
theorem dX10_cheapest_45 : decode mX10_cheapest.2.1 45 = .ok (.getfield 143, 3) := by decide +kernel
theorem dX10_cheapest_48 : decode mX10_cheapest.2.1 48 = .ok (.iload_n 1, 1) := by decide +kernel
theorem dX10_cheapest_49 : decode mX10_cheapest.2.1 49 = .ok (.aaload, 1) := by decide +kernel
theorem dX10_cheapest_50 : decode mX10_cheapest.2.1 50 = .ok (.aload_n 0, 1) := by decide +kernel
theorem dX10_cheapest_51 : decode mX10_cheapest.2.1 51 = .ok (.getfield 12, 3) := by decide +kernel
theorem dX10_cheapest_54 : decode mX10_cheapest.2.1 54 = .ok (.getfield 268, 3) := by decide +kernel
theorem dX10_cheapest_57 : decode mX10_cheapest.2.1 57 = .ok (.iload_n 2, 1) := by decide +kernel
theorem dX10_cheapest_58 : decode mX10_cheapest.2.1 58 = .ok (.invokevirtual 271, 3) := by decide +kernel
theorem dX10_cheapest_61 : decode mX10_cheapest.2.1 61 = .ok (.istore 4, 2) := by decide +kernel
theorem dX10_cheapest_63 : decode mX10_cheapest.2.1 63 = .ok (.iload 4, 2) := by decide +kernel
theorem dX10_cheapest_65 : decode mX10_cheapest.2.1 65 = .ok (.sipush 1000, 3) := by decide +kernel
theorem dX10_cheapest_68 : decode mX10_cheapest.2.1 68 = .ok (.if_icmp .lt 6, 3) := by decide +kernel
theorem dX10_cheapest_71 : decode mX10_cheapest.2.1 71 = .ok (.bipush (-5), 2) := by decide +kernel
theorem dX10_cheapest_73 : decode mX10_cheapest.2.1 73 = .ok (.ireturn, 1) := by decide +kernel
theorem dX10_cheapest_74 : decode mX10_cheapest.2.1 74 = .ok (.iload_n 3, 1) := by decide +kernel
theorem dX10_cheapest_75 : decode mX10_cheapest.2.1 75 = .ok (.iconst (-1), 1) := by decide +kernel
theorem dX10_cheapest_76 : decode mX10_cheapest.2.1 76 = .ok (.if_icmp .ne 8, 3) := by decide +kernel
theorem dX10_cheapest_79 : decode mX10_cheapest.2.1 79 = .ok (.iload 4, 2) := by decide +kernel
theorem dX10_cheapest_81 : decode mX10_cheapest.2.1 81 = .ok (.goto 27, 3) := by decide +kernel
theorem dX10_cheapest_84 : decode mX10_cheapest.2.1 84 = .ok (.aload_n 0, 1) := by decide +kernel
theorem dX10_cheapest_85 : decode mX10_cheapest.2.1 85 = .ok (.getfield 52, 3) := by decide +kernel
theorem dX10_cheapest_88 : decode mX10_cheapest.2.1 88 = .ok (.aload_n 0, 1) := by decide +kernel
theorem dX10_cheapest_89 : decode mX10_cheapest.2.1 89 = .ok (.getfield 12, 3) := by decide +kernel
theorem dX10_cheapest_92 : decode mX10_cheapest.2.1 92 = .ok (.getfield 143, 3) := by decide +kernel
theorem dX10_cheapest_95 : decode mX10_cheapest.2.1 95 = .ok (.iload_n 1, 1) := by decide +kernel
theorem dX10_cheapest_96 : decode mX10_cheapest.2.1 96 = .ok (.aaload, 1) := by decide +kernel
theorem dX10_cheapest_97 : decode mX10_cheapest.2.1 97 = .ok (.aload_n 0, 1) := by decide +kernel
theorem dX10_cheapest_98 : decode mX10_cheapest.2.1 98 = .ok (.getfield 12, 3) := by decide +kernel
theorem dX10_cheapest_101 : decode mX10_cheapest.2.1 101 = .ok (.getfield 268, 3) := by decide +kernel
theorem dX10_cheapest_104 : decode mX10_cheapest.2.1 104 = .ok (.iload_n 3, 1) := by decide +kernel
theorem dX10_cheapest_105 : decode mX10_cheapest.2.1 105 = .ok (.invokevirtual 275, 3) := by decide +kernel
theorem dX10_cheapest_108 : decode mX10_cheapest.2.1 108 = .ok (.ireturn, 1) := by decide +kernel
def mX10_listed : String × ByteArray × Nat := (RX10, cX10_listed, 7)
theorem dX10_listed_0 : decode mX10_listed.2.1 0 = .ok (.iload_n 1, 1) := by decide +kernel
theorem dX10_listed_1 : decode mX10_listed.2.1 1 = .ok (.invokestatic 66, 3) := by decide +kernel
theorem dX10_listed_4 : decode mX10_listed.2.1 4 = .ok (.ifCond .eq 30, 3) := by decide +kernel
theorem dX10_listed_7 : decode mX10_listed.2.1 7 = .ok (.iload_n 3, 1) := by decide +kernel
theorem dX10_listed_8 : decode mX10_listed.2.1 8 = .ok (.ifCond .lt 26, 3) := by decide +kernel
theorem dX10_listed_11 : decode mX10_listed.2.1 11 = .ok (.iload 4, 2) := by decide +kernel
theorem dX10_listed_13 : decode mX10_listed.2.1 13 = .ok (.iconst (-1), 1) := by decide +kernel
theorem dX10_listed_14 : decode mX10_listed.2.1 14 = .ok (.if_icmp .lt 20, 3) := by decide +kernel
theorem dX10_listed_17 : decode mX10_listed.2.1 17 = .ok (.iload 4, 2) := by decide +kernel
theorem dX10_listed_19 : decode mX10_listed.2.1 19 = .ok (.aload_n 0, 1) := by decide +kernel
theorem dX10_listed_20 : decode mX10_listed.2.1 20 = .ok (.getfield 12, 3) := by decide +kernel
theorem dX10_listed_23 : decode mX10_listed.2.1 23 = .ok (.getfield 143, 3) := by decide +kernel
theorem dX10_listed_26 : decode mX10_listed.2.1 26 = .ok (.iload_n 1, 1) := by decide +kernel
theorem dX10_listed_27 : decode mX10_listed.2.1 27 = .ok (.aaload, 1) := by decide +kernel
theorem dX10_listed_28 : decode mX10_listed.2.1 28 = .ok (.getfield 147, 3) := by decide +kernel
theorem dX10_listed_31 : decode mX10_listed.2.1 31 = .ok (.if_icmp .lt 5, 3) := by decide +kernel
theorem dX10_listed_34 : decode mX10_listed.2.1 34 = .ok (.iconst (-1), 1) := by decide +kernel
theorem dX10_listed_35 : decode mX10_listed.2.1 35 = .ok (.ireturn, 1) := by decide +kernel
theorem dX10_listed_36 : decode mX10_listed.2.1 36 = .ok (.iload_n 2, 1) := by decide +kernel
theorem dX10_listed_37 : decode mX10_listed.2.1 37 = .ok (.ifCond .ge 6, 3) := by decide +kernel
theorem dX10_listed_40 : decode mX10_listed.2.1 40 = .ok (.bipush (-2), 2) := by decide +kernel
theorem dX10_listed_42 : decode mX10_listed.2.1 42 = .ok (.ireturn, 1) := by decide +kernel
theorem dX10_listed_43 : decode mX10_listed.2.1 43 = .ok (.aload_n 0, 1) := by decide +kernel
theorem dX10_listed_44 : decode mX10_listed.2.1 44 = .ok (.getfield 12, 3) := by decide +kernel
theorem dX10_listed_47 : decode mX10_listed.2.1 47 = .ok (.getfield 143, 3) := by decide +kernel
theorem dX10_listed_50 : decode mX10_listed.2.1 50 = .ok (.iload_n 1, 1) := by decide +kernel
theorem dX10_listed_51 : decode mX10_listed.2.1 51 = .ok (.aaload, 1) := by decide +kernel
theorem dX10_listed_52 : decode mX10_listed.2.1 52 = .ok (.astore 5, 2) := by decide +kernel
theorem dX10_listed_54 : decode mX10_listed.2.1 54 = .ok (.aload 5, 2) := by decide +kernel
theorem dX10_listed_56 : decode mX10_listed.2.1 56 = .ok (.getfield 147, 3) := by decide +kernel
theorem dX10_listed_59 : decode mX10_listed.2.1 59 = .ok (.iconst 4, 1) := by decide +kernel
theorem dX10_listed_60 : decode mX10_listed.2.1 60 = .ok (.if_icmp .le 6, 3) := by decide +kernel
theorem dX10_listed_63 : decode mX10_listed.2.1 63 = .ok (.bipush (-3), 2) := by decide +kernel
theorem dX10_listed_65 : decode mX10_listed.2.1 65 = .ok (.ireturn, 1) := by decide +kernel
theorem dX10_listed_66 : decode mX10_listed.2.1 66 = .ok (.aload_n 0, 1) := by decide +kernel
theorem dX10_listed_67 : decode mX10_listed.2.1 67 = .ok (.getfield 52, 3) := by decide +kernel
theorem dX10_listed_70 : decode mX10_listed.2.1 70 = .ok (.aload 5, 2) := by decide +kernel
theorem dX10_listed_72 : decode mX10_listed.2.1 72 = .ok (.aload_n 0, 1) := by decide +kernel
theorem dX10_listed_73 : decode mX10_listed.2.1 73 = .ok (.getfield 12, 3) := by decide +kernel
theorem dX10_listed_76 : decode mX10_listed.2.1 76 = .ok (.getfield 268, 3) := by decide +kernel
theorem dX10_listed_79 : decode mX10_listed.2.1 79 = .ok (.iload_n 2, 1) := by decide +kernel
theorem dX10_listed_80 : decode mX10_listed.2.1 80 = .ok (.iload_n 3, 1) := by decide +kernel
theorem dX10_listed_81 : decode mX10_listed.2.1 81 = .ok (.invokevirtual 278, 3) := by decide +kernel
theorem dX10_listed_84 : decode mX10_listed.2.1 84 = .ok (.istore 6, 2) := by decide +kernel
theorem dX10_listed_86 : decode mX10_listed.2.1 86 = .ok (.iload 6, 2) := by decide +kernel
theorem dX10_listed_88 : decode mX10_listed.2.1 88 = .ok (.ifCond .ge 6, 3) := by decide +kernel
theorem dX10_listed_91 : decode mX10_listed.2.1 91 = .ok (.bipush (-5), 2) := by decide +kernel
theorem dX10_listed_93 : decode mX10_listed.2.1 93 = .ok (.ireturn, 1) := by decide +kernel
theorem dX10_listed_94 : decode mX10_listed.2.1 94 = .ok (.iload 4, 2) := by decide +kernel
theorem dX10_listed_96 : decode mX10_listed.2.1 96 = .ok (.iconst (-1), 1) := by decide +kernel
theorem dX10_listed_97 : decode mX10_listed.2.1 97 = .ok (.if_icmp .ne 15, 3) := by decide +kernel
theorem dX10_listed_100 : decode mX10_listed.2.1 100 = .ok (.aload_n 0, 1) := by decide +kernel
theorem dX10_listed_101 : decode mX10_listed.2.1 101 = .ok (.getfield 52, 3) := by decide +kernel
theorem dX10_listed_104 : decode mX10_listed.2.1 104 = .ok (.iload 6, 2) := by decide +kernel
theorem dX10_listed_106 : decode mX10_listed.2.1 106 = .ok (.invokevirtual 282, 3) := by decide +kernel
theorem dX10_listed_109 : decode mX10_listed.2.1 109 = .ok (.goto 15, 3) := by decide +kernel
theorem dX10_listed_112 : decode mX10_listed.2.1 112 = .ok (.iload 6, 2) := by decide +kernel
theorem dX10_listed_114 : decode mX10_listed.2.1 114 = .ok (.aload 5, 2) := by decide +kernel
theorem dX10_listed_116 : decode mX10_listed.2.1 116 = .ok (.getfield 147, 3) := by decide +kernel
theorem dX10_listed_119 : decode mX10_listed.2.1 119 = .ok (.iload 4, 2) := by decide +kernel
theorem dX10_listed_121 : decode mX10_listed.2.1 121 = .ok (.invokestatic 285, 3) := by decide +kernel
theorem dX10_listed_124 : decode mX10_listed.2.1 124 = .ok (.ireturn, 1) := by decide +kernel
def mX10_odds : String × ByteArray × Nat := (RX10, cX10_odds, 4)
theorem dX10_odds_0 : decode mX10_odds.2.1 0 = .ok (.iload_n 1, 1) := by decide +kernel
theorem dX10_odds_1 : decode mX10_odds.2.1 1 = .ok (.invokestatic 66, 3) := by decide +kernel
theorem dX10_odds_4 : decode mX10_odds.2.1 4 = .ok (.ifCond .eq 12, 3) := by decide +kernel
theorem dX10_odds_7 : decode mX10_odds.2.1 7 = .ok (.iload_n 2, 1) := by decide +kernel
theorem dX10_odds_8 : decode mX10_odds.2.1 8 = .ok (.ifCond .lt 8, 3) := by decide +kernel
theorem dX10_odds_11 : decode mX10_odds.2.1 11 = .ok (.iload_n 2, 1) := by decide +kernel
theorem dX10_odds_12 : decode mX10_odds.2.1 12 = .ok (.iconst 1, 1) := by decide +kernel
theorem dX10_odds_13 : decode mX10_odds.2.1 13 = .ok (.if_icmp .le 7, 3) := by decide +kernel
theorem dX10_odds_16 : decode mX10_odds.2.1 16 = .ok (.ldc2_w 101, 3) := by decide +kernel
theorem dX10_odds_19 : decode mX10_odds.2.1 19 = .ok (.lreturn, 1) := by decide +kernel
theorem dX10_odds_20 : decode mX10_odds.2.1 20 = .ok (.aload_n 0, 1) := by decide +kernel
theorem dX10_odds_21 : decode mX10_odds.2.1 21 = .ok (.getfield 12, 3) := by decide +kernel
theorem dX10_odds_24 : decode mX10_odds.2.1 24 = .ok (.getfield 143, 3) := by decide +kernel
theorem dX10_odds_27 : decode mX10_odds.2.1 27 = .ok (.iload_n 1, 1) := by decide +kernel
theorem dX10_odds_28 : decode mX10_odds.2.1 28 = .ok (.aaload, 1) := by decide +kernel
theorem dX10_odds_29 : decode mX10_odds.2.1 29 = .ok (.astore_n 3, 1) := by decide +kernel
theorem dX10_odds_30 : decode mX10_odds.2.1 30 = .ok (.aload_n 0, 1) := by decide +kernel
theorem dX10_odds_31 : decode mX10_odds.2.1 31 = .ok (.getfield 52, 3) := by decide +kernel
theorem dX10_odds_34 : decode mX10_odds.2.1 34 = .ok (.aload_n 3, 1) := by decide +kernel
theorem dX10_odds_35 : decode mX10_odds.2.1 35 = .ok (.iconst 0, 1) := by decide +kernel
theorem dX10_odds_36 : decode mX10_odds.2.1 36 = .ok (.invokevirtual 218, 3) := by decide +kernel
theorem dX10_odds_39 : decode mX10_odds.2.1 39 = .ok (.getstatic 289, 3) := by decide +kernel
theorem dX10_odds_42 : decode mX10_odds.2.1 42 = .ok (.aload_n 3, 1) := by decide +kernel
theorem dX10_odds_43 : decode mX10_odds.2.1 43 = .ok (.getfield 147, 3) := by decide +kernel
theorem dX10_odds_46 : decode mX10_odds.2.1 46 = .ok (.iaload, 1) := by decide +kernel
theorem dX10_odds_47 : decode mX10_odds.2.1 47 = .ok (.iload_n 2, 1) := by decide +kernel
theorem dX10_odds_48 : decode mX10_odds.2.1 48 = .ok (.invokestatic 292, 3) := by decide +kernel
theorem dX10_odds_51 : decode mX10_odds.2.1 51 = .ok (.lreturn, 1) := by decide +kernel
def mX10_mean : String × ByteArray × Nat := (RX10, cX10_mean, 4)
theorem dX10_mean_0 : decode mX10_mean.2.1 0 = .ok (.iload_n 1, 1) := by decide +kernel
theorem dX10_mean_1 : decode mX10_mean.2.1 1 = .ok (.invokestatic 66, 3) := by decide +kernel
theorem dX10_mean_4 : decode mX10_mean.2.1 4 = .ok (.ifCond .eq 12, 3) := by decide +kernel
theorem dX10_mean_7 : decode mX10_mean.2.1 7 = .ok (.iload_n 2, 1) := by decide +kernel
theorem dX10_mean_8 : decode mX10_mean.2.1 8 = .ok (.ifCond .lt 8, 3) := by decide +kernel
theorem dX10_mean_11 : decode mX10_mean.2.1 11 = .ok (.iload_n 2, 1) := by decide +kernel
theorem dX10_mean_12 : decode mX10_mean.2.1 12 = .ok (.iconst 1, 1) := by decide +kernel
theorem dX10_mean_13 : decode mX10_mean.2.1 13 = .ok (.if_icmp .le 7, 3) := by decide +kernel
theorem dX10_mean_16 : decode mX10_mean.2.1 16 = .ok (.ldc2_w 101, 3) := by decide +kernel
theorem dX10_mean_19 : decode mX10_mean.2.1 19 = .ok (.lreturn, 1) := by decide +kernel
theorem dX10_mean_20 : decode mX10_mean.2.1 20 = .ok (.aload_n 0, 1) := by decide +kernel
theorem dX10_mean_21 : decode mX10_mean.2.1 21 = .ok (.getfield 12, 3) := by decide +kernel
theorem dX10_mean_24 : decode mX10_mean.2.1 24 = .ok (.getfield 143, 3) := by decide +kernel
theorem dX10_mean_27 : decode mX10_mean.2.1 27 = .ok (.iload_n 1, 1) := by decide +kernel
theorem dX10_mean_28 : decode mX10_mean.2.1 28 = .ok (.aaload, 1) := by decide +kernel
theorem dX10_mean_29 : decode mX10_mean.2.1 29 = .ok (.astore_n 3, 1) := by decide +kernel
theorem dX10_mean_30 : decode mX10_mean.2.1 30 = .ok (.aload_n 3, 1) := by decide +kernel
theorem dX10_mean_31 : decode mX10_mean.2.1 31 = .ok (.invokevirtual 170, 3) := by decide +kernel
theorem dX10_mean_34 : decode mX10_mean.2.1 34 = .ok (.aload_n 3, 1) := by decide +kernel
theorem dX10_mean_35 : decode mX10_mean.2.1 35 = .ok (.getfield 147, 3) := by decide +kernel
theorem dX10_mean_38 : decode mX10_mean.2.1 38 = .ok (.iload_n 2, 1) := by decide +kernel
theorem dX10_mean_39 : decode mX10_mean.2.1 39 = .ok (.invokestatic 292, 3) := by decide +kernel
theorem dX10_mean_42 : decode mX10_mean.2.1 42 = .ok (.lreturn, 1) := by decide +kernel
def mX10_lots : String × ByteArray × Nat := (RX10, cX10_lots, 5)
theorem dX10_lots_0 : decode mX10_lots.2.1 0 = .ok (.iload_n 1, 1) := by decide +kernel
theorem dX10_lots_1 : decode mX10_lots.2.1 1 = .ok (.invokestatic 66, 3) := by decide +kernel
theorem dX10_lots_4 : decode mX10_lots.2.1 4 = .ok (.ifCond .eq 14, 3) := by decide +kernel
theorem dX10_lots_7 : decode mX10_lots.2.1 7 = .ok (.iload 4, 2) := by decide +kernel
theorem dX10_lots_9 : decode mX10_lots.2.1 9 = .ok (.ifCond .lt 9, 3) := by decide +kernel
theorem dX10_lots_12 : decode mX10_lots.2.1 12 = .ok (.iload 4, 2) := by decide +kernel
theorem dX10_lots_14 : decode mX10_lots.2.1 14 = .ok (.iconst 1, 1) := by decide +kernel
theorem dX10_lots_15 : decode mX10_lots.2.1 15 = .ok (.if_icmp .le 5, 3) := by decide +kernel
theorem dX10_lots_18 : decode mX10_lots.2.1 18 = .ok (.iconst (-1), 1) := by decide +kernel
theorem dX10_lots_19 : decode mX10_lots.2.1 19 = .ok (.ireturn, 1) := by decide +kernel
theorem dX10_lots_20 : decode mX10_lots.2.1 20 = .ok (.iload_n 2, 1) := by decide +kernel
theorem dX10_lots_21 : decode mX10_lots.2.1 21 = .ok (.iconst 1, 1) := by decide +kernel
theorem dX10_lots_22 : decode mX10_lots.2.1 22 = .ok (.if_icmp .lt 9, 3) := by decide +kernel
theorem dX10_lots_25 : decode mX10_lots.2.1 25 = .ok (.iload_n 2, 1) := by decide +kernel
theorem dX10_lots_26 : decode mX10_lots.2.1 26 = .ok (.bipush 40, 2) := by decide +kernel
theorem dX10_lots_28 : decode mX10_lots.2.1 28 = .ok (.if_icmp .le 6, 3) := by decide +kernel
theorem dX10_lots_31 : decode mX10_lots.2.1 31 = .ok (.bipush (-2), 2) := by decide +kernel
theorem dX10_lots_33 : decode mX10_lots.2.1 33 = .ok (.ireturn, 1) := by decide +kernel
theorem dX10_lots_34 : decode mX10_lots.2.1 34 = .ok (.aload_n 0, 1) := by decide +kernel
theorem dX10_lots_35 : decode mX10_lots.2.1 35 = .ok (.getfield 52, 3) := by decide +kernel
theorem dX10_lots_38 : decode mX10_lots.2.1 38 = .ok (.aload_n 0, 1) := by decide +kernel
theorem dX10_lots_39 : decode mX10_lots.2.1 39 = .ok (.getfield 12, 3) := by decide +kernel
theorem dX10_lots_42 : decode mX10_lots.2.1 42 = .ok (.getfield 143, 3) := by decide +kernel
theorem dX10_lots_45 : decode mX10_lots.2.1 45 = .ok (.iload_n 1, 1) := by decide +kernel
theorem dX10_lots_46 : decode mX10_lots.2.1 46 = .ok (.aaload, 1) := by decide +kernel
theorem dX10_lots_47 : decode mX10_lots.2.1 47 = .ok (.iload_n 2, 1) := by decide +kernel
theorem dX10_lots_48 : decode mX10_lots.2.1 48 = .ok (.iload_n 3, 1) := by decide +kernel
theorem dX10_lots_49 : decode mX10_lots.2.1 49 = .ok (.iload 4, 2) := by decide +kernel
theorem dX10_lots_51 : decode mX10_lots.2.1 51 = .ok (.ifCond .ne 7, 3) := by decide +kernel
theorem dX10_lots_54 : decode mX10_lots.2.1 54 = .ok (.iconst 1, 1) := by decide +kernel
theorem dX10_lots_55 : decode mX10_lots.2.1 55 = .ok (.goto 4, 3) := by decide +kernel
theorem dX10_lots_58 : decode mX10_lots.2.1 58 = .ok (.iconst 0, 1) := by decide +kernel
theorem dX10_lots_59 : decode mX10_lots.2.1 59 = .ok (.invokevirtual 296, 3) := by decide +kernel
theorem dX10_lots_62 : decode mX10_lots.2.1 62 = .ok (.ireturn, 1) := by decide +kernel
def mX10_feed : String × ByteArray × Nat := (RX10, cX10_feed, 2)
theorem dX10_feed_0 : decode mX10_feed.2.1 0 = .ok (.iload_n 1, 1) := by decide +kernel
theorem dX10_feed_1 : decode mX10_feed.2.1 1 = .ok (.ifCond .lt 9, 3) := by decide +kernel
theorem dX10_feed_4 : decode mX10_feed.2.1 4 = .ok (.iload_n 1, 1) := by decide +kernel
theorem dX10_feed_5 : decode mX10_feed.2.1 5 = .ok (.bipush 127, 2) := by decide +kernel
theorem dX10_feed_7 : decode mX10_feed.2.1 7 = .ok (.if_icmp .le 6, 3) := by decide +kernel
theorem dX10_feed_10 : decode mX10_feed.2.1 10 = .ok (.bipush (-2), 2) := by decide +kernel
theorem dX10_feed_12 : decode mX10_feed.2.1 12 = .ok (.ireturn, 1) := by decide +kernel
theorem dX10_feed_13 : decode mX10_feed.2.1 13 = .ok (.aload_n 0, 1) := by decide +kernel
theorem dX10_feed_14 : decode mX10_feed.2.1 14 = .ok (.getfield 31, 3) := by decide +kernel
theorem dX10_feed_17 : decode mX10_feed.2.1 17 = .ok (.iload_n 1, 1) := by decide +kernel
theorem dX10_feed_18 : decode mX10_feed.2.1 18 = .ok (.invokevirtual 300, 3) := by decide +kernel
theorem dX10_feed_21 : decode mX10_feed.2.1 21 = .ok (.ifCond .eq 13, 3) := by decide +kernel
theorem dX10_feed_24 : decode mX10_feed.2.1 24 = .ok (.aload_n 0, 1) := by decide +kernel
theorem dX10_feed_25 : decode mX10_feed.2.1 25 = .ok (.getfield 31, 3) := by decide +kernel
theorem dX10_feed_28 : decode mX10_feed.2.1 28 = .ok (.getfield 302, 3) := by decide +kernel
theorem dX10_feed_31 : decode mX10_feed.2.1 31 = .ok (.goto 5, 3) := by decide +kernel
theorem dX10_feed_34 : decode mX10_feed.2.1 34 = .ok (.bipush (-4), 2) := by decide +kernel
theorem dX10_feed_36 : decode mX10_feed.2.1 36 = .ok (.ireturn, 1) := by decide +kernel
def mX10_read : String × ByteArray × Nat := (RX10, cX10_read, 4)
theorem dX10_read_0 : decode mX10_read.2.1 0 = .ok (.iload_n 1, 1) := by decide +kernel
theorem dX10_read_1 : decode mX10_read.2.1 1 = .ok (.invokestatic 66, 3) := by decide +kernel
theorem dX10_read_4 : decode mX10_read.2.1 4 = .ok (.ifCond .ne 5, 3) := by decide +kernel
theorem dX10_read_7 : decode mX10_read.2.1 7 = .ok (.iconst (-1), 1) := by decide +kernel
theorem dX10_read_8 : decode mX10_read.2.1 8 = .ok (.ireturn, 1) := by decide +kernel
theorem dX10_read_9 : decode mX10_read.2.1 9 = .ok (.aload_n 0, 1) := by decide +kernel
theorem dX10_read_10 : decode mX10_read.2.1 10 = .ok (.getfield 31, 3) := by decide +kernel
theorem dX10_read_13 : decode mX10_read.2.1 13 = .ok (.invokevirtual 303, 3) := by decide +kernel
theorem dX10_read_16 : decode mX10_read.2.1 16 = .ok (.istore_n 2, 1) := by decide +kernel
theorem dX10_read_17 : decode mX10_read.2.1 17 = .ok (.iload_n 2, 1) := by decide +kernel
theorem dX10_read_18 : decode mX10_read.2.1 18 = .ok (.iconst (-1), 1) := by decide +kernel
theorem dX10_read_19 : decode mX10_read.2.1 19 = .ok (.if_icmp .ne 13, 3) := by decide +kernel
theorem dX10_read_22 : decode mX10_read.2.1 22 = .ok (.aload_n 0, 1) := by decide +kernel
theorem dX10_read_23 : decode mX10_read.2.1 23 = .ok (.getfield 31, 3) := by decide +kernel
theorem dX10_read_26 : decode mX10_read.2.1 26 = .ok (.invokevirtual 306, 3) := by decide +kernel
theorem dX10_read_29 : decode mX10_read.2.1 29 = .ok (.goto 7, 3) := by decide +kernel
theorem dX10_read_32 : decode mX10_read.2.1 32 = .ok (.bipush (-100), 2) := by decide +kernel
theorem dX10_read_34 : decode mX10_read.2.1 34 = .ok (.iload_n 2, 1) := by decide +kernel
theorem dX10_read_35 : decode mX10_read.2.1 35 = .ok (.isub, 1) := by decide +kernel
theorem dX10_read_36 : decode mX10_read.2.1 36 = .ok (.istore_n 3, 1) := by decide +kernel
theorem dX10_read_37 : decode mX10_read.2.1 37 = .ok (.aload_n 0, 1) := by decide +kernel
theorem dX10_read_38 : decode mX10_read.2.1 38 = .ok (.getfield 31, 3) := by decide +kernel
theorem dX10_read_41 : decode mX10_read.2.1 41 = .ok (.iconst 0, 1) := by decide +kernel
theorem dX10_read_42 : decode mX10_read.2.1 42 = .ok (.putfield 302, 3) := by decide +kernel
theorem dX10_read_45 : decode mX10_read.2.1 45 = .ok (.iload_n 3, 1) := by decide +kernel
theorem dX10_read_46 : decode mX10_read.2.1 46 = .ok (.ifCond .lt 23, 3) := by decide +kernel
theorem dX10_read_49 : decode mX10_read.2.1 49 = .ok (.aload_n 0, 1) := by decide +kernel
theorem dX10_read_50 : decode mX10_read.2.1 50 = .ok (.getfield 12, 3) := by decide +kernel
theorem dX10_read_53 : decode mX10_read.2.1 53 = .ok (.getfield 70, 3) := by decide +kernel
theorem dX10_read_56 : decode mX10_read.2.1 56 = .ok (.iload_n 1, 1) := by decide +kernel
theorem dX10_read_57 : decode mX10_read.2.1 57 = .ok (.aaload, 1) := by decide +kernel
theorem dX10_read_58 : decode mX10_read.2.1 58 = .ok (.aload_n 0, 1) := by decide +kernel
theorem dX10_read_59 : decode mX10_read.2.1 59 = .ok (.getfield 31, 3) := by decide +kernel
theorem dX10_read_62 : decode mX10_read.2.1 62 = .ok (.getfield 309, 3) := by decide +kernel
theorem dX10_read_65 : decode mX10_read.2.1 65 = .ok (.iload_n 3, 1) := by decide +kernel
theorem dX10_read_66 : decode mX10_read.2.1 66 = .ok (.invokevirtual 310, 3) := by decide +kernel
theorem dX10_read_69 : decode mX10_read.2.1 69 = .ok (.iload_n 3, 1) := by decide +kernel
theorem dX10_read_70 : decode mX10_read.2.1 70 = .ok (.ireturn, 1) := by decide +kernel
def mX10_write : String × ByteArray × Nat := (RX10, cX10_write, 2)
theorem dX10_write_0 : decode mX10_write.2.1 0 = .ok (.iload_n 1, 1) := by decide +kernel
theorem dX10_write_1 : decode mX10_write.2.1 1 = .ok (.invokestatic 66, 3) := by decide +kernel
theorem dX10_write_4 : decode mX10_write.2.1 4 = .ok (.ifCond .ne 5, 3) := by decide +kernel
theorem dX10_write_7 : decode mX10_write.2.1 7 = .ok (.iconst (-1), 1) := by decide +kernel
theorem dX10_write_8 : decode mX10_write.2.1 8 = .ok (.ireturn, 1) := by decide +kernel
theorem dX10_write_9 : decode mX10_write.2.1 9 = .ok (.aload_n 0, 1) := by decide +kernel
theorem dX10_write_10 : decode mX10_write.2.1 10 = .ok (.getfield 38, 3) := by decide +kernel
theorem dX10_write_13 : decode mX10_write.2.1 13 = .ok (.aload_n 0, 1) := by decide +kernel
theorem dX10_write_14 : decode mX10_write.2.1 14 = .ok (.getfield 12, 3) := by decide +kernel
theorem dX10_write_17 : decode mX10_write.2.1 17 = .ok (.getfield 70, 3) := by decide +kernel
theorem dX10_write_20 : decode mX10_write.2.1 20 = .ok (.iload_n 1, 1) := by decide +kernel
theorem dX10_write_21 : decode mX10_write.2.1 21 = .ok (.aaload, 1) := by decide +kernel
theorem dX10_write_22 : decode mX10_write.2.1 22 = .ok (.invokevirtual 314, 3) := by decide +kernel
theorem dX10_write_25 : decode mX10_write.2.1 25 = .ok (.aload_n 0, 1) := by decide +kernel
theorem dX10_write_26 : decode mX10_write.2.1 26 = .ok (.getfield 38, 3) := by decide +kernel
theorem dX10_write_29 : decode mX10_write.2.1 29 = .ok (.getfield 317, 3) := by decide +kernel
theorem dX10_write_32 : decode mX10_write.2.1 32 = .ok (.ireturn, 1) := by decide +kernel
def mX10_paper : String × ByteArray × Nat := (RX10, cX10_paper, 2)
theorem dX10_paper_0 : decode mX10_paper.2.1 0 = .ok (.iload_n 1, 1) := by decide +kernel
theorem dX10_paper_1 : decode mX10_paper.2.1 1 = .ok (.ifCond .lt 26, 3) := by decide +kernel
theorem dX10_paper_4 : decode mX10_paper.2.1 4 = .ok (.iload_n 1, 1) := by decide +kernel
theorem dX10_paper_5 : decode mX10_paper.2.1 5 = .ok (.aload_n 0, 1) := by decide +kernel
theorem dX10_paper_6 : decode mX10_paper.2.1 6 = .ok (.getfield 38, 3) := by decide +kernel
theorem dX10_paper_9 : decode mX10_paper.2.1 9 = .ok (.getfield 317, 3) := by decide +kernel
theorem dX10_paper_12 : decode mX10_paper.2.1 12 = .ok (.if_icmp .ge 15, 3) := by decide +kernel
theorem dX10_paper_15 : decode mX10_paper.2.1 15 = .ok (.aload_n 0, 1) := by decide +kernel
theorem dX10_paper_16 : decode mX10_paper.2.1 16 = .ok (.getfield 38, 3) := by decide +kernel
theorem dX10_paper_19 : decode mX10_paper.2.1 19 = .ok (.getfield 318, 3) := by decide +kernel
theorem dX10_paper_22 : decode mX10_paper.2.1 22 = .ok (.iload_n 1, 1) := by decide +kernel
theorem dX10_paper_23 : decode mX10_paper.2.1 23 = .ok (.iaload, 1) := by decide +kernel
theorem dX10_paper_24 : decode mX10_paper.2.1 24 = .ok (.goto 4, 3) := by decide +kernel
theorem dX10_paper_27 : decode mX10_paper.2.1 27 = .ok (.iconst (-1), 1) := by decide +kernel
theorem dX10_paper_28 : decode mX10_paper.2.1 28 = .ok (.ireturn, 1) := by decide +kernel
def mX10_undo : String × ByteArray × Nat := (RX10, cX10_undo, 1)
theorem dX10_undo_0 : decode mX10_undo.2.1 0 = .ok (.aload_n 0, 1) := by decide +kernel
theorem dX10_undo_1 : decode mX10_undo.2.1 1 = .ok (.getfield 24, 3) := by decide +kernel
theorem dX10_undo_4 : decode mX10_undo.2.1 4 = .ok (.getfield 321, 3) := by decide +kernel
theorem dX10_undo_7 : decode mX10_undo.2.1 7 = .ok (.ifCond .ne 6, 3) := by decide +kernel
theorem dX10_undo_10 : decode mX10_undo.2.1 10 = .ok (.bipush (-3), 2) := by decide +kernel
theorem dX10_undo_12 : decode mX10_undo.2.1 12 = .ok (.ireturn, 1) := by decide +kernel
theorem dX10_undo_13 : decode mX10_undo.2.1 13 = .ok (.aload_n 0, 1) := by decide +kernel
theorem dX10_undo_14 : decode mX10_undo.2.1 14 = .ok (.getfield 24, 3) := by decide +kernel
theorem dX10_undo_17 : decode mX10_undo.2.1 17 = .ok (.aload_n 0, 1) := by decide +kernel
theorem dX10_undo_18 : decode mX10_undo.2.1 18 = .ok (.getfield 12, 3) := by decide +kernel
theorem dX10_undo_21 : decode mX10_undo.2.1 21 = .ok (.invokevirtual 322, 3) := by decide +kernel
theorem dX10_undo_24 : decode mX10_undo.2.1 24 = .ok (.aload_n 0, 1) := by decide +kernel
theorem dX10_undo_25 : decode mX10_undo.2.1 25 = .ok (.getfield 24, 3) := by decide +kernel
theorem dX10_undo_28 : decode mX10_undo.2.1 28 = .ok (.getfield 321, 3) := by decide +kernel
theorem dX10_undo_31 : decode mX10_undo.2.1 31 = .ok (.ireturn, 1) := by decide +kernel
def mX10_image : String × ByteArray × Nat := (RX10, cX10_image, 1)
theorem dX10_image_0 : decode mX10_image.2.1 0 = .ok (.aload_n 0, 1) := by decide +kernel
theorem dX10_image_1 : decode mX10_image.2.1 1 = .ok (.getfield 18, 3) := by decide +kernel
theorem dX10_image_4 : decode mX10_image.2.1 4 = .ok (.aload_n 0, 1) := by decide +kernel
theorem dX10_image_5 : decode mX10_image.2.1 5 = .ok (.getfield 12, 3) := by decide +kernel
theorem dX10_image_8 : decode mX10_image.2.1 8 = .ok (.invokevirtual 326, 3) := by decide +kernel
theorem dX10_image_11 : decode mX10_image.2.1 11 = .ok (.aload_n 0, 1) := by decide +kernel
theorem dX10_image_12 : decode mX10_image.2.1 12 = .ok (.iconst 1, 1) := by decide +kernel
theorem dX10_image_13 : decode mX10_image.2.1 13 = .ok (.putfield 329, 3) := by decide +kernel
theorem dX10_image_16 : decode mX10_image.2.1 16 = .ok (.aload_n 0, 1) := by decide +kernel
theorem dX10_image_17 : decode mX10_image.2.1 17 = .ok (.getfield 12, 3) := by decide +kernel
theorem dX10_image_20 : decode mX10_image.2.1 20 = .ok (.invokevirtual 333, 3) := by decide +kernel
theorem dX10_image_23 : decode mX10_image.2.1 23 = .ok (.ireturn, 1) := by decide +kernel
def mX10_restore : String × ByteArray × Nat := (RX10, cX10_restore, 1)
theorem dX10_restore_0 : decode mX10_restore.2.1 0 = .ok (.aload_n 0, 1) := by decide +kernel
theorem dX10_restore_1 : decode mX10_restore.2.1 1 = .ok (.getfield 329, 3) := by decide +kernel
theorem dX10_restore_4 : decode mX10_restore.2.1 4 = .ok (.ifCond .ne 6, 3) := by decide +kernel
theorem dX10_restore_7 : decode mX10_restore.2.1 7 = .ok (.bipush (-3), 2) := by decide +kernel
theorem dX10_restore_9 : decode mX10_restore.2.1 9 = .ok (.ireturn, 1) := by decide +kernel
theorem dX10_restore_10 : decode mX10_restore.2.1 10 = .ok (.aload_n 0, 1) := by decide +kernel
theorem dX10_restore_11 : decode mX10_restore.2.1 11 = .ok (.getfield 12, 3) := by decide +kernel
theorem dX10_restore_14 : decode mX10_restore.2.1 14 = .ok (.aload_n 0, 1) := by decide +kernel
theorem dX10_restore_15 : decode mX10_restore.2.1 15 = .ok (.getfield 18, 3) := by decide +kernel
theorem dX10_restore_18 : decode mX10_restore.2.1 18 = .ok (.invokevirtual 326, 3) := by decide +kernel
theorem dX10_restore_21 : decode mX10_restore.2.1 21 = .ok (.aload_n 0, 1) := by decide +kernel
theorem dX10_restore_22 : decode mX10_restore.2.1 22 = .ok (.getfield 24, 3) := by decide +kernel
theorem dX10_restore_25 : decode mX10_restore.2.1 25 = .ok (.invokevirtual 156, 3) := by decide +kernel
theorem dX10_restore_28 : decode mX10_restore.2.1 28 = .ok (.aload_n 0, 1) := by decide +kernel
theorem dX10_restore_29 : decode mX10_restore.2.1 29 = .ok (.getfield 12, 3) := by decide +kernel
theorem dX10_restore_32 : decode mX10_restore.2.1 32 = .ok (.invokevirtual 333, 3) := by decide +kernel
theorem dX10_restore_35 : decode mX10_restore.2.1 35 = .ok (.ireturn, 1) := by decide +kernel
def mX10_told : String × ByteArray × Nat := (RX10, cX10_told, 2)
theorem dX10_told_0 : decode mX10_told.2.1 0 = .ok (.iload_n 1, 1) := by decide +kernel
theorem dX10_told_1 : decode mX10_told.2.1 1 = .ok (.tableswitch 102 0 6 #[43, 51, 59, 67, 75, 83, 91], 43) := by decide +kernel
theorem dX10_told_44 : decode mX10_told.2.1 44 = .ok (.aload_n 0, 1) := by decide +kernel
theorem dX10_told_45 : decode mX10_told.2.1 45 = .ok (.getfield 12, 3) := by decide +kernel
theorem dX10_told_48 : decode mX10_told.2.1 48 = .ok (.invokevirtual 333, 3) := by decide +kernel
theorem dX10_told_51 : decode mX10_told.2.1 51 = .ok (.ireturn, 1) := by decide +kernel
theorem dX10_told_52 : decode mX10_told.2.1 52 = .ok (.aload_n 0, 1) := by decide +kernel
theorem dX10_told_53 : decode mX10_told.2.1 53 = .ok (.getfield 12, 3) := by decide +kernel
theorem dX10_told_56 : decode mX10_told.2.1 56 = .ok (.invokevirtual 336, 3) := by decide +kernel
theorem dX10_told_59 : decode mX10_told.2.1 59 = .ok (.ireturn, 1) := by decide +kernel
theorem dX10_told_60 : decode mX10_told.2.1 60 = .ok (.aload_n 0, 1) := by decide +kernel
theorem dX10_told_61 : decode mX10_told.2.1 61 = .ok (.getfield 24, 3) := by decide +kernel
theorem dX10_told_64 : decode mX10_told.2.1 64 = .ok (.getfield 321, 3) := by decide +kernel
theorem dX10_told_67 : decode mX10_told.2.1 67 = .ok (.ireturn, 1) := by decide +kernel
theorem dX10_told_68 : decode mX10_told.2.1 68 = .ok (.aload_n 0, 1) := by decide +kernel
theorem dX10_told_69 : decode mX10_told.2.1 69 = .ok (.getfield 31, 3) := by decide +kernel
theorem dX10_told_72 : decode mX10_told.2.1 72 = .ok (.getfield 302, 3) := by decide +kernel
theorem dX10_told_75 : decode mX10_told.2.1 75 = .ok (.ireturn, 1) := by decide +kernel
theorem dX10_told_76 : decode mX10_told.2.1 76 = .ok (.aload_n 0, 1) := by decide +kernel
theorem dX10_told_77 : decode mX10_told.2.1 77 = .ok (.getfield 38, 3) := by decide +kernel
theorem dX10_told_80 : decode mX10_told.2.1 80 = .ok (.getfield 317, 3) := by decide +kernel
theorem dX10_told_83 : decode mX10_told.2.1 83 = .ok (.ireturn, 1) := by decide +kernel
theorem dX10_told_84 : decode mX10_told.2.1 84 = .ok (.aload_n 0, 1) := by decide +kernel
theorem dX10_told_85 : decode mX10_told.2.1 85 = .ok (.getfield 12, 3) := by decide +kernel
theorem dX10_told_88 : decode mX10_told.2.1 88 = .ok (.getfield 252, 3) := by decide +kernel
theorem dX10_told_91 : decode mX10_told.2.1 91 = .ok (.ireturn, 1) := by decide +kernel
theorem dX10_told_92 : decode mX10_told.2.1 92 = .ok (.aload_n 0, 1) := by decide +kernel
theorem dX10_told_93 : decode mX10_told.2.1 93 = .ok (.getfield 12, 3) := by decide +kernel
theorem dX10_told_96 : decode mX10_told.2.1 96 = .ok (.getfield 113, 3) := by decide +kernel
theorem dX10_told_99 : decode mX10_told.2.1 99 = .ok (.invokevirtual 117, 3) := by decide +kernel
theorem dX10_told_102 : decode mX10_told.2.1 102 = .ok (.ireturn, 1) := by decide +kernel
theorem dX10_told_103 : decode mX10_told.2.1 103 = .ok (.bipush (-2), 2) := by decide +kernel
theorem dX10_told_105 : decode mX10_told.2.1 105 = .ok (.ireturn, 1) := by decide +kernel
def mX10_judge : String × ByteArray × Nat := (RX10, cX10_judge, 8)
theorem dX10_judge_0 : decode mX10_judge.2.1 0 = .ok (.iload_n 1, 1) := by decide +kernel
theorem dX10_judge_1 : decode mX10_judge.2.1 1 = .ok (.invokestatic 66, 3) := by decide +kernel
theorem dX10_judge_4 : decode mX10_judge.2.1 4 = .ok (.ifCond .eq 10, 3) := by decide +kernel
theorem dX10_judge_7 : decode mX10_judge.2.1 7 = .ok (.iload_n 3, 1) := by decide +kernel
theorem dX10_judge_8 : decode mX10_judge.2.1 8 = .ok (.invokestatic 66, 3) := by decide +kernel
theorem dX10_judge_11 : decode mX10_judge.2.1 11 = .ok (.ifCond .ne 5, 3) := by decide +kernel
theorem dX10_judge_14 : decode mX10_judge.2.1 14 = .ok (.iconst (-1), 1) := by decide +kernel
theorem dX10_judge_15 : decode mX10_judge.2.1 15 = .ok (.ireturn, 1) := by decide +kernel
theorem dX10_judge_16 : decode mX10_judge.2.1 16 = .ok (.aload_n 0, 1) := by decide +kernel
theorem dX10_judge_17 : decode mX10_judge.2.1 17 = .ok (.getfield 44, 3) := by decide +kernel
theorem dX10_judge_20 : decode mX10_judge.2.1 20 = .ok (.iload_n 1, 1) := by decide +kernel
theorem dX10_judge_21 : decode mX10_judge.2.1 21 = .ok (.aaload, 1) := by decide +kernel
theorem dX10_judge_22 : decode mX10_judge.2.1 22 = .ok (.astore 4, 2) := by decide +kernel
theorem dX10_judge_24 : decode mX10_judge.2.1 24 = .ok (.aload 4, 2) := by decide +kernel
theorem dX10_judge_26 : decode mX10_judge.2.1 26 = .ok (.getfield 339, 3) := by decide +kernel
theorem dX10_judge_29 : decode mX10_judge.2.1 29 = .ok (.iconst (-1), 1) := by decide +kernel
theorem dX10_judge_30 : decode mX10_judge.2.1 30 = .ok (.if_icmp .ne 6, 3) := by decide +kernel
theorem dX10_judge_33 : decode mX10_judge.2.1 33 = .ok (.bipush 100, 2) := by decide +kernel
theorem dX10_judge_35 : decode mX10_judge.2.1 35 = .ok (.ireturn, 1) := by decide +kernel
theorem dX10_judge_36 : decode mX10_judge.2.1 36 = .ok (.aload 4, 2) := by decide +kernel
theorem dX10_judge_38 : decode mX10_judge.2.1 38 = .ok (.getfield 339, 3) := by decide +kernel
theorem dX10_judge_41 : decode mX10_judge.2.1 41 = .ok (.iconst 1, 1) := by decide +kernel
theorem dX10_judge_42 : decode mX10_judge.2.1 42 = .ok (.if_icmp .eq 6, 3) := by decide +kernel
theorem dX10_judge_45 : decode mX10_judge.2.1 45 = .ok (.bipush (-12), 2) := by decide +kernel
theorem dX10_judge_47 : decode mX10_judge.2.1 47 = .ok (.ireturn, 1) := by decide +kernel
theorem dX10_judge_48 : decode mX10_judge.2.1 48 = .ok (.iload_n 2, 1) := by decide +kernel
theorem dX10_judge_49 : decode mX10_judge.2.1 49 = .ok (.ifCond .ge 6, 3) := by decide +kernel
theorem dX10_judge_52 : decode mX10_judge.2.1 52 = .ok (.bipush 100, 2) := by decide +kernel
theorem dX10_judge_54 : decode mX10_judge.2.1 54 = .ok (.ireturn, 1) := by decide +kernel
theorem dX10_judge_55 : decode mX10_judge.2.1 55 = .ok (.aload_n 0, 1) := by decide +kernel
theorem dX10_judge_56 : decode mX10_judge.2.1 56 = .ok (.getfield 12, 3) := by decide +kernel
theorem dX10_judge_59 : decode mX10_judge.2.1 59 = .ok (.getfield 143, 3) := by decide +kernel
theorem dX10_judge_62 : decode mX10_judge.2.1 62 = .ok (.iload_n 3, 1) := by decide +kernel
theorem dX10_judge_63 : decode mX10_judge.2.1 63 = .ok (.aaload, 1) := by decide +kernel
theorem dX10_judge_64 : decode mX10_judge.2.1 64 = .ok (.astore 5, 2) := by decide +kernel
theorem dX10_judge_66 : decode mX10_judge.2.1 66 = .ok (.aload_n 0, 1) := by decide +kernel
theorem dX10_judge_67 : decode mX10_judge.2.1 67 = .ok (.getfield 52, 3) := by decide +kernel
theorem dX10_judge_70 : decode mX10_judge.2.1 70 = .ok (.aload 5, 2) := by decide +kernel
theorem dX10_judge_72 : decode mX10_judge.2.1 72 = .ok (.invokevirtual 210, 3) := by decide +kernel
theorem dX10_judge_75 : decode mX10_judge.2.1 75 = .ok (.astore 6, 2) := by decide +kernel
theorem dX10_judge_77 : decode mX10_judge.2.1 77 = .ok (.iconst 0, 1) := by decide +kernel
theorem dX10_judge_78 : decode mX10_judge.2.1 78 = .ok (.istore 7, 2) := by decide +kernel
theorem dX10_judge_80 : decode mX10_judge.2.1 80 = .ok (.iload 7, 2) := by decide +kernel
theorem dX10_judge_82 : decode mX10_judge.2.1 82 = .ok (.aload 5, 2) := by decide +kernel
theorem dX10_judge_84 : decode mX10_judge.2.1 84 = .ok (.getfield 147, 3) := by decide +kernel
theorem dX10_judge_87 : decode mX10_judge.2.1 87 = .ok (.if_icmp .gt 50, 3) := by decide +kernel
theorem dX10_judge_90 : decode mX10_judge.2.1 90 = .ok (.iload_n 2, 1) := by decide +kernel
theorem dX10_judge_91 : decode mX10_judge.2.1 91 = .ok (.aload 4, 2) := by decide +kernel
theorem dX10_judge_93 : decode mX10_judge.2.1 93 = .ok (.getfield 342, 3) := by decide +kernel
theorem dX10_judge_96 : decode mX10_judge.2.1 96 = .ok (.iload 7, 2) := by decide +kernel
theorem dX10_judge_98 : decode mX10_judge.2.1 98 = .ok (.isub, 1) := by decide +kernel
theorem dX10_judge_99 : decode mX10_judge.2.1 99 = .ok (.if_icmp .lt 9, 3) := by decide +kernel
theorem dX10_judge_102 : decode mX10_judge.2.1 102 = .ok (.bipush 100, 2) := by decide +kernel
theorem dX10_judge_104 : decode mX10_judge.2.1 104 = .ok (.iload 7, 2) := by decide +kernel
theorem dX10_judge_106 : decode mX10_judge.2.1 106 = .ok (.iadd, 1) := by decide +kernel
theorem dX10_judge_107 : decode mX10_judge.2.1 107 = .ok (.ireturn, 1) := by decide +kernel
theorem dX10_judge_108 : decode mX10_judge.2.1 108 = .ok (.aload 4, 2) := by decide +kernel
theorem dX10_judge_110 : decode mX10_judge.2.1 110 = .ok (.getfield 343, 3) := by decide +kernel
theorem dX10_judge_113 : decode mX10_judge.2.1 113 = .ok (.iload_n 2, 1) := by decide +kernel
theorem dX10_judge_114 : decode mX10_judge.2.1 114 = .ok (.iload 7, 2) := by decide +kernel
theorem dX10_judge_116 : decode mX10_judge.2.1 116 = .ok (.iadd, 1) := by decide +kernel
theorem dX10_judge_117 : decode mX10_judge.2.1 117 = .ok (.laload, 1) := by decide +kernel
theorem dX10_judge_118 : decode mX10_judge.2.1 118 = .ok (.aload 6, 2) := by decide +kernel
theorem dX10_judge_120 : decode mX10_judge.2.1 120 = .ok (.iload 7, 2) := by decide +kernel
theorem dX10_judge_122 : decode mX10_judge.2.1 122 = .ok (.iaload, 1) := by decide +kernel
theorem dX10_judge_123 : decode mX10_judge.2.1 123 = .ok (.i2l, 1) := by decide +kernel
theorem dX10_judge_124 : decode mX10_judge.2.1 124 = .ok (.lcmp, 1) := by decide +kernel
theorem dX10_judge_125 : decode mX10_judge.2.1 125 = .ok (.ifCond .eq 6, 3) := by decide +kernel
theorem dX10_judge_128 : decode mX10_judge.2.1 128 = .ok (.iload 7, 2) := by decide +kernel
theorem dX10_judge_130 : decode mX10_judge.2.1 130 = .ok (.ireturn, 1) := by decide +kernel
theorem dX10_judge_131 : decode mX10_judge.2.1 131 = .ok (.iinc 7 1, 3) := by decide +kernel
theorem dX10_judge_134 : decode mX10_judge.2.1 134 = .ok (.goto (-54), 3) := by decide +kernel
theorem dX10_judge_137 : decode mX10_judge.2.1 137 = .ok (.bipush (-5), 2) := by decide +kernel
theorem dX10_judge_139 : decode mX10_judge.2.1 139 = .ok (.ireturn, 1) := by decide +kernel
def mX10_tape : String × ByteArray × Nat := (RX10, cX10_tape, 4)
theorem dX10_tape_0 : decode mX10_tape.2.1 0 = .ok (.iload_n 1, 1) := by decide +kernel
theorem dX10_tape_1 : decode mX10_tape.2.1 1 = .ok (.invokestatic 66, 3) := by decide +kernel
theorem dX10_tape_4 : decode mX10_tape.2.1 4 = .ok (.ifCond .ne 5, 3) := by decide +kernel
theorem dX10_tape_7 : decode mX10_tape.2.1 7 = .ok (.iconst (-1), 1) := by decide +kernel
theorem dX10_tape_8 : decode mX10_tape.2.1 8 = .ok (.ireturn, 1) := by decide +kernel
theorem dX10_tape_9 : decode mX10_tape.2.1 9 = .ok (.iload_n 2, 1) := by decide +kernel
theorem dX10_tape_10 : decode mX10_tape.2.1 10 = .ok (.iconst (-1), 1) := by decide +kernel
theorem dX10_tape_11 : decode mX10_tape.2.1 11 = .ok (.if_icmp .lt 8, 3) := by decide +kernel
theorem dX10_tape_14 : decode mX10_tape.2.1 14 = .ok (.iload_n 2, 1) := by decide +kernel
theorem dX10_tape_15 : decode mX10_tape.2.1 15 = .ok (.iconst 4, 1) := by decide +kernel
theorem dX10_tape_16 : decode mX10_tape.2.1 16 = .ok (.if_icmp .le 6, 3) := by decide +kernel
theorem dX10_tape_19 : decode mX10_tape.2.1 19 = .ok (.bipush (-2), 2) := by decide +kernel
theorem dX10_tape_21 : decode mX10_tape.2.1 21 = .ok (.ireturn, 1) := by decide +kernel
theorem dX10_tape_22 : decode mX10_tape.2.1 22 = .ok (.iload_n 2, 1) := by decide +kernel
theorem dX10_tape_23 : decode mX10_tape.2.1 23 = .ok (.iconst (-1), 1) := by decide +kernel
theorem dX10_tape_24 : decode mX10_tape.2.1 24 = .ok (.if_icmp .ne 16, 3) := by decide +kernel
theorem dX10_tape_27 : decode mX10_tape.2.1 27 = .ok (.aload_n 0, 1) := by decide +kernel
theorem dX10_tape_28 : decode mX10_tape.2.1 28 = .ok (.getfield 44, 3) := by decide +kernel
theorem dX10_tape_31 : decode mX10_tape.2.1 31 = .ok (.iload_n 1, 1) := by decide +kernel
theorem dX10_tape_32 : decode mX10_tape.2.1 32 = .ok (.aaload, 1) := by decide +kernel
theorem dX10_tape_33 : decode mX10_tape.2.1 33 = .ok (.iconst (-1), 1) := by decide +kernel
theorem dX10_tape_34 : decode mX10_tape.2.1 34 = .ok (.iconst 0, 1) := by decide +kernel
theorem dX10_tape_35 : decode mX10_tape.2.1 35 = .ok (.invokevirtual 346, 3) := by decide +kernel
theorem dX10_tape_38 : decode mX10_tape.2.1 38 = .ok (.iconst 1, 1) := by decide +kernel
theorem dX10_tape_39 : decode mX10_tape.2.1 39 = .ok (.ireturn, 1) := by decide +kernel
theorem dX10_tape_40 : decode mX10_tape.2.1 40 = .ok (.iload_n 3, 1) := by decide +kernel
theorem dX10_tape_41 : decode mX10_tape.2.1 41 = .ok (.bipush 60, 2) := by decide +kernel
theorem dX10_tape_43 : decode mX10_tape.2.1 43 = .ok (.if_icmp .le 6, 3) := by decide +kernel
theorem dX10_tape_46 : decode mX10_tape.2.1 46 = .ok (.bipush (-2), 2) := by decide +kernel
theorem dX10_tape_48 : decode mX10_tape.2.1 48 = .ok (.ireturn, 1) := by decide +kernel
theorem dX10_tape_49 : decode mX10_tape.2.1 49 = .ok (.iload_n 3, 1) := by decide +kernel
theorem dX10_tape_50 : decode mX10_tape.2.1 50 = .ok (.ifCond .ge 6, 3) := by decide +kernel
theorem dX10_tape_53 : decode mX10_tape.2.1 53 = .ok (.bipush (-14), 2) := by decide +kernel
theorem dX10_tape_55 : decode mX10_tape.2.1 55 = .ok (.ireturn, 1) := by decide +kernel
theorem dX10_tape_56 : decode mX10_tape.2.1 56 = .ok (.aload_n 0, 1) := by decide +kernel
theorem dX10_tape_57 : decode mX10_tape.2.1 57 = .ok (.getfield 44, 3) := by decide +kernel
theorem dX10_tape_60 : decode mX10_tape.2.1 60 = .ok (.iload_n 1, 1) := by decide +kernel
theorem dX10_tape_61 : decode mX10_tape.2.1 61 = .ok (.aaload, 1) := by decide +kernel
theorem dX10_tape_62 : decode mX10_tape.2.1 62 = .ok (.iload_n 2, 1) := by decide +kernel
theorem dX10_tape_63 : decode mX10_tape.2.1 63 = .ok (.iload_n 3, 1) := by decide +kernel
theorem dX10_tape_64 : decode mX10_tape.2.1 64 = .ok (.invokevirtual 346, 3) := by decide +kernel
theorem dX10_tape_67 : decode mX10_tape.2.1 67 = .ok (.iconst 1, 1) := by decide +kernel
theorem dX10_tape_68 : decode mX10_tape.2.1 68 = .ok (.ireturn, 1) := by decide +kernel
def mX10_item : String × ByteArray × Nat := (RX10, cX10_item, 6)
theorem dX10_item_0 : decode mX10_item.2.1 0 = .ok (.iload_n 1, 1) := by decide +kernel
theorem dX10_item_1 : decode mX10_item.2.1 1 = .ok (.invokestatic 66, 3) := by decide +kernel
theorem dX10_item_4 : decode mX10_item.2.1 4 = .ok (.ifCond .ne 5, 3) := by decide +kernel
theorem dX10_item_7 : decode mX10_item.2.1 7 = .ok (.iconst (-1), 1) := by decide +kernel
theorem dX10_item_8 : decode mX10_item.2.1 8 = .ok (.ireturn, 1) := by decide +kernel
theorem dX10_item_9 : decode mX10_item.2.1 9 = .ok (.aload_n 0, 1) := by decide +kernel
theorem dX10_item_10 : decode mX10_item.2.1 10 = .ok (.getfield 44, 3) := by decide +kernel
theorem dX10_item_13 : decode mX10_item.2.1 13 = .ok (.iload_n 1, 1) := by decide +kernel
theorem dX10_item_14 : decode mX10_item.2.1 14 = .ok (.aaload, 1) := by decide +kernel
theorem dX10_item_15 : decode mX10_item.2.1 15 = .ok (.astore 5, 2) := by decide +kernel
theorem dX10_item_17 : decode mX10_item.2.1 17 = .ok (.aload 5, 2) := by decide +kernel
theorem dX10_item_19 : decode mX10_item.2.1 19 = .ok (.getfield 339, 3) := by decide +kernel
theorem dX10_item_22 : decode mX10_item.2.1 22 = .ok (.iconst (-1), 1) := by decide +kernel
theorem dX10_item_23 : decode mX10_item.2.1 23 = .ok (.if_icmp .ne 6, 3) := by decide +kernel
theorem dX10_item_26 : decode mX10_item.2.1 26 = .ok (.bipush (-11), 2) := by decide +kernel
theorem dX10_item_28 : decode mX10_item.2.1 28 = .ok (.ireturn, 1) := by decide +kernel
theorem dX10_item_29 : decode mX10_item.2.1 29 = .ok (.iload_n 2, 1) := by decide +kernel
theorem dX10_item_30 : decode mX10_item.2.1 30 = .ok (.ifCond .lt 12, 3) := by decide +kernel
theorem dX10_item_33 : decode mX10_item.2.1 33 = .ok (.iload_n 2, 1) := by decide +kernel
theorem dX10_item_34 : decode mX10_item.2.1 34 = .ok (.aload 5, 2) := by decide +kernel
theorem dX10_item_36 : decode mX10_item.2.1 36 = .ok (.getfield 342, 3) := by decide +kernel
theorem dX10_item_39 : decode mX10_item.2.1 39 = .ok (.if_icmp .lt 6, 3) := by decide +kernel
theorem dX10_item_42 : decode mX10_item.2.1 42 = .ok (.bipush (-13), 2) := by decide +kernel
theorem dX10_item_44 : decode mX10_item.2.1 44 = .ok (.ireturn, 1) := by decide +kernel
theorem dX10_item_45 : decode mX10_item.2.1 45 = .ok (.aload 5, 2) := by decide +kernel
theorem dX10_item_47 : decode mX10_item.2.1 47 = .ok (.getfield 343, 3) := by decide +kernel
theorem dX10_item_50 : decode mX10_item.2.1 50 = .ok (.iload_n 2, 1) := by decide +kernel
theorem dX10_item_51 : decode mX10_item.2.1 51 = .ok (.aload 5, 2) := by decide +kernel
theorem dX10_item_53 : decode mX10_item.2.1 53 = .ok (.lload_n 3, 1) := by decide +kernel
theorem dX10_item_54 : decode mX10_item.2.1 54 = .ok (.invokevirtual 349, 3) := by decide +kernel
theorem dX10_item_57 : decode mX10_item.2.1 57 = .ok (.lastore, 1) := by decide +kernel
theorem dX10_item_58 : decode mX10_item.2.1 58 = .ok (.iconst 1, 1) := by decide +kernel
theorem dX10_item_59 : decode mX10_item.2.1 59 = .ok (.ireturn, 1) := by decide +kernel
def mX10_peek : String × ByteArray × Nat := (RX10, cX10_peek, 4)
theorem dX10_peek_0 : decode mX10_peek.2.1 0 = .ok (.iload_n 1, 1) := by decide +kernel
theorem dX10_peek_1 : decode mX10_peek.2.1 1 = .ok (.invokestatic 66, 3) := by decide +kernel
theorem dX10_peek_4 : decode mX10_peek.2.1 4 = .ok (.ifCond .ne 7, 3) := by decide +kernel
theorem dX10_peek_7 : decode mX10_peek.2.1 7 = .ok (.ldc2_w 101, 3) := by decide +kernel
theorem dX10_peek_10 : decode mX10_peek.2.1 10 = .ok (.lreturn, 1) := by decide +kernel
theorem dX10_peek_11 : decode mX10_peek.2.1 11 = .ok (.aload_n 0, 1) := by decide +kernel
theorem dX10_peek_12 : decode mX10_peek.2.1 12 = .ok (.getfield 44, 3) := by decide +kernel
theorem dX10_peek_15 : decode mX10_peek.2.1 15 = .ok (.iload_n 1, 1) := by decide +kernel
theorem dX10_peek_16 : decode mX10_peek.2.1 16 = .ok (.aaload, 1) := by decide +kernel
theorem dX10_peek_17 : decode mX10_peek.2.1 17 = .ok (.astore_n 3, 1) := by decide +kernel
theorem dX10_peek_18 : decode mX10_peek.2.1 18 = .ok (.iload_n 2, 1) := by decide +kernel
theorem dX10_peek_19 : decode mX10_peek.2.1 19 = .ok (.ifCond .lt 20, 3) := by decide +kernel
theorem dX10_peek_22 : decode mX10_peek.2.1 22 = .ok (.iload_n 2, 1) := by decide +kernel
theorem dX10_peek_23 : decode mX10_peek.2.1 23 = .ok (.aload_n 3, 1) := by decide +kernel
theorem dX10_peek_24 : decode mX10_peek.2.1 24 = .ok (.getfield 342, 3) := by decide +kernel
theorem dX10_peek_27 : decode mX10_peek.2.1 27 = .ok (.if_icmp .ge 12, 3) := by decide +kernel
theorem dX10_peek_30 : decode mX10_peek.2.1 30 = .ok (.aload_n 3, 1) := by decide +kernel
theorem dX10_peek_31 : decode mX10_peek.2.1 31 = .ok (.getfield 343, 3) := by decide +kernel
theorem dX10_peek_34 : decode mX10_peek.2.1 34 = .ok (.iload_n 2, 1) := by decide +kernel
theorem dX10_peek_35 : decode mX10_peek.2.1 35 = .ok (.laload, 1) := by decide +kernel
theorem dX10_peek_36 : decode mX10_peek.2.1 36 = .ok (.goto 6, 3) := by decide +kernel
theorem dX10_peek_39 : decode mX10_peek.2.1 39 = .ok (.ldc2_w 101, 3) := by decide +kernel
theorem dX10_peek_42 : decode mX10_peek.2.1 42 = .ok (.lreturn, 1) := by decide +kernel
def mX10_shift : String × ByteArray × Nat := (RX10, cX10_shift, 8)
theorem dX10_shift_0 : decode mX10_shift.2.1 0 = .ok (.iload_n 1, 1) := by decide +kernel
theorem dX10_shift_1 : decode mX10_shift.2.1 1 = .ok (.invokestatic 66, 3) := by decide +kernel
theorem dX10_shift_4 : decode mX10_shift.2.1 4 = .ok (.ifCond .eq 10, 3) := by decide +kernel
theorem dX10_shift_7 : decode mX10_shift.2.1 7 = .ok (.iload_n 3, 1) := by decide +kernel
theorem dX10_shift_8 : decode mX10_shift.2.1 8 = .ok (.invokestatic 66, 3) := by decide +kernel
theorem dX10_shift_11 : decode mX10_shift.2.1 11 = .ok (.ifCond .ne 5, 3) := by decide +kernel
theorem dX10_shift_14 : decode mX10_shift.2.1 14 = .ok (.iconst (-1), 1) := by decide +kernel
theorem dX10_shift_15 : decode mX10_shift.2.1 15 = .ok (.ireturn, 1) := by decide +kernel
theorem dX10_shift_16 : decode mX10_shift.2.1 16 = .ok (.aload_n 0, 1) := by decide +kernel
theorem dX10_shift_17 : decode mX10_shift.2.1 17 = .ok (.getfield 44, 3) := by decide +kernel
theorem dX10_shift_20 : decode mX10_shift.2.1 20 = .ok (.iload_n 1, 1) := by decide +kernel
theorem dX10_shift_21 : decode mX10_shift.2.1 21 = .ok (.aaload, 1) := by decide +kernel
theorem dX10_shift_22 : decode mX10_shift.2.1 22 = .ok (.astore 6, 2) := by decide +kernel
theorem dX10_shift_24 : decode mX10_shift.2.1 24 = .ok (.aload_n 0, 1) := by decide +kernel
theorem dX10_shift_25 : decode mX10_shift.2.1 25 = .ok (.getfield 44, 3) := by decide +kernel
theorem dX10_shift_28 : decode mX10_shift.2.1 28 = .ok (.iload_n 3, 1) := by decide +kernel
theorem dX10_shift_29 : decode mX10_shift.2.1 29 = .ok (.aaload, 1) := by decide +kernel
theorem dX10_shift_30 : decode mX10_shift.2.1 30 = .ok (.astore 7, 2) := by decide +kernel
theorem dX10_shift_32 : decode mX10_shift.2.1 32 = .ok (.aload 6, 2) := by decide +kernel
theorem dX10_shift_34 : decode mX10_shift.2.1 34 = .ok (.getfield 339, 3) := by decide +kernel
theorem dX10_shift_37 : decode mX10_shift.2.1 37 = .ok (.iconst (-1), 1) := by decide +kernel
theorem dX10_shift_38 : decode mX10_shift.2.1 38 = .ok (.if_icmp .eq 12, 3) := by decide +kernel
theorem dX10_shift_41 : decode mX10_shift.2.1 41 = .ok (.aload 7, 2) := by decide +kernel
theorem dX10_shift_43 : decode mX10_shift.2.1 43 = .ok (.getfield 339, 3) := by decide +kernel
theorem dX10_shift_46 : decode mX10_shift.2.1 46 = .ok (.iconst (-1), 1) := by decide +kernel
theorem dX10_shift_47 : decode mX10_shift.2.1 47 = .ok (.if_icmp .ne 6, 3) := by decide +kernel
theorem dX10_shift_50 : decode mX10_shift.2.1 50 = .ok (.bipush (-11), 2) := by decide +kernel
theorem dX10_shift_52 : decode mX10_shift.2.1 52 = .ok (.ireturn, 1) := by decide +kernel
theorem dX10_shift_53 : decode mX10_shift.2.1 53 = .ok (.aload 6, 2) := by decide +kernel
theorem dX10_shift_55 : decode mX10_shift.2.1 55 = .ok (.getfield 339, 3) := by decide +kernel
theorem dX10_shift_58 : decode mX10_shift.2.1 58 = .ok (.aload 7, 2) := by decide +kernel
theorem dX10_shift_60 : decode mX10_shift.2.1 60 = .ok (.getfield 339, 3) := by decide +kernel
theorem dX10_shift_63 : decode mX10_shift.2.1 63 = .ok (.if_icmp .eq 6, 3) := by decide +kernel
theorem dX10_shift_66 : decode mX10_shift.2.1 66 = .ok (.bipush (-12), 2) := by decide +kernel
theorem dX10_shift_68 : decode mX10_shift.2.1 68 = .ok (.ireturn, 1) := by decide +kernel
theorem dX10_shift_69 : decode mX10_shift.2.1 69 = .ok (.aload 6, 2) := by decide +kernel
theorem dX10_shift_71 : decode mX10_shift.2.1 71 = .ok (.iload_n 2, 1) := by decide +kernel
theorem dX10_shift_72 : decode mX10_shift.2.1 72 = .ok (.iload 5, 2) := by decide +kernel
theorem dX10_shift_74 : decode mX10_shift.2.1 74 = .ok (.invokevirtual 353, 3) := by decide +kernel
theorem dX10_shift_77 : decode mX10_shift.2.1 77 = .ok (.ifCond .eq 15, 3) := by decide +kernel
theorem dX10_shift_80 : decode mX10_shift.2.1 80 = .ok (.aload 7, 2) := by decide +kernel
theorem dX10_shift_82 : decode mX10_shift.2.1 82 = .ok (.iload 4, 2) := by decide +kernel
theorem dX10_shift_84 : decode mX10_shift.2.1 84 = .ok (.iload 5, 2) := by decide +kernel
theorem dX10_shift_86 : decode mX10_shift.2.1 86 = .ok (.invokevirtual 353, 3) := by decide +kernel
theorem dX10_shift_89 : decode mX10_shift.2.1 89 = .ok (.ifCond .ne 6, 3) := by decide +kernel
theorem dX10_shift_92 : decode mX10_shift.2.1 92 = .ok (.bipush (-13), 2) := by decide +kernel
theorem dX10_shift_94 : decode mX10_shift.2.1 94 = .ok (.ireturn, 1) := by decide +kernel
theorem dX10_shift_95 : decode mX10_shift.2.1 95 = .ok (.aload 6, 2) := by decide +kernel
theorem dX10_shift_97 : decode mX10_shift.2.1 97 = .ok (.getfield 343, 3) := by decide +kernel
theorem dX10_shift_100 : decode mX10_shift.2.1 100 = .ok (.iload_n 2, 1) := by decide +kernel
theorem dX10_shift_101 : decode mX10_shift.2.1 101 = .ok (.aload 7, 2) := by decide +kernel
theorem dX10_shift_103 : decode mX10_shift.2.1 103 = .ok (.getfield 343, 3) := by decide +kernel
theorem dX10_shift_106 : decode mX10_shift.2.1 106 = .ok (.iload 4, 2) := by decide +kernel
theorem dX10_shift_108 : decode mX10_shift.2.1 108 = .ok (.iload 5, 2) := by decide +kernel
theorem dX10_shift_110 : decode mX10_shift.2.1 110 = .ok (.invokestatic 356, 3) := by decide +kernel
theorem dX10_shift_113 : decode mX10_shift.2.1 113 = .ok (.iload 5, 2) := by decide +kernel
theorem dX10_shift_115 : decode mX10_shift.2.1 115 = .ok (.ireturn, 1) := by decide +kernel
def mX10_isPiece : String × ByteArray × Nat := (RX10, cX10_isPiece, 1)
theorem dX10_isPiece_0 : decode mX10_isPiece.2.1 0 = .ok (.iload_n 0, 1) := by decide +kernel
theorem dX10_isPiece_1 : decode mX10_isPiece.2.1 1 = .ok (.ifCond .lt 13, 3) := by decide +kernel
theorem dX10_isPiece_4 : decode mX10_isPiece.2.1 4 = .ok (.iload_n 0, 1) := by decide +kernel
theorem dX10_isPiece_5 : decode mX10_isPiece.2.1 5 = .ok (.bipush 6, 2) := by decide +kernel
theorem dX10_isPiece_7 : decode mX10_isPiece.2.1 7 = .ok (.if_icmp .ge 7, 3) := by decide +kernel
theorem dX10_isPiece_10 : decode mX10_isPiece.2.1 10 = .ok (.iconst 1, 1) := by decide +kernel
theorem dX10_isPiece_11 : decode mX10_isPiece.2.1 11 = .ok (.goto 4, 3) := by decide +kernel
theorem dX10_isPiece_14 : decode mX10_isPiece.2.1 14 = .ok (.iconst 0, 1) := by decide +kernel
theorem dX10_isPiece_15 : decode mX10_isPiece.2.1 15 = .ok (.ireturn, 1) := by decide +kernel
def mX10_isSide : String × ByteArray × Nat := (RX10, cX10_isSide, 1)
theorem dX10_isSide_0 : decode mX10_isSide.2.1 0 = .ok (.iload_n 0, 1) := by decide +kernel
theorem dX10_isSide_1 : decode mX10_isSide.2.1 1 = .ok (.iconst 1, 1) := by decide +kernel
theorem dX10_isSide_2 : decode mX10_isSide.2.1 2 = .ok (.if_icmp .lt 13, 3) := by decide +kernel
theorem dX10_isSide_5 : decode mX10_isSide.2.1 5 = .ok (.iload_n 0, 1) := by decide +kernel
theorem dX10_isSide_6 : decode mX10_isSide.2.1 6 = .ok (.bipush 6, 2) := by decide +kernel
theorem dX10_isSide_8 : decode mX10_isSide.2.1 8 = .ok (.if_icmp .gt 7, 3) := by decide +kernel
theorem dX10_isSide_11 : decode mX10_isSide.2.1 11 = .ok (.iconst 1, 1) := by decide +kernel
theorem dX10_isSide_12 : decode mX10_isSide.2.1 12 = .ok (.goto 4, 3) := by decide +kernel
theorem dX10_isSide_15 : decode mX10_isSide.2.1 15 = .ok (.iconst 0, 1) := by decide +kernel
theorem dX10_isSide_16 : decode mX10_isSide.2.1 16 = .ok (.ireturn, 1) := by decide +kernel
def mX10_areHeights : String × ByteArray × Nat := (RX10, cX10_areHeights, 6)
theorem dX10_areHeights_0 : decode mX10_areHeights.2.1 0 = .ok (.iload_n 1, 1) := by decide +kernel
theorem dX10_areHeights_1 : decode mX10_areHeights.2.1 1 = .ok (.ifCond .ge 5, 3) := by decide +kernel
theorem dX10_areHeights_4 : decode mX10_areHeights.2.1 4 = .ok (.iconst 0, 1) := by decide +kernel
theorem dX10_areHeights_5 : decode mX10_areHeights.2.1 5 = .ok (.ireturn, 1) := by decide +kernel
theorem dX10_areHeights_6 : decode mX10_areHeights.2.1 6 = .ok (.iload_n 1, 1) := by decide +kernel
theorem dX10_areHeights_7 : decode mX10_areHeights.2.1 7 = .ok (.istore_n 2, 1) := by decide +kernel
theorem dX10_areHeights_8 : decode mX10_areHeights.2.1 8 = .ok (.iload_n 0, 1) := by decide +kernel
theorem dX10_areHeights_9 : decode mX10_areHeights.2.1 9 = .ok (.istore_n 3, 1) := by decide +kernel
theorem dX10_areHeights_10 : decode mX10_areHeights.2.1 10 = .ok (.iload_n 0, 1) := by decide +kernel
theorem dX10_areHeights_11 : decode mX10_areHeights.2.1 11 = .ok (.iconst 1, 1) := by decide +kernel
theorem dX10_areHeights_12 : decode mX10_areHeights.2.1 12 = .ok (.isub, 1) := by decide +kernel
theorem dX10_areHeights_13 : decode mX10_areHeights.2.1 13 = .ok (.istore 4, 2) := by decide +kernel
theorem dX10_areHeights_15 : decode mX10_areHeights.2.1 15 = .ok (.iload 4, 2) := by decide +kernel
theorem dX10_areHeights_17 : decode mX10_areHeights.2.1 17 = .ok (.ifCond .lt 31, 3) := by decide +kernel
theorem dX10_areHeights_20 : decode mX10_areHeights.2.1 20 = .ok (.iload_n 2, 1) := by decide +kernel
theorem dX10_areHeights_21 : decode mX10_areHeights.2.1 21 = .ok (.bipush 10, 2) := by decide +kernel
theorem dX10_areHeights_23 : decode mX10_areHeights.2.1 23 = .ok (.irem, 1) := by decide +kernel
theorem dX10_areHeights_24 : decode mX10_areHeights.2.1 24 = .ok (.istore 5, 2) := by decide +kernel
theorem dX10_areHeights_26 : decode mX10_areHeights.2.1 26 = .ok (.iload 5, 2) := by decide +kernel
theorem dX10_areHeights_28 : decode mX10_areHeights.2.1 28 = .ok (.iload_n 3, 1) := by decide +kernel
theorem dX10_areHeights_29 : decode mX10_areHeights.2.1 29 = .ok (.if_icmp .le 5, 3) := by decide +kernel
theorem dX10_areHeights_32 : decode mX10_areHeights.2.1 32 = .ok (.iconst 0, 1) := by decide +kernel
theorem dX10_areHeights_33 : decode mX10_areHeights.2.1 33 = .ok (.ireturn, 1) := by decide +kernel
theorem dX10_areHeights_34 : decode mX10_areHeights.2.1 34 = .ok (.iload 5, 2) := by decide +kernel
theorem dX10_areHeights_36 : decode mX10_areHeights.2.1 36 = .ok (.istore_n 3, 1) := by decide +kernel
theorem dX10_areHeights_37 : decode mX10_areHeights.2.1 37 = .ok (.iload_n 2, 1) := by decide +kernel
theorem dX10_areHeights_38 : decode mX10_areHeights.2.1 38 = .ok (.bipush 10, 2) := by decide +kernel
theorem dX10_areHeights_40 : decode mX10_areHeights.2.1 40 = .ok (.idiv, 1) := by decide +kernel
theorem dX10_areHeights_41 : decode mX10_areHeights.2.1 41 = .ok (.istore_n 2, 1) := by decide +kernel
theorem dX10_areHeights_42 : decode mX10_areHeights.2.1 42 = .ok (.iinc 4 (-1), 3) := by decide +kernel
theorem dX10_areHeights_45 : decode mX10_areHeights.2.1 45 = .ok (.goto (-30), 3) := by decide +kernel
theorem dX10_areHeights_48 : decode mX10_areHeights.2.1 48 = .ok (.iload_n 2, 1) := by decide +kernel
theorem dX10_areHeights_49 : decode mX10_areHeights.2.1 49 = .ok (.ifCond .ne 7, 3) := by decide +kernel
theorem dX10_areHeights_52 : decode mX10_areHeights.2.1 52 = .ok (.iconst 1, 1) := by decide +kernel
theorem dX10_areHeights_53 : decode mX10_areHeights.2.1 53 = .ok (.goto 4, 3) := by decide +kernel
theorem dX10_areHeights_56 : decode mX10_areHeights.2.1 56 = .ok (.iconst 0, 1) := by decide +kernel
theorem dX10_areHeights_57 : decode mX10_areHeights.2.1 57 = .ok (.ireturn, 1) := by decide +kernel
def mX10_digit : String × ByteArray × Nat := (RX10, cX10_digit, 4)
theorem dX10_digit_0 : decode mX10_digit.2.1 0 = .ok (.iload_n 0, 1) := by decide +kernel
theorem dX10_digit_1 : decode mX10_digit.2.1 1 = .ok (.istore_n 2, 1) := by decide +kernel
theorem dX10_digit_2 : decode mX10_digit.2.1 2 = .ok (.iconst 0, 1) := by decide +kernel
theorem dX10_digit_3 : decode mX10_digit.2.1 3 = .ok (.istore_n 3, 1) := by decide +kernel
theorem dX10_digit_4 : decode mX10_digit.2.1 4 = .ok (.iload_n 3, 1) := by decide +kernel
theorem dX10_digit_5 : decode mX10_digit.2.1 5 = .ok (.iload_n 1, 1) := by decide +kernel
theorem dX10_digit_6 : decode mX10_digit.2.1 6 = .ok (.if_icmp .ge 14, 3) := by decide +kernel
theorem dX10_digit_9 : decode mX10_digit.2.1 9 = .ok (.iload_n 2, 1) := by decide +kernel
theorem dX10_digit_10 : decode mX10_digit.2.1 10 = .ok (.bipush 10, 2) := by decide +kernel
theorem dX10_digit_12 : decode mX10_digit.2.1 12 = .ok (.idiv, 1) := by decide +kernel
theorem dX10_digit_13 : decode mX10_digit.2.1 13 = .ok (.istore_n 2, 1) := by decide +kernel
theorem dX10_digit_14 : decode mX10_digit.2.1 14 = .ok (.iinc 3 1, 3) := by decide +kernel
theorem dX10_digit_17 : decode mX10_digit.2.1 17 = .ok (.goto (-13), 3) := by decide +kernel
theorem dX10_digit_20 : decode mX10_digit.2.1 20 = .ok (.iload_n 2, 1) := by decide +kernel
theorem dX10_digit_21 : decode mX10_digit.2.1 21 = .ok (.bipush 10, 2) := by decide +kernel
theorem dX10_digit_23 : decode mX10_digit.2.1 23 = .ok (.irem, 1) := by decide +kernel
theorem dX10_digit_24 : decode mX10_digit.2.1 24 = .ok (.ireturn, 1) := by decide +kernel
def mX10_greatestStanding : String × ByteArray × Nat := (RX10, cX10_greatestStanding, 3)
theorem dX10_greatestStanding_0 : decode mX10_greatestStanding.2.1 0 = .ok (.iconst 0, 1) := by decide +kernel
theorem dX10_greatestStanding_1 : decode mX10_greatestStanding.2.1 1 = .ok (.istore_n 1, 1) := by decide +kernel
theorem dX10_greatestStanding_2 : decode mX10_greatestStanding.2.1 2 = .ok (.iconst 1, 1) := by decide +kernel
theorem dX10_greatestStanding_3 : decode mX10_greatestStanding.2.1 3 = .ok (.istore_n 2, 1) := by decide +kernel
theorem dX10_greatestStanding_4 : decode mX10_greatestStanding.2.1 4 = .ok (.iload_n 2, 1) := by decide +kernel
theorem dX10_greatestStanding_5 : decode mX10_greatestStanding.2.1 5 = .ok (.aload_n 0, 1) := by decide +kernel
theorem dX10_greatestStanding_6 : decode mX10_greatestStanding.2.1 6 = .ok (.arraylength, 1) := by decide +kernel
theorem dX10_greatestStanding_7 : decode mX10_greatestStanding.2.1 7 = .ok (.if_icmp .ge 17, 3) := by decide +kernel
theorem dX10_greatestStanding_10 : decode mX10_greatestStanding.2.1 10 = .ok (.aload_n 0, 1) := by decide +kernel
theorem dX10_greatestStanding_11 : decode mX10_greatestStanding.2.1 11 = .ok (.iload_n 2, 1) := by decide +kernel
theorem dX10_greatestStanding_12 : decode mX10_greatestStanding.2.1 12 = .ok (.iaload, 1) := by decide +kernel
theorem dX10_greatestStanding_13 : decode mX10_greatestStanding.2.1 13 = .ok (.ifCond .eq 5, 3) := by decide +kernel
theorem dX10_greatestStanding_16 : decode mX10_greatestStanding.2.1 16 = .ok (.iload_n 2, 1) := by decide +kernel
theorem dX10_greatestStanding_17 : decode mX10_greatestStanding.2.1 17 = .ok (.istore_n 1, 1) := by decide +kernel
theorem dX10_greatestStanding_18 : decode mX10_greatestStanding.2.1 18 = .ok (.iinc 2 1, 3) := by decide +kernel
theorem dX10_greatestStanding_21 : decode mX10_greatestStanding.2.1 21 = .ok (.goto (-17), 3) := by decide +kernel
theorem dX10_greatestStanding_24 : decode mX10_greatestStanding.2.1 24 = .ok (.iload_n 1, 1) := by decide +kernel
theorem dX10_greatestStanding_25 : decode mX10_greatestStanding.2.1 25 = .ok (.ireturn, 1) := by decide +kernel
def mX10_inLowestTerms : String × ByteArray × Nat := (RX10, cX10_inLowestTerms, 4)
theorem dX10_inLowestTerms_0 : decode mX10_inLowestTerms.2.1 0 = .ok (.iload_n 1, 1) := by decide +kernel
theorem dX10_inLowestTerms_1 : decode mX10_inLowestTerms.2.1 1 = .ok (.iconst 1, 1) := by decide +kernel
theorem dX10_inLowestTerms_2 : decode mX10_inLowestTerms.2.1 2 = .ok (.invokestatic 103, 3) := by decide +kernel
theorem dX10_inLowestTerms_5 : decode mX10_inLowestTerms.2.1 5 = .ok (.istore_n 3, 1) := by decide +kernel
theorem dX10_inLowestTerms_6 : decode mX10_inLowestTerms.2.1 6 = .ok (.iload_n 3, 1) := by decide +kernel
theorem dX10_inLowestTerms_7 : decode mX10_inLowestTerms.2.1 7 = .ok (.iconst 1, 1) := by decide +kernel
theorem dX10_inLowestTerms_8 : decode mX10_inLowestTerms.2.1 8 = .ok (.if_icmp .le 21, 3) := by decide +kernel
theorem dX10_inLowestTerms_11 : decode mX10_inLowestTerms.2.1 11 = .ok (.iload_n 0, 1) := by decide +kernel
theorem dX10_inLowestTerms_12 : decode mX10_inLowestTerms.2.1 12 = .ok (.iload_n 3, 1) := by decide +kernel
theorem dX10_inLowestTerms_13 : decode mX10_inLowestTerms.2.1 13 = .ok (.irem, 1) := by decide +kernel
theorem dX10_inLowestTerms_14 : decode mX10_inLowestTerms.2.1 14 = .ok (.ifCond .ne 9, 3) := by decide +kernel
theorem dX10_inLowestTerms_17 : decode mX10_inLowestTerms.2.1 17 = .ok (.iload_n 1, 1) := by decide +kernel
theorem dX10_inLowestTerms_18 : decode mX10_inLowestTerms.2.1 18 = .ok (.iload_n 3, 1) := by decide +kernel
theorem dX10_inLowestTerms_19 : decode mX10_inLowestTerms.2.1 19 = .ok (.irem, 1) := by decide +kernel
theorem dX10_inLowestTerms_20 : decode mX10_inLowestTerms.2.1 20 = .ok (.ifCond .eq 9, 3) := by decide +kernel
theorem dX10_inLowestTerms_23 : decode mX10_inLowestTerms.2.1 23 = .ok (.iinc 3 (-1), 3) := by decide +kernel
theorem dX10_inLowestTerms_26 : decode mX10_inLowestTerms.2.1 26 = .ok (.goto (-20), 3) := by decide +kernel
theorem dX10_inLowestTerms_29 : decode mX10_inLowestTerms.2.1 29 = .ok (.iload_n 2, 1) := by decide +kernel
theorem dX10_inLowestTerms_30 : decode mX10_inLowestTerms.2.1 30 = .ok (.ifCond .ne 10, 3) := by decide +kernel
theorem dX10_inLowestTerms_33 : decode mX10_inLowestTerms.2.1 33 = .ok (.iload_n 0, 1) := by decide +kernel
theorem dX10_inLowestTerms_34 : decode mX10_inLowestTerms.2.1 34 = .ok (.iload_n 3, 1) := by decide +kernel
theorem dX10_inLowestTerms_35 : decode mX10_inLowestTerms.2.1 35 = .ok (.idiv, 1) := by decide +kernel
theorem dX10_inLowestTerms_36 : decode mX10_inLowestTerms.2.1 36 = .ok (.i2l, 1) := by decide +kernel
theorem dX10_inLowestTerms_37 : decode mX10_inLowestTerms.2.1 37 = .ok (.goto 7, 3) := by decide +kernel
theorem dX10_inLowestTerms_40 : decode mX10_inLowestTerms.2.1 40 = .ok (.iload_n 1, 1) := by decide +kernel
theorem dX10_inLowestTerms_41 : decode mX10_inLowestTerms.2.1 41 = .ok (.iload_n 3, 1) := by decide +kernel
theorem dX10_inLowestTerms_42 : decode mX10_inLowestTerms.2.1 42 = .ok (.idiv, 1) := by decide +kernel
theorem dX10_inLowestTerms_43 : decode mX10_inLowestTerms.2.1 43 = .ok (.i2l, 1) := by decide +kernel
theorem dX10_inLowestTerms_44 : decode mX10_inLowestTerms.2.1 44 = .ok (.lreturn, 1) := by decide +kernel
def mX10_keyOf : String × ByteArray × Nat := (RX10, cX10_keyOf, 4)
theorem dX10_keyOf_0 : decode mX10_keyOf.2.1 0 = .ok (.lconst 0, 1) := by decide +kernel
theorem dX10_keyOf_1 : decode mX10_keyOf.2.1 1 = .ok (.lstore_n 1, 1) := by decide +kernel
theorem dX10_keyOf_2 : decode mX10_keyOf.2.1 2 = .ok (.iconst 1, 1) := by decide +kernel
theorem dX10_keyOf_3 : decode mX10_keyOf.2.1 3 = .ok (.istore_n 3, 1) := by decide +kernel
theorem dX10_keyOf_4 : decode mX10_keyOf.2.1 4 = .ok (.iload_n 3, 1) := by decide +kernel
theorem dX10_keyOf_5 : decode mX10_keyOf.2.1 5 = .ok (.bipush 6, 2) := by decide +kernel
theorem dX10_keyOf_7 : decode mX10_keyOf.2.1 7 = .ok (.if_icmp .gt 22, 3) := by decide +kernel
theorem dX10_keyOf_10 : decode mX10_keyOf.2.1 10 = .ok (.lload_n 1, 1) := by decide +kernel
theorem dX10_keyOf_11 : decode mX10_keyOf.2.1 11 = .ok (.aload_n 0, 1) := by decide +kernel
theorem dX10_keyOf_12 : decode mX10_keyOf.2.1 12 = .ok (.iload_n 3, 1) := by decide +kernel
theorem dX10_keyOf_13 : decode mX10_keyOf.2.1 13 = .ok (.iaload, 1) := by decide +kernel
theorem dX10_keyOf_14 : decode mX10_keyOf.2.1 14 = .ok (.i2l, 1) := by decide +kernel
theorem dX10_keyOf_15 : decode mX10_keyOf.2.1 15 = .ok (.getstatic 362, 3) := by decide +kernel
theorem dX10_keyOf_18 : decode mX10_keyOf.2.1 18 = .ok (.iload_n 3, 1) := by decide +kernel
theorem dX10_keyOf_19 : decode mX10_keyOf.2.1 19 = .ok (.iaload, 1) := by decide +kernel
theorem dX10_keyOf_20 : decode mX10_keyOf.2.1 20 = .ok (.lshl, 1) := by decide +kernel
theorem dX10_keyOf_21 : decode mX10_keyOf.2.1 21 = .ok (.lor, 1) := by decide +kernel
theorem dX10_keyOf_22 : decode mX10_keyOf.2.1 22 = .ok (.lstore_n 1, 1) := by decide +kernel
theorem dX10_keyOf_23 : decode mX10_keyOf.2.1 23 = .ok (.iinc 3 1, 3) := by decide +kernel
theorem dX10_keyOf_26 : decode mX10_keyOf.2.1 26 = .ok (.goto (-22), 3) := by decide +kernel
theorem dX10_keyOf_29 : decode mX10_keyOf.2.1 29 = .ok (.lload_n 1, 1) := by decide +kernel
theorem dX10_keyOf_30 : decode mX10_keyOf.2.1 30 = .ok (.lreturn, 1) := by decide +kernel
def mX10_ladderOf : String × ByteArray × Nat := (RX10, cX10_ladderOf, 3)
theorem dX10_ladderOf_0 : decode mX10_ladderOf.2.1 0 = .ok (.aload_n 0, 1) := by decide +kernel
theorem dX10_ladderOf_1 : decode mX10_ladderOf.2.1 1 = .ok (.getfield 58, 3) := by decide +kernel
theorem dX10_ladderOf_4 : decode mX10_ladderOf.2.1 4 = .ok (.iload_n 1, 1) := by decide +kernel
theorem dX10_ladderOf_5 : decode mX10_ladderOf.2.1 5 = .ok (.aaload, 1) := by decide +kernel
theorem dX10_ladderOf_6 : decode mX10_ladderOf.2.1 6 = .ok (.astore_n 2, 1) := by decide +kernel
theorem dX10_ladderOf_7 : decode mX10_ladderOf.2.1 7 = .ok (.aload_n 2, 1) := by decide +kernel
theorem dX10_ladderOf_8 : decode mX10_ladderOf.2.1 8 = .ok (.ifnonnull 19, 3) := by decide +kernel
theorem dX10_ladderOf_11 : decode mX10_ladderOf.2.1 11 = .ok (.new 56, 3) := by decide +kernel
theorem dX10_ladderOf_14 : decode mX10_ladderOf.2.1 14 = .ok (.dup, 1) := by decide +kernel
theorem dX10_ladderOf_15 : decode mX10_ladderOf.2.1 15 = .ok (.iload_n 1, 1) := by decide +kernel
theorem dX10_ladderOf_16 : decode mX10_ladderOf.2.1 16 = .ok (.invokespecial 365, 3) := by decide +kernel
theorem dX10_ladderOf_19 : decode mX10_ladderOf.2.1 19 = .ok (.astore_n 2, 1) := by decide +kernel
theorem dX10_ladderOf_20 : decode mX10_ladderOf.2.1 20 = .ok (.aload_n 0, 1) := by decide +kernel
theorem dX10_ladderOf_21 : decode mX10_ladderOf.2.1 21 = .ok (.getfield 58, 3) := by decide +kernel
theorem dX10_ladderOf_24 : decode mX10_ladderOf.2.1 24 = .ok (.iload_n 1, 1) := by decide +kernel
theorem dX10_ladderOf_25 : decode mX10_ladderOf.2.1 25 = .ok (.aload_n 2, 1) := by decide +kernel
theorem dX10_ladderOf_26 : decode mX10_ladderOf.2.1 26 = .ok (.aastore, 1) := by decide +kernel
theorem dX10_ladderOf_27 : decode mX10_ladderOf.2.1 27 = .ok (.aload_n 2, 1) := by decide +kernel
theorem dX10_ladderOf_28 : decode mX10_ladderOf.2.1 28 = .ok (.areturn, 1) := by decide +kernel
def mX11_init : String × ByteArray × Nat := (RX11, cX11_init, 2)
theorem dX11_init_0 : decode mX11_init.2.1 0 = .ok (.aload_n 0, 1) := by decide +kernel
theorem dX11_init_1 : decode mX11_init.2.1 1 = .ok (.invokespecial 3, 3) := by decide +kernel
theorem dX11_init_4 : decode mX11_init.2.1 4 = .ok (.aload_n 0, 1) := by decide +kernel
theorem dX11_init_5 : decode mX11_init.2.1 5 = .ok (.bipush 6, 2) := by decide +kernel
theorem dX11_init_7 : decode mX11_init.2.1 7 = .ok (.newarray .int, 2) := by decide +kernel
theorem dX11_init_9 : decode mX11_init.2.1 9 = .ok (.putfield 9, 3) := by decide +kernel
theorem dX11_init_12 : decode mX11_init.2.1 12 = .ok (.aload_n 0, 1) := by decide +kernel
theorem dX11_init_13 : decode mX11_init.2.1 13 = .ok (.bipush 72, 2) := by decide +kernel
theorem dX11_init_15 : decode mX11_init.2.1 15 = .ok (.newarray .int, 2) := by decide +kernel
theorem dX11_init_17 : decode mX11_init.2.1 17 = .ok (.putfield 15, 3) := by decide +kernel
theorem dX11_init_20 : decode mX11_init.2.1 20 = .ok (.aload_n 0, 1) := by decide +kernel
theorem dX11_init_21 : decode mX11_init.2.1 21 = .ok (.sipush 169, 3) := by decide +kernel
theorem dX11_init_24 : decode mX11_init.2.1 24 = .ok (.newarray .long, 2) := by decide +kernel
theorem dX11_init_26 : decode mX11_init.2.1 26 = .ok (.putfield 18, 3) := by decide +kernel
theorem dX11_init_29 : decode mX11_init.2.1 29 = .ok (.aload_n 0, 1) := by decide +kernel
theorem dX11_init_30 : decode mX11_init.2.1 30 = .ok (.bipush 6, 2) := by decide +kernel
theorem dX11_init_32 : decode mX11_init.2.1 32 = .ok (.newarray .int, 2) := by decide +kernel
theorem dX11_init_34 : decode mX11_init.2.1 34 = .ok (.dup, 1) := by decide +kernel
theorem dX11_init_35 : decode mX11_init.2.1 35 = .ok (.iconst 0, 1) := by decide +kernel
theorem dX11_init_36 : decode mX11_init.2.1 36 = .ok (.iconst 3, 1) := by decide +kernel
theorem dX11_init_37 : decode mX11_init.2.1 37 = .ok (.iastore, 1) := by decide +kernel
theorem dX11_init_38 : decode mX11_init.2.1 38 = .ok (.dup, 1) := by decide +kernel
theorem dX11_init_39 : decode mX11_init.2.1 39 = .ok (.iconst 1, 1) := by decide +kernel
theorem dX11_init_40 : decode mX11_init.2.1 40 = .ok (.iconst 3, 1) := by decide +kernel
theorem dX11_init_41 : decode mX11_init.2.1 41 = .ok (.iastore, 1) := by decide +kernel
theorem dX11_init_42 : decode mX11_init.2.1 42 = .ok (.dup, 1) := by decide +kernel
theorem dX11_init_43 : decode mX11_init.2.1 43 = .ok (.iconst 2, 1) := by decide +kernel
theorem dX11_init_44 : decode mX11_init.2.1 44 = .ok (.iconst 3, 1) := by decide +kernel
theorem dX11_init_45 : decode mX11_init.2.1 45 = .ok (.iastore, 1) := by decide +kernel
theorem dX11_init_46 : decode mX11_init.2.1 46 = .ok (.dup, 1) := by decide +kernel
theorem dX11_init_47 : decode mX11_init.2.1 47 = .ok (.iconst 3, 1) := by decide +kernel
theorem dX11_init_48 : decode mX11_init.2.1 48 = .ok (.iconst 3, 1) := by decide +kernel
theorem dX11_init_49 : decode mX11_init.2.1 49 = .ok (.iastore, 1) := by decide +kernel
theorem dX11_init_50 : decode mX11_init.2.1 50 = .ok (.dup, 1) := by decide +kernel
theorem dX11_init_51 : decode mX11_init.2.1 51 = .ok (.iconst 4, 1) := by decide +kernel
theorem dX11_init_52 : decode mX11_init.2.1 52 = .ok (.iconst 3, 1) := by decide +kernel
theorem dX11_init_53 : decode mX11_init.2.1 53 = .ok (.iastore, 1) := by decide +kernel
theorem dX11_init_54 : decode mX11_init.2.1 54 = .ok (.dup, 1) := by decide +kernel
theorem dX11_init_55 : decode mX11_init.2.1 55 = .ok (.iconst 5, 1) := by decide +kernel
theorem dX11_init_56 : decode mX11_init.2.1 56 = .ok (.iconst 3, 1) := by decide +kernel
theorem dX11_init_57 : decode mX11_init.2.1 57 = .ok (.iastore, 1) := by decide +kernel
theorem dX11_init_58 : decode mX11_init.2.1 58 = .ok (.putfield 22, 3) := by decide +kernel
theorem dX11_init_61 : decode mX11_init.2.1 61 = .ok (.aload_n 0, 1) := by decide +kernel
theorem dX11_init_62 : decode mX11_init.2.1 62 = .ok (.bipush 36, 2) := by decide +kernel
theorem dX11_init_64 : decode mX11_init.2.1 64 = .ok (.newarray .int, 2) := by decide +kernel
theorem dX11_init_66 : decode mX11_init.2.1 66 = .ok (.putfield 25, 3) := by decide +kernel
theorem dX11_init_69 : decode mX11_init.2.1 69 = .ok (.aload_n 0, 1) := by decide +kernel
theorem dX11_init_70 : decode mX11_init.2.1 70 = .ok (.bipush 36, 2) := by decide +kernel
theorem dX11_init_72 : decode mX11_init.2.1 72 = .ok (.newarray .int, 2) := by decide +kernel
theorem dX11_init_74 : decode mX11_init.2.1 74 = .ok (.putfield 28, 3) := by decide +kernel
theorem dX11_init_77 : decode mX11_init.2.1 77 = .ok (.aload_n 0, 1) := by decide +kernel
theorem dX11_init_78 : decode mX11_init.2.1 78 = .ok (.iconst 4, 1) := by decide +kernel
theorem dX11_init_79 : decode mX11_init.2.1 79 = .ok (.newarray .int, 2) := by decide +kernel
theorem dX11_init_81 : decode mX11_init.2.1 81 = .ok (.putfield 31, 3) := by decide +kernel
theorem dX11_init_84 : decode mX11_init.2.1 84 = .ok (.aload_n 0, 1) := by decide +kernel
theorem dX11_init_85 : decode mX11_init.2.1 85 = .ok (.iconst 4, 1) := by decide +kernel
theorem dX11_init_86 : decode mX11_init.2.1 86 = .ok (.newarray .int, 2) := by decide +kernel
theorem dX11_init_88 : decode mX11_init.2.1 88 = .ok (.putfield 34, 3) := by decide +kernel
theorem dX11_init_91 : decode mX11_init.2.1 91 = .ok (.aload_n 0, 1) := by decide +kernel
theorem dX11_init_92 : decode mX11_init.2.1 92 = .ok (.bipush 10, 2) := by decide +kernel
theorem dX11_init_94 : decode mX11_init.2.1 94 = .ok (.newarray .int, 2) := by decide +kernel
theorem dX11_init_96 : decode mX11_init.2.1 96 = .ok (.putfield 37, 3) := by decide +kernel
theorem dX11_init_99 : decode mX11_init.2.1 99 = .ok (.aload_n 0, 1) := by decide +kernel
theorem dX11_init_100 : decode mX11_init.2.1 100 = .ok (.bipush 10, 2) := by decide +kernel
theorem dX11_init_102 : decode mX11_init.2.1 102 = .ok (.newarray .int, 2) := by decide +kernel
theorem dX11_init_104 : decode mX11_init.2.1 104 = .ok (.putfield 40, 3) := by decide +kernel
theorem dX11_init_107 : decode mX11_init.2.1 107 = .ok (.aload_n 0, 1) := by decide +kernel
theorem dX11_init_108 : decode mX11_init.2.1 108 = .ok (.bipush 10, 2) := by decide +kernel
theorem dX11_init_110 : decode mX11_init.2.1 110 = .ok (.newarray .int, 2) := by decide +kernel
theorem dX11_init_112 : decode mX11_init.2.1 112 = .ok (.putfield 43, 3) := by decide +kernel
theorem dX11_init_115 : decode mX11_init.2.1 115 = .ok (.aload_n 0, 1) := by decide +kernel
theorem dX11_init_116 : decode mX11_init.2.1 116 = .ok (.bipush 80, 2) := by decide +kernel
theorem dX11_init_118 : decode mX11_init.2.1 118 = .ok (.newarray .int, 2) := by decide +kernel
theorem dX11_init_120 : decode mX11_init.2.1 120 = .ok (.putfield 46, 3) := by decide +kernel
theorem dX11_init_123 : decode mX11_init.2.1 123 = .ok (.aload_n 0, 1) := by decide +kernel
theorem dX11_init_124 : decode mX11_init.2.1 124 = .ok (.bipush 24, 2) := by decide +kernel
theorem dX11_init_126 : decode mX11_init.2.1 126 = .ok (.newarray .int, 2) := by decide +kernel
theorem dX11_init_128 : decode mX11_init.2.1 128 = .ok (.putfield 49, 3) := by decide +kernel
theorem dX11_init_131 : decode mX11_init.2.1 131 = .ok (.aload_n 0, 1) := by decide +kernel
theorem dX11_init_132 : decode mX11_init.2.1 132 = .ok (.bipush 6, 2) := by decide +kernel
theorem dX11_init_134 : decode mX11_init.2.1 134 = .ok (.newarray .int, 2) := by decide +kernel
theorem dX11_init_136 : decode mX11_init.2.1 136 = .ok (.dup, 1) := by decide +kernel
theorem dX11_init_137 : decode mX11_init.2.1 137 = .ok (.iconst 0, 1) := by decide +kernel
theorem dX11_init_138 : decode mX11_init.2.1 138 = .ok (.iconst (-1), 1) := by decide +kernel
theorem dX11_init_139 : decode mX11_init.2.1 139 = .ok (.iastore, 1) := by decide +kernel
theorem dX11_init_140 : decode mX11_init.2.1 140 = .ok (.dup, 1) := by decide +kernel
theorem dX11_init_141 : decode mX11_init.2.1 141 = .ok (.iconst 1, 1) := by decide +kernel
theorem dX11_init_142 : decode mX11_init.2.1 142 = .ok (.iconst (-1), 1) := by decide +kernel
theorem dX11_init_143 : decode mX11_init.2.1 143 = .ok (.iastore, 1) := by decide +kernel
theorem dX11_init_144 : decode mX11_init.2.1 144 = .ok (.dup, 1) := by decide +kernel
theorem dX11_init_145 : decode mX11_init.2.1 145 = .ok (.iconst 2, 1) := by decide +kernel
theorem dX11_init_146 : decode mX11_init.2.1 146 = .ok (.iconst (-1), 1) := by decide +kernel
theorem dX11_init_147 : decode mX11_init.2.1 147 = .ok (.iastore, 1) := by decide +kernel
theorem dX11_init_148 : decode mX11_init.2.1 148 = .ok (.dup, 1) := by decide +kernel
theorem dX11_init_149 : decode mX11_init.2.1 149 = .ok (.iconst 3, 1) := by decide +kernel
theorem dX11_init_150 : decode mX11_init.2.1 150 = .ok (.iconst (-1), 1) := by decide +kernel
theorem dX11_init_151 : decode mX11_init.2.1 151 = .ok (.iastore, 1) := by decide +kernel
theorem dX11_init_152 : decode mX11_init.2.1 152 = .ok (.dup, 1) := by decide +kernel
theorem dX11_init_153 : decode mX11_init.2.1 153 = .ok (.iconst 4, 1) := by decide +kernel
theorem dX11_init_154 : decode mX11_init.2.1 154 = .ok (.iconst (-1), 1) := by decide +kernel
theorem dX11_init_155 : decode mX11_init.2.1 155 = .ok (.iastore, 1) := by decide +kernel
theorem dX11_init_156 : decode mX11_init.2.1 156 = .ok (.dup, 1) := by decide +kernel
theorem dX11_init_157 : decode mX11_init.2.1 157 = .ok (.iconst 5, 1) := by decide +kernel
theorem dX11_init_158 : decode mX11_init.2.1 158 = .ok (.iconst (-1), 1) := by decide +kernel
theorem dX11_init_159 : decode mX11_init.2.1 159 = .ok (.iastore, 1) := by decide +kernel
theorem dX11_init_160 : decode mX11_init.2.1 160 = .ok (.putfield 52, 3) := by decide +kernel
theorem dX11_init_163 : decode mX11_init.2.1 163 = .ok (.aload_n 0, 1) := by decide +kernel
theorem dX11_init_164 : decode mX11_init.2.1 164 = .ok (.bipush 6, 2) := by decide +kernel
theorem dX11_init_166 : decode mX11_init.2.1 166 = .ok (.newarray .int, 2) := by decide +kernel
theorem dX11_init_168 : decode mX11_init.2.1 168 = .ok (.putfield 55, 3) := by decide +kernel
theorem dX11_init_171 : decode mX11_init.2.1 171 = .ok (.aload_n 0, 1) := by decide +kernel
theorem dX11_init_172 : decode mX11_init.2.1 172 = .ok (.sipush 360, 3) := by decide +kernel
theorem dX11_init_175 : decode mX11_init.2.1 175 = .ok (.newarray .long, 2) := by decide +kernel
theorem dX11_init_177 : decode mX11_init.2.1 177 = .ok (.putfield 58, 3) := by decide +kernel
theorem dX11_init_180 : decode mX11_init.2.1 180 = .ok (.aload_n 0, 1) := by decide +kernel
theorem dX11_init_181 : decode mX11_init.2.1 181 = .ok (.bipush 6, 2) := by decide +kernel
theorem dX11_init_183 : decode mX11_init.2.1 183 = .ok (.newarray .int, 2) := by decide +kernel
theorem dX11_init_185 : decode mX11_init.2.1 185 = .ok (.putfield 61, 3) := by decide +kernel
theorem dX11_init_188 : decode mX11_init.2.1 188 = .ok (.aload_n 0, 1) := by decide +kernel
theorem dX11_init_189 : decode mX11_init.2.1 189 = .ok (.bipush 72, 2) := by decide +kernel
theorem dX11_init_191 : decode mX11_init.2.1 191 = .ok (.newarray .int, 2) := by decide +kernel
theorem dX11_init_193 : decode mX11_init.2.1 193 = .ok (.putfield 64, 3) := by decide +kernel
theorem dX11_init_196 : decode mX11_init.2.1 196 = .ok (.aload_n 0, 1) := by decide +kernel
theorem dX11_init_197 : decode mX11_init.2.1 197 = .ok (.sipush 169, 3) := by decide +kernel
theorem dX11_init_200 : decode mX11_init.2.1 200 = .ok (.newarray .long, 2) := by decide +kernel
theorem dX11_init_202 : decode mX11_init.2.1 202 = .ok (.putfield 67, 3) := by decide +kernel
theorem dX11_init_205 : decode mX11_init.2.1 205 = .ok (.aload_n 0, 1) := by decide +kernel
theorem dX11_init_206 : decode mX11_init.2.1 206 = .ok (.bipush 6, 2) := by decide +kernel
theorem dX11_init_208 : decode mX11_init.2.1 208 = .ok (.newarray .int, 2) := by decide +kernel
theorem dX11_init_210 : decode mX11_init.2.1 210 = .ok (.putfield 70, 3) := by decide +kernel
theorem dX11_init_213 : decode mX11_init.2.1 213 = .ok (.aload_n 0, 1) := by decide +kernel
theorem dX11_init_214 : decode mX11_init.2.1 214 = .ok (.bipush 36, 2) := by decide +kernel
theorem dX11_init_216 : decode mX11_init.2.1 216 = .ok (.newarray .int, 2) := by decide +kernel
theorem dX11_init_218 : decode mX11_init.2.1 218 = .ok (.putfield 73, 3) := by decide +kernel
theorem dX11_init_221 : decode mX11_init.2.1 221 = .ok (.aload_n 0, 1) := by decide +kernel
theorem dX11_init_222 : decode mX11_init.2.1 222 = .ok (.bipush 36, 2) := by decide +kernel
theorem dX11_init_224 : decode mX11_init.2.1 224 = .ok (.newarray .int, 2) := by decide +kernel
theorem dX11_init_226 : decode mX11_init.2.1 226 = .ok (.putfield 76, 3) := by decide +kernel
theorem dX11_init_229 : decode mX11_init.2.1 229 = .ok (.aload_n 0, 1) := by decide +kernel
theorem dX11_init_230 : decode mX11_init.2.1 230 = .ok (.iconst 4, 1) := by decide +kernel
theorem dX11_init_231 : decode mX11_init.2.1 231 = .ok (.newarray .int, 2) := by decide +kernel
theorem dX11_init_233 : decode mX11_init.2.1 233 = .ok (.putfield 79, 3) := by decide +kernel
theorem dX11_init_236 : decode mX11_init.2.1 236 = .ok (.aload_n 0, 1) := by decide +kernel
theorem dX11_init_237 : decode mX11_init.2.1 237 = .ok (.iconst 4, 1) := by decide +kernel
theorem dX11_init_238 : decode mX11_init.2.1 238 = .ok (.newarray .int, 2) := by decide +kernel
theorem dX11_init_240 : decode mX11_init.2.1 240 = .ok (.putfield 82, 3) := by decide +kernel
theorem dX11_init_243 : decode mX11_init.2.1 243 = .ok (.aload_n 0, 1) := by decide +kernel
theorem dX11_init_244 : decode mX11_init.2.1 244 = .ok (.bipush 14, 2) := by decide +kernel
theorem dX11_init_246 : decode mX11_init.2.1 246 = .ok (.newarray .long, 2) := by decide +kernel
theorem dX11_init_248 : decode mX11_init.2.1 248 = .ok (.putfield 85, 3) := by decide +kernel
theorem dX11_init_251 : decode mX11_init.2.1 251 = .ok (.aload_n 0, 1) := by decide +kernel
theorem dX11_init_252 : decode mX11_init.2.1 252 = .ok (.sipush 196, 3) := by decide +kernel
theorem dX11_init_255 : decode mX11_init.2.1 255 = .ok (.newarray .long, 2) := by decide +kernel
theorem dX11_init_257 : decode mX11_init.2.1 257 = .ok (.putfield 88, 3) := by decide +kernel
theorem dX11_init_260 : decode mX11_init.2.1 260 = .ok (.aload_n 0, 1) := by decide +kernel
theorem dX11_init_261 : decode mX11_init.2.1 261 = .ok (.sipush 196, 3) := by decide +kernel
theorem dX11_init_264 : decode mX11_init.2.1 264 = .ok (.newarray .long, 2) := by decide +kernel
theorem dX11_init_266 : decode mX11_init.2.1 266 = .ok (.putfield 91, 3) := by decide +kernel
theorem dX11_init_269 : decode mX11_init.2.1 269 = .ok (.aload_n 0, 1) := by decide +kernel
theorem dX11_init_270 : decode mX11_init.2.1 270 = .ok (.bipush 6, 2) := by decide +kernel
theorem dX11_init_272 : decode mX11_init.2.1 272 = .ok (.newarray .int, 2) := by decide +kernel
theorem dX11_init_274 : decode mX11_init.2.1 274 = .ok (.putfield 94, 3) := by decide +kernel
theorem dX11_init_277 : decode mX11_init.2.1 277 = .ok (.aload_n 0, 1) := by decide +kernel
theorem dX11_init_278 : decode mX11_init.2.1 278 = .ok (.bipush 12, 2) := by decide +kernel
theorem dX11_init_280 : decode mX11_init.2.1 280 = .ok (.newarray .int, 2) := by decide +kernel
theorem dX11_init_282 : decode mX11_init.2.1 282 = .ok (.putfield 97, 3) := by decide +kernel
theorem dX11_init_285 : decode mX11_init.2.1 285 = .ok (.aload_n 0, 1) := by decide +kernel
theorem dX11_init_286 : decode mX11_init.2.1 286 = .ok (.bipush 64, 2) := by decide +kernel
theorem dX11_init_288 : decode mX11_init.2.1 288 = .ok (.newarray .int, 2) := by decide +kernel
theorem dX11_init_290 : decode mX11_init.2.1 290 = .ok (.putfield 100, 3) := by decide +kernel
theorem dX11_init_293 : decode mX11_init.2.1 293 = .ok (.aload_n 0, 1) := by decide +kernel
theorem dX11_init_294 : decode mX11_init.2.1 294 = .ok (.bipush 7, 2) := by decide +kernel
theorem dX11_init_296 : decode mX11_init.2.1 296 = .ok (.newarray .int, 2) := by decide +kernel
theorem dX11_init_298 : decode mX11_init.2.1 298 = .ok (.putfield 103, 3) := by decide +kernel
theorem dX11_init_301 : decode mX11_init.2.1 301 = .ok (.aload_n 0, 1) := by decide +kernel
theorem dX11_init_302 : decode mX11_init.2.1 302 = .ok (.sipush 448, 3) := by decide +kernel
theorem dX11_init_305 : decode mX11_init.2.1 305 = .ok (.newarray .int, 2) := by decide +kernel
theorem dX11_init_307 : decode mX11_init.2.1 307 = .ok (.putfield 106, 3) := by decide +kernel
theorem dX11_init_310 : decode mX11_init.2.1 310 = .ok (.aload_n 0, 1) := by decide +kernel
theorem dX11_init_311 : decode mX11_init.2.1 311 = .ok (.sipush 5544, 3) := by decide +kernel
theorem dX11_init_314 : decode mX11_init.2.1 314 = .ok (.newarray .int, 2) := by decide +kernel
theorem dX11_init_316 : decode mX11_init.2.1 316 = .ok (.putfield 109, 3) := by decide +kernel
theorem dX11_init_319 : decode mX11_init.2.1 319 = .ok (.aload_n 0, 1) := by decide +kernel
theorem dX11_init_320 : decode mX11_init.2.1 320 = .ok (.sipush 6468, 3) := by decide +kernel
theorem dX11_init_323 : decode mX11_init.2.1 323 = .ok (.newarray .int, 2) := by decide +kernel
theorem dX11_init_325 : decode mX11_init.2.1 325 = .ok (.putfield 112, 3) := by decide +kernel
theorem dX11_init_328 : decode mX11_init.2.1 328 = .ok (.aload_n 0, 1) := by decide +kernel
theorem dX11_init_329 : decode mX11_init.2.1 329 = .ok (.bipush 6, 2) := by decide +kernel
theorem dX11_init_331 : decode mX11_init.2.1 331 = .ok (.newarray .int, 2) := by decide +kernel
theorem dX11_init_333 : decode mX11_init.2.1 333 = .ok (.putfield 115, 3) := by decide +kernel
theorem dX11_init_336 : decode mX11_init.2.1 336 = .ok (.aload_n 0, 1) := by decide +kernel
theorem dX11_init_337 : decode mX11_init.2.1 337 = .ok (.sipush 160, 3) := by decide +kernel
theorem dX11_init_340 : decode mX11_init.2.1 340 = .ok (.newarray .int, 2) := by decide +kernel
theorem dX11_init_342 : decode mX11_init.2.1 342 = .ok (.putfield 118, 3) := by decide +kernel
theorem dX11_init_345 : decode mX11_init.2.1 345 = .ok (.aload_n 0, 1) := by decide +kernel
theorem dX11_init_346 : decode mX11_init.2.1 346 = .ok (.iconst 5, 1) := by decide +kernel
theorem dX11_init_347 : decode mX11_init.2.1 347 = .ok (.newarray .int, 2) := by decide +kernel
theorem dX11_init_349 : decode mX11_init.2.1 349 = .ok (.putfield 121, 3) := by decide +kernel
theorem dX11_init_352 : decode mX11_init.2.1 352 = .ok (.aload_n 0, 1) := by decide +kernel
theorem dX11_init_353 : decode mX11_init.2.1 353 = .ok (.bipush 60, 2) := by decide +kernel
theorem dX11_init_355 : decode mX11_init.2.1 355 = .ok (.newarray .long, 2) := by decide +kernel
theorem dX11_init_357 : decode mX11_init.2.1 357 = .ok (.putfield 124, 3) := by decide +kernel
theorem dX11_init_360 : decode mX11_init.2.1 360 = .ok (.iconst 0, 1) := by decide +kernel
theorem dX11_init_361 : decode mX11_init.2.1 361 = .ok (.istore_n 1, 1) := by decide +kernel
theorem dX11_init_362 : decode mX11_init.2.1 362 = .ok (.iload_n 1, 1) := by decide +kernel
theorem dX11_init_363 : decode mX11_init.2.1 363 = .ok (.bipush 36, 2) := by decide +kernel
theorem dX11_init_365 : decode mX11_init.2.1 365 = .ok (.if_icmp .ge 16, 3) := by decide +kernel
theorem dX11_init_368 : decode mX11_init.2.1 368 = .ok (.aload_n 0, 1) := by decide +kernel
theorem dX11_init_369 : decode mX11_init.2.1 369 = .ok (.getfield 28, 3) := by decide +kernel
theorem dX11_init_372 : decode mX11_init.2.1 372 = .ok (.iload_n 1, 1) := by decide +kernel
theorem dX11_init_373 : decode mX11_init.2.1 373 = .ok (.iconst 1, 1) := by decide +kernel
theorem dX11_init_374 : decode mX11_init.2.1 374 = .ok (.iastore, 1) := by decide +kernel
theorem dX11_init_375 : decode mX11_init.2.1 375 = .ok (.iinc 1 1, 3) := by decide +kernel
theorem dX11_init_378 : decode mX11_init.2.1 378 = .ok (.goto (-16), 3) := by decide +kernel
theorem dX11_init_381 : decode mX11_init.2.1 381 = .ok (.return_, 1) := by decide +kernel
def mX11_in : String × ByteArray × Nat := (RX11, cX11_in, 6)
theorem dX11_in_0 : decode mX11_in.2.1 0 = .ok (.lload_n 0, 1) := by decide +kernel
theorem dX11_in_1 : decode mX11_in.2.1 1 = .ok (.lload_n 2, 1) := by decide +kernel
theorem dX11_in_2 : decode mX11_in.2.1 2 = .ok (.lcmp, 1) := by decide +kernel
theorem dX11_in_3 : decode mX11_in.2.1 3 = .ok (.ifCond .lt 14, 3) := by decide +kernel
theorem dX11_in_6 : decode mX11_in.2.1 6 = .ok (.lload_n 0, 1) := by decide +kernel
theorem dX11_in_7 : decode mX11_in.2.1 7 = .ok (.lload 4, 2) := by decide +kernel
theorem dX11_in_9 : decode mX11_in.2.1 9 = .ok (.lcmp, 1) := by decide +kernel
theorem dX11_in_10 : decode mX11_in.2.1 10 = .ok (.ifCond .gt 7, 3) := by decide +kernel
theorem dX11_in_13 : decode mX11_in.2.1 13 = .ok (.iconst 1, 1) := by decide +kernel
theorem dX11_in_14 : decode mX11_in.2.1 14 = .ok (.goto 4, 3) := by decide +kernel
theorem dX11_in_17 : decode mX11_in.2.1 17 = .ok (.iconst 0, 1) := by decide +kernel
theorem dX11_in_18 : decode mX11_in.2.1 18 = .ok (.ireturn, 1) := by decide +kernel
def mX11_isSix : String × ByteArray × Nat := (RX11, cX11_isSix, 1)
theorem dX11_isSix_0 : decode mX11_isSix.2.1 0 = .ok (.iload_n 0, 1) := by decide +kernel
theorem dX11_isSix_1 : decode mX11_isSix.2.1 1 = .ok (.i2l, 1) := by decide +kernel
theorem dX11_isSix_2 : decode mX11_isSix.2.1 2 = .ok (.lconst 0, 1) := by decide +kernel
theorem dX11_isSix_3 : decode mX11_isSix.2.1 3 = .ok (.ldc2_w 127, 3) := by decide +kernel
theorem dX11_isSix_6 : decode mX11_isSix.2.1 6 = .ok (.invokestatic 129, 3) := by decide +kernel
theorem dX11_isSix_9 : decode mX11_isSix.2.1 9 = .ok (.ireturn, 1) := by decide +kernel
def mX11_letter : String × ByteArray × Nat := (RX11, cX11_letter, 3)
theorem dX11_letter_0 : decode mX11_letter.2.1 0 = .ok (.iload_n 1, 1) := by decide +kernel
theorem dX11_letter_1 : decode mX11_letter.2.1 1 = .ok (.invokestatic 133, 3) := by decide +kernel
theorem dX11_letter_4 : decode mX11_letter.2.1 4 = .ok (.ifCond .ne 5, 3) := by decide +kernel
theorem dX11_letter_7 : decode mX11_letter.2.1 7 = .ok (.iconst (-1), 1) := by decide +kernel
theorem dX11_letter_8 : decode mX11_letter.2.1 8 = .ok (.ireturn, 1) := by decide +kernel
theorem dX11_letter_9 : decode mX11_letter.2.1 9 = .ok (.iload_n 2, 1) := by decide +kernel
theorem dX11_letter_10 : decode mX11_letter.2.1 10 = .ok (.i2l, 1) := by decide +kernel
theorem dX11_letter_11 : decode mX11_letter.2.1 11 = .ok (.lconst 0, 1) := by decide +kernel
theorem dX11_letter_12 : decode mX11_letter.2.1 12 = .ok (.lconst 1, 1) := by decide +kernel
theorem dX11_letter_13 : decode mX11_letter.2.1 13 = .ok (.invokestatic 129, 3) := by decide +kernel
theorem dX11_letter_16 : decode mX11_letter.2.1 16 = .ok (.ifCond .ne 6, 3) := by decide +kernel
theorem dX11_letter_19 : decode mX11_letter.2.1 19 = .ok (.bipush (-2), 2) := by decide +kernel
theorem dX11_letter_21 : decode mX11_letter.2.1 21 = .ok (.ireturn, 1) := by decide +kernel
theorem dX11_letter_22 : decode mX11_letter.2.1 22 = .ok (.aload_n 0, 1) := by decide +kernel
theorem dX11_letter_23 : decode mX11_letter.2.1 23 = .ok (.getfield 9, 3) := by decide +kernel
theorem dX11_letter_26 : decode mX11_letter.2.1 26 = .ok (.iload_n 1, 1) := by decide +kernel
theorem dX11_letter_27 : decode mX11_letter.2.1 27 = .ok (.iaload, 1) := by decide +kernel
theorem dX11_letter_28 : decode mX11_letter.2.1 28 = .ok (.bipush 12, 2) := by decide +kernel
theorem dX11_letter_30 : decode mX11_letter.2.1 30 = .ok (.if_icmp .ne 6, 3) := by decide +kernel
theorem dX11_letter_33 : decode mX11_letter.2.1 33 = .ok (.bipush (-4), 2) := by decide +kernel
theorem dX11_letter_35 : decode mX11_letter.2.1 35 = .ok (.ireturn, 1) := by decide +kernel
theorem dX11_letter_36 : decode mX11_letter.2.1 36 = .ok (.aload_n 0, 1) := by decide +kernel
theorem dX11_letter_37 : decode mX11_letter.2.1 37 = .ok (.getfield 15, 3) := by decide +kernel
theorem dX11_letter_40 : decode mX11_letter.2.1 40 = .ok (.bipush 12, 2) := by decide +kernel
theorem dX11_letter_42 : decode mX11_letter.2.1 42 = .ok (.iload_n 1, 1) := by decide +kernel
theorem dX11_letter_43 : decode mX11_letter.2.1 43 = .ok (.imul, 1) := by decide +kernel
theorem dX11_letter_44 : decode mX11_letter.2.1 44 = .ok (.aload_n 0, 1) := by decide +kernel
theorem dX11_letter_45 : decode mX11_letter.2.1 45 = .ok (.getfield 9, 3) := by decide +kernel
theorem dX11_letter_48 : decode mX11_letter.2.1 48 = .ok (.iload_n 1, 1) := by decide +kernel
theorem dX11_letter_49 : decode mX11_letter.2.1 49 = .ok (.iaload, 1) := by decide +kernel
theorem dX11_letter_50 : decode mX11_letter.2.1 50 = .ok (.iadd, 1) := by decide +kernel
theorem dX11_letter_51 : decode mX11_letter.2.1 51 = .ok (.iload_n 2, 1) := by decide +kernel
theorem dX11_letter_52 : decode mX11_letter.2.1 52 = .ok (.iastore, 1) := by decide +kernel
theorem dX11_letter_53 : decode mX11_letter.2.1 53 = .ok (.aload_n 0, 1) := by decide +kernel
theorem dX11_letter_54 : decode mX11_letter.2.1 54 = .ok (.getfield 9, 3) := by decide +kernel
theorem dX11_letter_57 : decode mX11_letter.2.1 57 = .ok (.iload_n 1, 1) := by decide +kernel
theorem dX11_letter_58 : decode mX11_letter.2.1 58 = .ok (.dup2, 1) := by decide +kernel
theorem dX11_letter_59 : decode mX11_letter.2.1 59 = .ok (.iaload, 1) := by decide +kernel
theorem dX11_letter_60 : decode mX11_letter.2.1 60 = .ok (.iconst 1, 1) := by decide +kernel
theorem dX11_letter_61 : decode mX11_letter.2.1 61 = .ok (.iadd, 1) := by decide +kernel
theorem dX11_letter_62 : decode mX11_letter.2.1 62 = .ok (.iastore, 1) := by decide +kernel
theorem dX11_letter_63 : decode mX11_letter.2.1 63 = .ok (.aload_n 0, 1) := by decide +kernel
theorem dX11_letter_64 : decode mX11_letter.2.1 64 = .ok (.getfield 9, 3) := by decide +kernel
theorem dX11_letter_67 : decode mX11_letter.2.1 67 = .ok (.iload_n 1, 1) := by decide +kernel
theorem dX11_letter_68 : decode mX11_letter.2.1 68 = .ok (.iaload, 1) := by decide +kernel
theorem dX11_letter_69 : decode mX11_letter.2.1 69 = .ok (.ireturn, 1) := by decide +kernel
def mX11_empty : String × ByteArray × Nat := (RX11, cX11_empty, 3)
theorem dX11_empty_0 : decode mX11_empty.2.1 0 = .ok (.iload_n 1, 1) := by decide +kernel
theorem dX11_empty_1 : decode mX11_empty.2.1 1 = .ok (.invokestatic 133, 3) := by decide +kernel
theorem dX11_empty_4 : decode mX11_empty.2.1 4 = .ok (.ifCond .ne 5, 3) := by decide +kernel
theorem dX11_empty_7 : decode mX11_empty.2.1 7 = .ok (.iconst (-1), 1) := by decide +kernel
theorem dX11_empty_8 : decode mX11_empty.2.1 8 = .ok (.ireturn, 1) := by decide +kernel
theorem dX11_empty_9 : decode mX11_empty.2.1 9 = .ok (.aload_n 0, 1) := by decide +kernel
theorem dX11_empty_10 : decode mX11_empty.2.1 10 = .ok (.getfield 9, 3) := by decide +kernel
theorem dX11_empty_13 : decode mX11_empty.2.1 13 = .ok (.iload_n 1, 1) := by decide +kernel
theorem dX11_empty_14 : decode mX11_empty.2.1 14 = .ok (.iaload, 1) := by decide +kernel
theorem dX11_empty_15 : decode mX11_empty.2.1 15 = .ok (.istore_n 2, 1) := by decide +kernel
theorem dX11_empty_16 : decode mX11_empty.2.1 16 = .ok (.aload_n 0, 1) := by decide +kernel
theorem dX11_empty_17 : decode mX11_empty.2.1 17 = .ok (.getfield 9, 3) := by decide +kernel
theorem dX11_empty_20 : decode mX11_empty.2.1 20 = .ok (.iload_n 1, 1) := by decide +kernel
theorem dX11_empty_21 : decode mX11_empty.2.1 21 = .ok (.iconst 0, 1) := by decide +kernel
theorem dX11_empty_22 : decode mX11_empty.2.1 22 = .ok (.iastore, 1) := by decide +kernel
theorem dX11_empty_23 : decode mX11_empty.2.1 23 = .ok (.iload_n 2, 1) := by decide +kernel
theorem dX11_empty_24 : decode mX11_empty.2.1 24 = .ok (.ireturn, 1) := by decide +kernel
def mX11_comes : String × ByteArray × Nat := (RX11, cX11_comes, 5)
theorem dX11_comes_0 : decode mX11_comes.2.1 0 = .ok (.iconst 0, 1) := by decide +kernel
theorem dX11_comes_1 : decode mX11_comes.2.1 1 = .ok (.istore 4, 2) := by decide +kernel
theorem dX11_comes_3 : decode mX11_comes.2.1 3 = .ok (.iload 4, 2) := by decide +kernel
theorem dX11_comes_5 : decode mX11_comes.2.1 5 = .ok (.iload_n 3, 1) := by decide +kernel
theorem dX11_comes_6 : decode mX11_comes.2.1 6 = .ok (.if_icmp .ge 36, 3) := by decide +kernel
theorem dX11_comes_9 : decode mX11_comes.2.1 9 = .ok (.aload_n 0, 1) := by decide +kernel
theorem dX11_comes_10 : decode mX11_comes.2.1 10 = .ok (.getfield 15, 3) := by decide +kernel
theorem dX11_comes_13 : decode mX11_comes.2.1 13 = .ok (.bipush 12, 2) := by decide +kernel
theorem dX11_comes_15 : decode mX11_comes.2.1 15 = .ok (.iload_n 1, 1) := by decide +kernel
theorem dX11_comes_16 : decode mX11_comes.2.1 16 = .ok (.imul, 1) := by decide +kernel
theorem dX11_comes_17 : decode mX11_comes.2.1 17 = .ok (.aload_n 0, 1) := by decide +kernel
theorem dX11_comes_18 : decode mX11_comes.2.1 18 = .ok (.getfield 9, 3) := by decide +kernel
theorem dX11_comes_21 : decode mX11_comes.2.1 21 = .ok (.iload_n 1, 1) := by decide +kernel
theorem dX11_comes_22 : decode mX11_comes.2.1 22 = .ok (.iaload, 1) := by decide +kernel
theorem dX11_comes_23 : decode mX11_comes.2.1 23 = .ok (.iadd, 1) := by decide +kernel
theorem dX11_comes_24 : decode mX11_comes.2.1 24 = .ok (.iload_n 2, 1) := by decide +kernel
theorem dX11_comes_25 : decode mX11_comes.2.1 25 = .ok (.iastore, 1) := by decide +kernel
theorem dX11_comes_26 : decode mX11_comes.2.1 26 = .ok (.aload_n 0, 1) := by decide +kernel
theorem dX11_comes_27 : decode mX11_comes.2.1 27 = .ok (.getfield 9, 3) := by decide +kernel
theorem dX11_comes_30 : decode mX11_comes.2.1 30 = .ok (.iload_n 1, 1) := by decide +kernel
theorem dX11_comes_31 : decode mX11_comes.2.1 31 = .ok (.dup2, 1) := by decide +kernel
theorem dX11_comes_32 : decode mX11_comes.2.1 32 = .ok (.iaload, 1) := by decide +kernel
theorem dX11_comes_33 : decode mX11_comes.2.1 33 = .ok (.iconst 1, 1) := by decide +kernel
theorem dX11_comes_34 : decode mX11_comes.2.1 34 = .ok (.iadd, 1) := by decide +kernel
theorem dX11_comes_35 : decode mX11_comes.2.1 35 = .ok (.iastore, 1) := by decide +kernel
theorem dX11_comes_36 : decode mX11_comes.2.1 36 = .ok (.iinc 4 1, 3) := by decide +kernel
theorem dX11_comes_39 : decode mX11_comes.2.1 39 = .ok (.goto (-36), 3) := by decide +kernel
theorem dX11_comes_42 : decode mX11_comes.2.1 42 = .ok (.return_, 1) := by decide +kernel
def mX11_make : String × ByteArray × Nat := (RX11, cX11_make, 5)
theorem dX11_make_0 : decode mX11_make.2.1 0 = .ok (.iload_n 1, 1) := by decide +kernel
theorem dX11_make_1 : decode mX11_make.2.1 1 = .ok (.invokestatic 133, 3) := by decide +kernel
theorem dX11_make_4 : decode mX11_make.2.1 4 = .ok (.ifCond .eq 10, 3) := by decide +kernel
theorem dX11_make_7 : decode mX11_make.2.1 7 = .ok (.iload_n 2, 1) := by decide +kernel
theorem dX11_make_8 : decode mX11_make.2.1 8 = .ok (.invokestatic 133, 3) := by decide +kernel
theorem dX11_make_11 : decode mX11_make.2.1 11 = .ok (.ifCond .ne 5, 3) := by decide +kernel
theorem dX11_make_14 : decode mX11_make.2.1 14 = .ok (.iconst (-1), 1) := by decide +kernel
theorem dX11_make_15 : decode mX11_make.2.1 15 = .ok (.ireturn, 1) := by decide +kernel
theorem dX11_make_16 : decode mX11_make.2.1 16 = .ok (.iload_n 3, 1) := by decide +kernel
theorem dX11_make_17 : decode mX11_make.2.1 17 = .ok (.i2l, 1) := by decide +kernel
theorem dX11_make_18 : decode mX11_make.2.1 18 = .ok (.lconst 0, 1) := by decide +kernel
theorem dX11_make_19 : decode mX11_make.2.1 19 = .ok (.ldc2_w 137, 3) := by decide +kernel
theorem dX11_make_22 : decode mX11_make.2.1 22 = .ok (.invokestatic 129, 3) := by decide +kernel
theorem dX11_make_25 : decode mX11_make.2.1 25 = .ok (.ifCond .ne 6, 3) := by decide +kernel
theorem dX11_make_28 : decode mX11_make.2.1 28 = .ok (.bipush (-2), 2) := by decide +kernel
theorem dX11_make_30 : decode mX11_make.2.1 30 = .ok (.ireturn, 1) := by decide +kernel
theorem dX11_make_31 : decode mX11_make.2.1 31 = .ok (.aload_n 0, 1) := by decide +kernel
theorem dX11_make_32 : decode mX11_make.2.1 32 = .ok (.getfield 9, 3) := by decide +kernel
theorem dX11_make_35 : decode mX11_make.2.1 35 = .ok (.iload_n 1, 1) := by decide +kernel
theorem dX11_make_36 : decode mX11_make.2.1 36 = .ok (.iconst 0, 1) := by decide +kernel
theorem dX11_make_37 : decode mX11_make.2.1 37 = .ok (.iastore, 1) := by decide +kernel
theorem dX11_make_38 : decode mX11_make.2.1 38 = .ok (.iload_n 2, 1) := by decide +kernel
theorem dX11_make_39 : decode mX11_make.2.1 39 = .ok (.ifCond .eq 8, 3) := by decide +kernel
theorem dX11_make_42 : decode mX11_make.2.1 42 = .ok (.iload_n 2, 1) := by decide +kernel
theorem dX11_make_43 : decode mX11_make.2.1 43 = .ok (.iconst 3, 1) := by decide +kernel
theorem dX11_make_44 : decode mX11_make.2.1 44 = .ok (.if_icmp .ne 36, 3) := by decide +kernel
theorem dX11_make_47 : decode mX11_make.2.1 47 = .ok (.aload_n 0, 1) := by decide +kernel
theorem dX11_make_48 : decode mX11_make.2.1 48 = .ok (.iload_n 1, 1) := by decide +kernel
theorem dX11_make_49 : decode mX11_make.2.1 49 = .ok (.iload_n 2, 1) := by decide +kernel
theorem dX11_make_50 : decode mX11_make.2.1 50 = .ok (.ifCond .ne 7, 3) := by decide +kernel
theorem dX11_make_53 : decode mX11_make.2.1 53 = .ok (.iconst 0, 1) := by decide +kernel
theorem dX11_make_54 : decode mX11_make.2.1 54 = .ok (.goto 4, 3) := by decide +kernel
theorem dX11_make_57 : decode mX11_make.2.1 57 = .ok (.iconst 1, 1) := by decide +kernel
theorem dX11_make_58 : decode mX11_make.2.1 58 = .ok (.iload_n 3, 1) := by decide +kernel
theorem dX11_make_59 : decode mX11_make.2.1 59 = .ok (.invokevirtual 139, 3) := by decide +kernel
theorem dX11_make_62 : decode mX11_make.2.1 62 = .ok (.aload_n 0, 1) := by decide +kernel
theorem dX11_make_63 : decode mX11_make.2.1 63 = .ok (.iload_n 1, 1) := by decide +kernel
theorem dX11_make_64 : decode mX11_make.2.1 64 = .ok (.iload_n 2, 1) := by decide +kernel
theorem dX11_make_65 : decode mX11_make.2.1 65 = .ok (.ifCond .ne 7, 3) := by decide +kernel
theorem dX11_make_68 : decode mX11_make.2.1 68 = .ok (.iconst 1, 1) := by decide +kernel
theorem dX11_make_69 : decode mX11_make.2.1 69 = .ok (.goto 4, 3) := by decide +kernel
theorem dX11_make_72 : decode mX11_make.2.1 72 = .ok (.iconst 0, 1) := by decide +kernel
theorem dX11_make_73 : decode mX11_make.2.1 73 = .ok (.iload_n 3, 1) := by decide +kernel
theorem dX11_make_74 : decode mX11_make.2.1 74 = .ok (.invokevirtual 139, 3) := by decide +kernel
theorem dX11_make_77 : decode mX11_make.2.1 77 = .ok (.goto 119, 3) := by decide +kernel
theorem dX11_make_80 : decode mX11_make.2.1 80 = .ok (.iload_n 2, 1) := by decide +kernel
theorem dX11_make_81 : decode mX11_make.2.1 81 = .ok (.iconst 3, 1) := by decide +kernel
theorem dX11_make_82 : decode mX11_make.2.1 82 = .ok (.if_icmp .ge 39, 3) := by decide +kernel
theorem dX11_make_85 : decode mX11_make.2.1 85 = .ok (.iconst 0, 1) := by decide +kernel
theorem dX11_make_86 : decode mX11_make.2.1 86 = .ok (.istore 4, 2) := by decide +kernel
theorem dX11_make_88 : decode mX11_make.2.1 88 = .ok (.iload 4, 2) := by decide +kernel
theorem dX11_make_90 : decode mX11_make.2.1 90 = .ok (.iload_n 3, 1) := by decide +kernel
theorem dX11_make_91 : decode mX11_make.2.1 91 = .ok (.if_icmp .ge 27, 3) := by decide +kernel
theorem dX11_make_94 : decode mX11_make.2.1 94 = .ok (.aload_n 0, 1) := by decide +kernel
theorem dX11_make_95 : decode mX11_make.2.1 95 = .ok (.iload_n 1, 1) := by decide +kernel
theorem dX11_make_96 : decode mX11_make.2.1 96 = .ok (.iload_n 2, 1) := by decide +kernel
theorem dX11_make_97 : decode mX11_make.2.1 97 = .ok (.iconst 1, 1) := by decide +kernel
theorem dX11_make_98 : decode mX11_make.2.1 98 = .ok (.isub, 1) := by decide +kernel
theorem dX11_make_99 : decode mX11_make.2.1 99 = .ok (.iconst 1, 1) := by decide +kernel
theorem dX11_make_100 : decode mX11_make.2.1 100 = .ok (.invokevirtual 139, 3) := by decide +kernel
theorem dX11_make_103 : decode mX11_make.2.1 103 = .ok (.aload_n 0, 1) := by decide +kernel
theorem dX11_make_104 : decode mX11_make.2.1 104 = .ok (.iload_n 1, 1) := by decide +kernel
theorem dX11_make_105 : decode mX11_make.2.1 105 = .ok (.iconst 2, 1) := by decide +kernel
theorem dX11_make_106 : decode mX11_make.2.1 106 = .ok (.iload_n 2, 1) := by decide +kernel
theorem dX11_make_107 : decode mX11_make.2.1 107 = .ok (.isub, 1) := by decide +kernel
theorem dX11_make_108 : decode mX11_make.2.1 108 = .ok (.iconst 1, 1) := by decide +kernel
theorem dX11_make_109 : decode mX11_make.2.1 109 = .ok (.invokevirtual 139, 3) := by decide +kernel
theorem dX11_make_112 : decode mX11_make.2.1 112 = .ok (.iinc 4 1, 3) := by decide +kernel
theorem dX11_make_115 : decode mX11_make.2.1 115 = .ok (.goto (-27), 3) := by decide +kernel
theorem dX11_make_118 : decode mX11_make.2.1 118 = .ok (.goto 78, 3) := by decide +kernel
theorem dX11_make_121 : decode mX11_make.2.1 121 = .ok (.iload_n 2, 1) := by decide +kernel
theorem dX11_make_122 : decode mX11_make.2.1 122 = .ok (.iconst 4, 1) := by decide +kernel
theorem dX11_make_123 : decode mX11_make.2.1 123 = .ok (.if_icmp .ne 27, 3) := by decide +kernel
theorem dX11_make_126 : decode mX11_make.2.1 126 = .ok (.aload_n 0, 1) := by decide +kernel
theorem dX11_make_127 : decode mX11_make.2.1 127 = .ok (.iload_n 1, 1) := by decide +kernel
theorem dX11_make_128 : decode mX11_make.2.1 128 = .ok (.iconst 0, 1) := by decide +kernel
theorem dX11_make_129 : decode mX11_make.2.1 129 = .ok (.iconst 1, 1) := by decide +kernel
theorem dX11_make_130 : decode mX11_make.2.1 130 = .ok (.invokevirtual 139, 3) := by decide +kernel
theorem dX11_make_133 : decode mX11_make.2.1 133 = .ok (.aload_n 0, 1) := by decide +kernel
theorem dX11_make_134 : decode mX11_make.2.1 134 = .ok (.iload_n 1, 1) := by decide +kernel
theorem dX11_make_135 : decode mX11_make.2.1 135 = .ok (.iconst 1, 1) := by decide +kernel
theorem dX11_make_136 : decode mX11_make.2.1 136 = .ok (.iload_n 3, 1) := by decide +kernel
theorem dX11_make_137 : decode mX11_make.2.1 137 = .ok (.invokevirtual 139, 3) := by decide +kernel
theorem dX11_make_140 : decode mX11_make.2.1 140 = .ok (.aload_n 0, 1) := by decide +kernel
theorem dX11_make_141 : decode mX11_make.2.1 141 = .ok (.iload_n 1, 1) := by decide +kernel
theorem dX11_make_142 : decode mX11_make.2.1 142 = .ok (.iconst 0, 1) := by decide +kernel
theorem dX11_make_143 : decode mX11_make.2.1 143 = .ok (.iconst 1, 1) := by decide +kernel
theorem dX11_make_144 : decode mX11_make.2.1 144 = .ok (.invokevirtual 139, 3) := by decide +kernel
theorem dX11_make_147 : decode mX11_make.2.1 147 = .ok (.goto 49, 3) := by decide +kernel
theorem dX11_make_150 : decode mX11_make.2.1 150 = .ok (.iconst 1, 1) := by decide +kernel
theorem dX11_make_151 : decode mX11_make.2.1 151 = .ok (.istore 4, 2) := by decide +kernel
theorem dX11_make_153 : decode mX11_make.2.1 153 = .ok (.iload 4, 2) := by decide +kernel
theorem dX11_make_155 : decode mX11_make.2.1 155 = .ok (.iload_n 3, 1) := by decide +kernel
theorem dX11_make_156 : decode mX11_make.2.1 156 = .ok (.if_icmp .gt 40, 3) := by decide +kernel
theorem dX11_make_159 : decode mX11_make.2.1 159 = .ok (.aload_n 0, 1) := by decide +kernel
theorem dX11_make_160 : decode mX11_make.2.1 160 = .ok (.getfield 9, 3) := by decide +kernel
theorem dX11_make_163 : decode mX11_make.2.1 163 = .ok (.iload_n 1, 1) := by decide +kernel
theorem dX11_make_164 : decode mX11_make.2.1 164 = .ok (.iaload, 1) := by decide +kernel
theorem dX11_make_165 : decode mX11_make.2.1 165 = .ok (.iload 4, 2) := by decide +kernel
theorem dX11_make_167 : decode mX11_make.2.1 167 = .ok (.iadd, 1) := by decide +kernel
theorem dX11_make_168 : decode mX11_make.2.1 168 = .ok (.iconst 1, 1) := by decide +kernel
theorem dX11_make_169 : decode mX11_make.2.1 169 = .ok (.iadd, 1) := by decide +kernel
theorem dX11_make_170 : decode mX11_make.2.1 170 = .ok (.bipush 12, 2) := by decide +kernel
theorem dX11_make_172 : decode mX11_make.2.1 172 = .ok (.if_icmp .gt 24, 3) := by decide +kernel
theorem dX11_make_175 : decode mX11_make.2.1 175 = .ok (.aload_n 0, 1) := by decide +kernel
theorem dX11_make_176 : decode mX11_make.2.1 176 = .ok (.iload_n 1, 1) := by decide +kernel
theorem dX11_make_177 : decode mX11_make.2.1 177 = .ok (.iconst 1, 1) := by decide +kernel
theorem dX11_make_178 : decode mX11_make.2.1 178 = .ok (.iload 4, 2) := by decide +kernel
theorem dX11_make_180 : decode mX11_make.2.1 180 = .ok (.invokevirtual 139, 3) := by decide +kernel
theorem dX11_make_183 : decode mX11_make.2.1 183 = .ok (.aload_n 0, 1) := by decide +kernel
theorem dX11_make_184 : decode mX11_make.2.1 184 = .ok (.iload_n 1, 1) := by decide +kernel
theorem dX11_make_185 : decode mX11_make.2.1 185 = .ok (.iconst 0, 1) := by decide +kernel
theorem dX11_make_186 : decode mX11_make.2.1 186 = .ok (.iconst 1, 1) := by decide +kernel
theorem dX11_make_187 : decode mX11_make.2.1 187 = .ok (.invokevirtual 139, 3) := by decide +kernel
theorem dX11_make_190 : decode mX11_make.2.1 190 = .ok (.iinc 4 1, 3) := by decide +kernel
theorem dX11_make_193 : decode mX11_make.2.1 193 = .ok (.goto (-40), 3) := by decide +kernel
theorem dX11_make_196 : decode mX11_make.2.1 196 = .ok (.aload_n 0, 1) := by decide +kernel
theorem dX11_make_197 : decode mX11_make.2.1 197 = .ok (.getfield 9, 3) := by decide +kernel
theorem dX11_make_200 : decode mX11_make.2.1 200 = .ok (.iload_n 1, 1) := by decide +kernel
theorem dX11_make_201 : decode mX11_make.2.1 201 = .ok (.iaload, 1) := by decide +kernel
theorem dX11_make_202 : decode mX11_make.2.1 202 = .ok (.ireturn, 1) := by decide +kernel
def mX11_join : String × ByteArray × Nat := (RX11, cX11_join, 5)
theorem dX11_join_0 : decode mX11_join.2.1 0 = .ok (.iload_n 1, 1) := by decide +kernel
theorem dX11_join_1 : decode mX11_join.2.1 1 = .ok (.invokestatic 133, 3) := by decide +kernel
theorem dX11_join_4 : decode mX11_join.2.1 4 = .ok (.ifCond .eq 10, 3) := by decide +kernel
theorem dX11_join_7 : decode mX11_join.2.1 7 = .ok (.iload_n 2, 1) := by decide +kernel
theorem dX11_join_8 : decode mX11_join.2.1 8 = .ok (.invokestatic 133, 3) := by decide +kernel
theorem dX11_join_11 : decode mX11_join.2.1 11 = .ok (.ifCond .ne 5, 3) := by decide +kernel
theorem dX11_join_14 : decode mX11_join.2.1 14 = .ok (.iconst (-1), 1) := by decide +kernel
theorem dX11_join_15 : decode mX11_join.2.1 15 = .ok (.ireturn, 1) := by decide +kernel
theorem dX11_join_16 : decode mX11_join.2.1 16 = .ok (.aload_n 0, 1) := by decide +kernel
theorem dX11_join_17 : decode mX11_join.2.1 17 = .ok (.getfield 9, 3) := by decide +kernel
theorem dX11_join_20 : decode mX11_join.2.1 20 = .ok (.iload_n 2, 1) := by decide +kernel
theorem dX11_join_21 : decode mX11_join.2.1 21 = .ok (.iaload, 1) := by decide +kernel
theorem dX11_join_22 : decode mX11_join.2.1 22 = .ok (.istore_n 3, 1) := by decide +kernel
theorem dX11_join_23 : decode mX11_join.2.1 23 = .ok (.aload_n 0, 1) := by decide +kernel
theorem dX11_join_24 : decode mX11_join.2.1 24 = .ok (.getfield 9, 3) := by decide +kernel
theorem dX11_join_27 : decode mX11_join.2.1 27 = .ok (.iload_n 1, 1) := by decide +kernel
theorem dX11_join_28 : decode mX11_join.2.1 28 = .ok (.iaload, 1) := by decide +kernel
theorem dX11_join_29 : decode mX11_join.2.1 29 = .ok (.iload_n 3, 1) := by decide +kernel
theorem dX11_join_30 : decode mX11_join.2.1 30 = .ok (.iadd, 1) := by decide +kernel
theorem dX11_join_31 : decode mX11_join.2.1 31 = .ok (.bipush 12, 2) := by decide +kernel
theorem dX11_join_33 : decode mX11_join.2.1 33 = .ok (.if_icmp .le 6, 3) := by decide +kernel
theorem dX11_join_36 : decode mX11_join.2.1 36 = .ok (.bipush (-4), 2) := by decide +kernel
theorem dX11_join_38 : decode mX11_join.2.1 38 = .ok (.ireturn, 1) := by decide +kernel
theorem dX11_join_39 : decode mX11_join.2.1 39 = .ok (.iconst 0, 1) := by decide +kernel
theorem dX11_join_40 : decode mX11_join.2.1 40 = .ok (.istore 4, 2) := by decide +kernel
theorem dX11_join_42 : decode mX11_join.2.1 42 = .ok (.iload 4, 2) := by decide +kernel
theorem dX11_join_44 : decode mX11_join.2.1 44 = .ok (.iload_n 3, 1) := by decide +kernel
theorem dX11_join_45 : decode mX11_join.2.1 45 = .ok (.if_icmp .ge 27, 3) := by decide +kernel
theorem dX11_join_48 : decode mX11_join.2.1 48 = .ok (.aload_n 0, 1) := by decide +kernel
theorem dX11_join_49 : decode mX11_join.2.1 49 = .ok (.iload_n 1, 1) := by decide +kernel
theorem dX11_join_50 : decode mX11_join.2.1 50 = .ok (.aload_n 0, 1) := by decide +kernel
theorem dX11_join_51 : decode mX11_join.2.1 51 = .ok (.getfield 15, 3) := by decide +kernel
theorem dX11_join_54 : decode mX11_join.2.1 54 = .ok (.bipush 12, 2) := by decide +kernel
theorem dX11_join_56 : decode mX11_join.2.1 56 = .ok (.iload_n 2, 1) := by decide +kernel
theorem dX11_join_57 : decode mX11_join.2.1 57 = .ok (.imul, 1) := by decide +kernel
theorem dX11_join_58 : decode mX11_join.2.1 58 = .ok (.iload 4, 2) := by decide +kernel
theorem dX11_join_60 : decode mX11_join.2.1 60 = .ok (.iadd, 1) := by decide +kernel
theorem dX11_join_61 : decode mX11_join.2.1 61 = .ok (.iaload, 1) := by decide +kernel
theorem dX11_join_62 : decode mX11_join.2.1 62 = .ok (.iconst 1, 1) := by decide +kernel
theorem dX11_join_63 : decode mX11_join.2.1 63 = .ok (.invokevirtual 139, 3) := by decide +kernel
theorem dX11_join_66 : decode mX11_join.2.1 66 = .ok (.iinc 4 1, 3) := by decide +kernel
theorem dX11_join_69 : decode mX11_join.2.1 69 = .ok (.goto (-27), 3) := by decide +kernel
theorem dX11_join_72 : decode mX11_join.2.1 72 = .ok (.aload_n 0, 1) := by decide +kernel
theorem dX11_join_73 : decode mX11_join.2.1 73 = .ok (.getfield 9, 3) := by decide +kernel
theorem dX11_join_76 : decode mX11_join.2.1 76 = .ok (.iload_n 1, 1) := by decide +kernel
theorem dX11_join_77 : decode mX11_join.2.1 77 = .ok (.iaload, 1) := by decide +kernel
theorem dX11_join_78 : decode mX11_join.2.1 78 = .ok (.ireturn, 1) := by decide +kernel

def mX0_init : String × ByteArray × Nat := (RX0, cX0_init, 1)
theorem dX0_init_0 : decode mX0_init.2.1 0 = .ok (.aload_n 0, 1) := by decide +kernel
theorem dX0_init_1 : decode mX0_init.2.1 1 = .ok (.invokespecial 3, 3) := by decide +kernel
theorem dX0_init_4 : decode mX0_init.2.1 4 = .ok (.aload_n 0, 1) := by decide +kernel
theorem dX0_init_5 : decode mX0_init.2.1 5 = .ok (.iconst 3, 1) := by decide +kernel
theorem dX0_init_6 : decode mX0_init.2.1 6 = .ok (.putfield 11, 3) := by decide +kernel
theorem dX0_init_9 : decode mX0_init.2.1 9 = .ok (.aload_n 0, 1) := by decide +kernel
theorem dX0_init_10 : decode mX0_init.2.1 10 = .ok (.bipush 6, 2) := by decide +kernel
theorem dX0_init_12 : decode mX0_init.2.1 12 = .ok (.newarray .int, 2) := by decide +kernel
theorem dX0_init_14 : decode mX0_init.2.1 14 = .ok (.putfield 15, 3) := by decide +kernel
theorem dX0_init_17 : decode mX0_init.2.1 17 = .ok (.return_, 1) := by decide +kernel
def mX0_clean : String × ByteArray × Nat := (RX0, cX0_clean, 2)
theorem dX0_clean_0 : decode mX0_clean.2.1 0 = .ok (.aload_n 0, 1) := by decide +kernel
theorem dX0_clean_1 : decode mX0_clean.2.1 1 = .ok (.iload_n 1, 1) := by decide +kernel
theorem dX0_clean_2 : decode mX0_clean.2.1 2 = .ok (.putfield 11, 3) := by decide +kernel
theorem dX0_clean_5 : decode mX0_clean.2.1 5 = .ok (.aload_n 0, 1) := by decide +kernel
theorem dX0_clean_6 : decode mX0_clean.2.1 6 = .ok (.getfield 15, 3) := by decide +kernel
theorem dX0_clean_9 : decode mX0_clean.2.1 9 = .ok (.iconst 0, 1) := by decide +kernel
theorem dX0_clean_10 : decode mX0_clean.2.1 10 = .ok (.invokestatic 19, 3) := by decide +kernel
theorem dX0_clean_13 : decode mX0_clean.2.1 13 = .ok (.return_, 1) := by decide +kernel
def mX0_becomeLike : String × ByteArray × Nat := (RX0, cX0_becomeLike, 2)
theorem dX0_becomeLike_0 : decode mX0_becomeLike.2.1 0 = .ok (.aload_n 0, 1) := by decide +kernel
theorem dX0_becomeLike_1 : decode mX0_becomeLike.2.1 1 = .ok (.aload_n 1, 1) := by decide +kernel
theorem dX0_becomeLike_2 : decode mX0_becomeLike.2.1 2 = .ok (.getfield 11, 3) := by decide +kernel
theorem dX0_becomeLike_5 : decode mX0_becomeLike.2.1 5 = .ok (.putfield 11, 3) := by decide +kernel
theorem dX0_becomeLike_8 : decode mX0_becomeLike.2.1 8 = .ok (.aload_n 1, 1) := by decide +kernel
theorem dX0_becomeLike_9 : decode mX0_becomeLike.2.1 9 = .ok (.getfield 15, 3) := by decide +kernel
theorem dX0_becomeLike_12 : decode mX0_becomeLike.2.1 12 = .ok (.iconst 0, 1) := by decide +kernel
theorem dX0_becomeLike_13 : decode mX0_becomeLike.2.1 13 = .ok (.aload_n 0, 1) := by decide +kernel
theorem dX0_becomeLike_14 : decode mX0_becomeLike.2.1 14 = .ok (.getfield 15, 3) := by decide +kernel
theorem dX0_becomeLike_17 : decode mX0_becomeLike.2.1 17 = .ok (.iconst 0, 1) := by decide +kernel
theorem dX0_becomeLike_18 : decode mX0_becomeLike.2.1 18 = .ok (.bipush 6, 2) := by decide +kernel
theorem dX0_becomeLike_20 : decode mX0_becomeLike.2.1 20 = .ok (.invokestatic 25, 3) := by decide +kernel
theorem dX0_becomeLike_23 : decode mX0_becomeLike.2.1 23 = .ok (.return_, 1) := by decide +kernel
def mX0_isPlace : String × ByteArray × Nat := (RX0, cX0_isPlace, 3)
theorem dX0_isPlace_0 : decode mX0_isPlace.2.1 0 = .ok (.iload_n 1, 1) := by decide +kernel
theorem dX0_isPlace_1 : decode mX0_isPlace.2.1 1 = .ok (.ifCond .lt 27, 3) := by decide +kernel
theorem dX0_isPlace_4 : decode mX0_isPlace.2.1 4 = .ok (.iload_n 1, 1) := by decide +kernel
theorem dX0_isPlace_5 : decode mX0_isPlace.2.1 5 = .ok (.aload_n 0, 1) := by decide +kernel
theorem dX0_isPlace_6 : decode mX0_isPlace.2.1 6 = .ok (.getfield 11, 3) := by decide +kernel
theorem dX0_isPlace_9 : decode mX0_isPlace.2.1 9 = .ok (.if_icmp .ge 19, 3) := by decide +kernel
theorem dX0_isPlace_12 : decode mX0_isPlace.2.1 12 = .ok (.iload_n 2, 1) := by decide +kernel
theorem dX0_isPlace_13 : decode mX0_isPlace.2.1 13 = .ok (.ifCond .lt 15, 3) := by decide +kernel
theorem dX0_isPlace_16 : decode mX0_isPlace.2.1 16 = .ok (.iload_n 2, 1) := by decide +kernel
theorem dX0_isPlace_17 : decode mX0_isPlace.2.1 17 = .ok (.aload_n 0, 1) := by decide +kernel
theorem dX0_isPlace_18 : decode mX0_isPlace.2.1 18 = .ok (.getfield 11, 3) := by decide +kernel
theorem dX0_isPlace_21 : decode mX0_isPlace.2.1 21 = .ok (.if_icmp .ge 7, 3) := by decide +kernel
theorem dX0_isPlace_24 : decode mX0_isPlace.2.1 24 = .ok (.iconst 1, 1) := by decide +kernel
theorem dX0_isPlace_25 : decode mX0_isPlace.2.1 25 = .ok (.goto 4, 3) := by decide +kernel
theorem dX0_isPlace_28 : decode mX0_isPlace.2.1 28 = .ok (.iconst 0, 1) := by decide +kernel
theorem dX0_isPlace_29 : decode mX0_isPlace.2.1 29 = .ok (.ireturn, 1) := by decide +kernel
def mX0_has : String × ByteArray × Nat := (RX0, cX0_has, 3)
theorem dX0_has_0 : decode mX0_has.2.1 0 = .ok (.aload_n 0, 1) := by decide +kernel
theorem dX0_has_1 : decode mX0_has.2.1 1 = .ok (.getfield 15, 3) := by decide +kernel
theorem dX0_has_4 : decode mX0_has.2.1 4 = .ok (.iload_n 1, 1) := by decide +kernel
theorem dX0_has_5 : decode mX0_has.2.1 5 = .ok (.iaload, 1) := by decide +kernel
theorem dX0_has_6 : decode mX0_has.2.1 6 = .ok (.iload_n 2, 1) := by decide +kernel
theorem dX0_has_7 : decode mX0_has.2.1 7 = .ok (.ishr, 1) := by decide +kernel
theorem dX0_has_8 : decode mX0_has.2.1 8 = .ok (.iconst 1, 1) := by decide +kernel
theorem dX0_has_9 : decode mX0_has.2.1 9 = .ok (.iand, 1) := by decide +kernel
theorem dX0_has_10 : decode mX0_has.2.1 10 = .ok (.ifCond .eq 7, 3) := by decide +kernel
theorem dX0_has_13 : decode mX0_has.2.1 13 = .ok (.iconst 1, 1) := by decide +kernel
theorem dX0_has_14 : decode mX0_has.2.1 14 = .ok (.goto 4, 3) := by decide +kernel
theorem dX0_has_17 : decode mX0_has.2.1 17 = .ok (.iconst 0, 1) := by decide +kernel
theorem dX0_has_18 : decode mX0_has.2.1 18 = .ok (.ireturn, 1) := by decide +kernel
def mX0_toggle : String × ByteArray × Nat := (RX0, cX0_toggle, 3)
theorem dX0_toggle_0 : decode mX0_toggle.2.1 0 = .ok (.aload_n 0, 1) := by decide +kernel
theorem dX0_toggle_1 : decode mX0_toggle.2.1 1 = .ok (.getfield 15, 3) := by decide +kernel
theorem dX0_toggle_4 : decode mX0_toggle.2.1 4 = .ok (.iload_n 1, 1) := by decide +kernel
theorem dX0_toggle_5 : decode mX0_toggle.2.1 5 = .ok (.dup2, 1) := by decide +kernel
theorem dX0_toggle_6 : decode mX0_toggle.2.1 6 = .ok (.iaload, 1) := by decide +kernel
theorem dX0_toggle_7 : decode mX0_toggle.2.1 7 = .ok (.iconst 1, 1) := by decide +kernel
theorem dX0_toggle_8 : decode mX0_toggle.2.1 8 = .ok (.iload_n 2, 1) := by decide +kernel
theorem dX0_toggle_9 : decode mX0_toggle.2.1 9 = .ok (.ishl, 1) := by decide +kernel
theorem dX0_toggle_10 : decode mX0_toggle.2.1 10 = .ok (.ixor, 1) := by decide +kernel
theorem dX0_toggle_11 : decode mX0_toggle.2.1 11 = .ok (.iastore, 1) := by decide +kernel
theorem dX0_toggle_12 : decode mX0_toggle.2.1 12 = .ok (.return_, 1) := by decide +kernel
def mX0_cells : String × ByteArray × Nat := (RX0, cX0_cells, 3)
theorem dX0_cells_0 : decode mX0_cells.2.1 0 = .ok (.iconst 0, 1) := by decide +kernel
theorem dX0_cells_1 : decode mX0_cells.2.1 1 = .ok (.istore_n 1, 1) := by decide +kernel
theorem dX0_cells_2 : decode mX0_cells.2.1 2 = .ok (.iconst 0, 1) := by decide +kernel
theorem dX0_cells_3 : decode mX0_cells.2.1 3 = .ok (.istore_n 2, 1) := by decide +kernel
theorem dX0_cells_4 : decode mX0_cells.2.1 4 = .ok (.iload_n 2, 1) := by decide +kernel
theorem dX0_cells_5 : decode mX0_cells.2.1 5 = .ok (.aload_n 0, 1) := by decide +kernel
theorem dX0_cells_6 : decode mX0_cells.2.1 6 = .ok (.getfield 11, 3) := by decide +kernel
theorem dX0_cells_9 : decode mX0_cells.2.1 9 = .ok (.if_icmp .ge 21, 3) := by decide +kernel
theorem dX0_cells_12 : decode mX0_cells.2.1 12 = .ok (.iload_n 1, 1) := by decide +kernel
theorem dX0_cells_13 : decode mX0_cells.2.1 13 = .ok (.aload_n 0, 1) := by decide +kernel
theorem dX0_cells_14 : decode mX0_cells.2.1 14 = .ok (.getfield 15, 3) := by decide +kernel
theorem dX0_cells_17 : decode mX0_cells.2.1 17 = .ok (.iload_n 2, 1) := by decide +kernel
theorem dX0_cells_18 : decode mX0_cells.2.1 18 = .ok (.iaload, 1) := by decide +kernel
theorem dX0_cells_19 : decode mX0_cells.2.1 19 = .ok (.invokestatic 31, 3) := by decide +kernel
theorem dX0_cells_22 : decode mX0_cells.2.1 22 = .ok (.iadd, 1) := by decide +kernel
theorem dX0_cells_23 : decode mX0_cells.2.1 23 = .ok (.istore_n 1, 1) := by decide +kernel
theorem dX0_cells_24 : decode mX0_cells.2.1 24 = .ok (.iinc 2 1, 3) := by decide +kernel
theorem dX0_cells_27 : decode mX0_cells.2.1 27 = .ok (.goto (-23), 3) := by decide +kernel
theorem dX0_cells_30 : decode mX0_cells.2.1 30 = .ok (.iload_n 1, 1) := by decide +kernel
theorem dX0_cells_31 : decode mX0_cells.2.1 31 = .ok (.ireturn, 1) := by decide +kernel
def mX0_becomeWord : String × ByteArray × Nat := (RX0, cX0_becomeWord, 6)
theorem dX0_becomeWord_0 : decode mX0_becomeWord.2.1 0 = .ok (.aload_n 0, 1) := by decide +kernel
theorem dX0_becomeWord_1 : decode mX0_becomeWord.2.1 1 = .ok (.iconst 1, 1) := by decide +kernel
theorem dX0_becomeWord_2 : decode mX0_becomeWord.2.1 2 = .ok (.aload_n 1, 1) := by decide +kernel
theorem dX0_becomeWord_3 : decode mX0_becomeWord.2.1 3 = .ok (.invokevirtual 37, 3) := by decide +kernel
theorem dX0_becomeWord_6 : decode mX0_becomeWord.2.1 6 = .ok (.aload_n 1, 1) := by decide +kernel
theorem dX0_becomeWord_7 : decode mX0_becomeWord.2.1 7 = .ok (.invokevirtual 43, 3) := by decide +kernel
theorem dX0_becomeWord_10 : decode mX0_becomeWord.2.1 10 = .ok (.invokestatic 46, 3) := by decide +kernel
theorem dX0_becomeWord_13 : decode mX0_becomeWord.2.1 13 = .ok (.invokestatic 46, 3) := by decide +kernel
theorem dX0_becomeWord_16 : decode mX0_becomeWord.2.1 16 = .ok (.invokevirtual 52, 3) := by decide +kernel
theorem dX0_becomeWord_19 : decode mX0_becomeWord.2.1 19 = .ok (.iconst 0, 1) := by decide +kernel
theorem dX0_becomeWord_20 : decode mX0_becomeWord.2.1 20 = .ok (.istore_n 2, 1) := by decide +kernel
theorem dX0_becomeWord_21 : decode mX0_becomeWord.2.1 21 = .ok (.iconst 0, 1) := by decide +kernel
theorem dX0_becomeWord_22 : decode mX0_becomeWord.2.1 22 = .ok (.istore_n 3, 1) := by decide +kernel
theorem dX0_becomeWord_23 : decode mX0_becomeWord.2.1 23 = .ok (.iconst 0, 1) := by decide +kernel
theorem dX0_becomeWord_24 : decode mX0_becomeWord.2.1 24 = .ok (.istore 4, 2) := by decide +kernel
theorem dX0_becomeWord_26 : decode mX0_becomeWord.2.1 26 = .ok (.iload 4, 2) := by decide +kernel
theorem dX0_becomeWord_28 : decode mX0_becomeWord.2.1 28 = .ok (.aload_n 1, 1) := by decide +kernel
theorem dX0_becomeWord_29 : decode mX0_becomeWord.2.1 29 = .ok (.getfield 56, 3) := by decide +kernel
theorem dX0_becomeWord_32 : decode mX0_becomeWord.2.1 32 = .ok (.if_icmp .ge 66, 3) := by decide +kernel
theorem dX0_becomeWord_35 : decode mX0_becomeWord.2.1 35 = .ok (.aload_n 1, 1) := by decide +kernel
theorem dX0_becomeWord_36 : decode mX0_becomeWord.2.1 36 = .ok (.getfield 59, 3) := by decide +kernel
theorem dX0_becomeWord_39 : decode mX0_becomeWord.2.1 39 = .ok (.iload 4, 2) := by decide +kernel
theorem dX0_becomeWord_41 : decode mX0_becomeWord.2.1 41 = .ok (.iaload, 1) := by decide +kernel
theorem dX0_becomeWord_42 : decode mX0_becomeWord.2.1 42 = .ok (.iconst 1, 1) := by decide +kernel
theorem dX0_becomeWord_43 : decode mX0_becomeWord.2.1 43 = .ok (.if_icmp .ne 9, 3) := by decide +kernel
theorem dX0_becomeWord_46 : decode mX0_becomeWord.2.1 46 = .ok (.iinc 3 1, 3) := by decide +kernel
theorem dX0_becomeWord_49 : decode mX0_becomeWord.2.1 49 = .ok (.goto 43, 3) := by decide +kernel
theorem dX0_becomeWord_52 : decode mX0_becomeWord.2.1 52 = .ok (.iconst 0, 1) := by decide +kernel
theorem dX0_becomeWord_53 : decode mX0_becomeWord.2.1 53 = .ok (.istore 5, 2) := by decide +kernel
theorem dX0_becomeWord_55 : decode mX0_becomeWord.2.1 55 = .ok (.iload 5, 2) := by decide +kernel
theorem dX0_becomeWord_57 : decode mX0_becomeWord.2.1 57 = .ok (.iload_n 3, 1) := by decide +kernel
theorem dX0_becomeWord_58 : decode mX0_becomeWord.2.1 58 = .ok (.if_icmp .ge 31, 3) := by decide +kernel
theorem dX0_becomeWord_61 : decode mX0_becomeWord.2.1 61 = .ok (.iload 5, 2) := by decide +kernel
theorem dX0_becomeWord_63 : decode mX0_becomeWord.2.1 63 = .ok (.aload_n 0, 1) := by decide +kernel
theorem dX0_becomeWord_64 : decode mX0_becomeWord.2.1 64 = .ok (.getfield 11, 3) := by decide +kernel
theorem dX0_becomeWord_67 : decode mX0_becomeWord.2.1 67 = .ok (.if_icmp .ge 22, 3) := by decide +kernel
theorem dX0_becomeWord_70 : decode mX0_becomeWord.2.1 70 = .ok (.aload_n 0, 1) := by decide +kernel
theorem dX0_becomeWord_71 : decode mX0_becomeWord.2.1 71 = .ok (.getfield 15, 3) := by decide +kernel
theorem dX0_becomeWord_74 : decode mX0_becomeWord.2.1 74 = .ok (.iload 5, 2) := by decide +kernel
theorem dX0_becomeWord_76 : decode mX0_becomeWord.2.1 76 = .ok (.dup2, 1) := by decide +kernel
theorem dX0_becomeWord_77 : decode mX0_becomeWord.2.1 77 = .ok (.iaload, 1) := by decide +kernel
theorem dX0_becomeWord_78 : decode mX0_becomeWord.2.1 78 = .ok (.iconst 1, 1) := by decide +kernel
theorem dX0_becomeWord_79 : decode mX0_becomeWord.2.1 79 = .ok (.iload_n 2, 1) := by decide +kernel
theorem dX0_becomeWord_80 : decode mX0_becomeWord.2.1 80 = .ok (.ishl, 1) := by decide +kernel
theorem dX0_becomeWord_81 : decode mX0_becomeWord.2.1 81 = .ok (.ior, 1) := by decide +kernel
theorem dX0_becomeWord_82 : decode mX0_becomeWord.2.1 82 = .ok (.iastore, 1) := by decide +kernel
theorem dX0_becomeWord_83 : decode mX0_becomeWord.2.1 83 = .ok (.iinc 5 1, 3) := by decide +kernel
theorem dX0_becomeWord_86 : decode mX0_becomeWord.2.1 86 = .ok (.goto (-31), 3) := by decide +kernel
theorem dX0_becomeWord_89 : decode mX0_becomeWord.2.1 89 = .ok (.iinc 2 1, 3) := by decide +kernel
theorem dX0_becomeWord_92 : decode mX0_becomeWord.2.1 92 = .ok (.iinc 4 1, 3) := by decide +kernel
theorem dX0_becomeWord_95 : decode mX0_becomeWord.2.1 95 = .ok (.goto (-69), 3) := by decide +kernel
theorem dX0_becomeWord_98 : decode mX0_becomeWord.2.1 98 = .ok (.return_, 1) := by decide +kernel
def mX0_becomeSteps : String × ByteArray × Nat := (RX0, cX0_becomeSteps, 4)
theorem dX0_becomeSteps_0 : decode mX0_becomeSteps.2.1 0 = .ok (.aload_n 0, 1) := by decide +kernel
theorem dX0_becomeSteps_1 : decode mX0_becomeSteps.2.1 1 = .ok (.iload_n 1, 1) := by decide +kernel
theorem dX0_becomeSteps_2 : decode mX0_becomeSteps.2.1 2 = .ok (.invokevirtual 52, 3) := by decide +kernel
theorem dX0_becomeSteps_5 : decode mX0_becomeSteps.2.1 5 = .ok (.iconst 0, 1) := by decide +kernel
theorem dX0_becomeSteps_6 : decode mX0_becomeSteps.2.1 6 = .ok (.istore_n 3, 1) := by decide +kernel
theorem dX0_becomeSteps_7 : decode mX0_becomeSteps.2.1 7 = .ok (.iload_n 3, 1) := by decide +kernel
theorem dX0_becomeSteps_8 : decode mX0_becomeSteps.2.1 8 = .ok (.iload_n 1, 1) := by decide +kernel
theorem dX0_becomeSteps_9 : decode mX0_becomeSteps.2.1 9 = .ok (.if_icmp .ge 28, 3) := by decide +kernel
theorem dX0_becomeSteps_12 : decode mX0_becomeSteps.2.1 12 = .ok (.aload_n 0, 1) := by decide +kernel
theorem dX0_becomeSteps_13 : decode mX0_becomeSteps.2.1 13 = .ok (.getfield 15, 3) := by decide +kernel
theorem dX0_becomeSteps_16 : decode mX0_becomeSteps.2.1 16 = .ok (.iload_n 3, 1) := by decide +kernel
theorem dX0_becomeSteps_17 : decode mX0_becomeSteps.2.1 17 = .ok (.iconst 1, 1) := by decide +kernel
theorem dX0_becomeSteps_18 : decode mX0_becomeSteps.2.1 18 = .ok (.iload_n 2, 1) := by decide +kernel
theorem dX0_becomeSteps_19 : decode mX0_becomeSteps.2.1 19 = .ok (.iload_n 1, 1) := by decide +kernel
theorem dX0_becomeSteps_20 : decode mX0_becomeSteps.2.1 20 = .ok (.iconst 1, 1) := by decide +kernel
theorem dX0_becomeSteps_21 : decode mX0_becomeSteps.2.1 21 = .ok (.isub, 1) := by decide +kernel
theorem dX0_becomeSteps_22 : decode mX0_becomeSteps.2.1 22 = .ok (.iload_n 3, 1) := by decide +kernel
theorem dX0_becomeSteps_23 : decode mX0_becomeSteps.2.1 23 = .ok (.isub, 1) := by decide +kernel
theorem dX0_becomeSteps_24 : decode mX0_becomeSteps.2.1 24 = .ok (.invokestatic 62, 3) := by decide +kernel
theorem dX0_becomeSteps_27 : decode mX0_becomeSteps.2.1 27 = .ok (.ishl, 1) := by decide +kernel
theorem dX0_becomeSteps_28 : decode mX0_becomeSteps.2.1 28 = .ok (.iconst 1, 1) := by decide +kernel
theorem dX0_becomeSteps_29 : decode mX0_becomeSteps.2.1 29 = .ok (.isub, 1) := by decide +kernel
theorem dX0_becomeSteps_30 : decode mX0_becomeSteps.2.1 30 = .ok (.iastore, 1) := by decide +kernel
theorem dX0_becomeSteps_31 : decode mX0_becomeSteps.2.1 31 = .ok (.iinc 3 1, 3) := by decide +kernel
theorem dX0_becomeSteps_34 : decode mX0_becomeSteps.2.1 34 = .ok (.goto (-27), 3) := by decide +kernel
theorem dX0_becomeSteps_37 : decode mX0_becomeSteps.2.1 37 = .ok (.return_, 1) := by decide +kernel
def mX0_becomeOther : String × ByteArray × Nat := (RX0, cX0_becomeOther, 2)
theorem dX0_becomeOther_0 : decode mX0_becomeOther.2.1 0 = .ok (.iconst 0, 1) := by decide +kernel
theorem dX0_becomeOther_1 : decode mX0_becomeOther.2.1 1 = .ok (.istore_n 1, 1) := by decide +kernel
theorem dX0_becomeOther_2 : decode mX0_becomeOther.2.1 2 = .ok (.iload_n 1, 1) := by decide +kernel
theorem dX0_becomeOther_3 : decode mX0_becomeOther.2.1 3 = .ok (.aload_n 0, 1) := by decide +kernel
theorem dX0_becomeOther_4 : decode mX0_becomeOther.2.1 4 = .ok (.getfield 11, 3) := by decide +kernel
theorem dX0_becomeOther_7 : decode mX0_becomeOther.2.1 7 = .ok (.if_icmp .ge 26, 3) := by decide +kernel
theorem dX0_becomeOther_10 : decode mX0_becomeOther.2.1 10 = .ok (.aload_n 0, 1) := by decide +kernel
theorem dX0_becomeOther_11 : decode mX0_becomeOther.2.1 11 = .ok (.getfield 15, 3) := by decide +kernel
theorem dX0_becomeOther_14 : decode mX0_becomeOther.2.1 14 = .ok (.iload_n 1, 1) := by decide +kernel
theorem dX0_becomeOther_15 : decode mX0_becomeOther.2.1 15 = .ok (.dup2, 1) := by decide +kernel
theorem dX0_becomeOther_16 : decode mX0_becomeOther.2.1 16 = .ok (.iaload, 1) := by decide +kernel
theorem dX0_becomeOther_17 : decode mX0_becomeOther.2.1 17 = .ok (.iconst 1, 1) := by decide +kernel
theorem dX0_becomeOther_18 : decode mX0_becomeOther.2.1 18 = .ok (.aload_n 0, 1) := by decide +kernel
theorem dX0_becomeOther_19 : decode mX0_becomeOther.2.1 19 = .ok (.getfield 11, 3) := by decide +kernel
theorem dX0_becomeOther_22 : decode mX0_becomeOther.2.1 22 = .ok (.ishl, 1) := by decide +kernel
theorem dX0_becomeOther_23 : decode mX0_becomeOther.2.1 23 = .ok (.iconst 1, 1) := by decide +kernel
theorem dX0_becomeOther_24 : decode mX0_becomeOther.2.1 24 = .ok (.isub, 1) := by decide +kernel
theorem dX0_becomeOther_25 : decode mX0_becomeOther.2.1 25 = .ok (.ixor, 1) := by decide +kernel
theorem dX0_becomeOther_26 : decode mX0_becomeOther.2.1 26 = .ok (.iastore, 1) := by decide +kernel
theorem dX0_becomeOther_27 : decode mX0_becomeOther.2.1 27 = .ok (.iinc 1 1, 3) := by decide +kernel
theorem dX0_becomeOther_30 : decode mX0_becomeOther.2.1 30 = .ok (.goto (-28), 3) := by decide +kernel
theorem dX0_becomeOther_33 : decode mX0_becomeOther.2.1 33 = .ok (.return_, 1) := by decide +kernel
def mX0_becomeTurned : String × ByteArray × Nat := (RX0, cX0_becomeTurned, 3)
theorem dX0_becomeTurned_0 : decode mX0_becomeTurned.2.1 0 = .ok (.iconst 0, 1) := by decide +kernel
theorem dX0_becomeTurned_1 : decode mX0_becomeTurned.2.1 1 = .ok (.istore_n 1, 1) := by decide +kernel
theorem dX0_becomeTurned_2 : decode mX0_becomeTurned.2.1 2 = .ok (.iload_n 1, 1) := by decide +kernel
theorem dX0_becomeTurned_3 : decode mX0_becomeTurned.2.1 3 = .ok (.aload_n 0, 1) := by decide +kernel
theorem dX0_becomeTurned_4 : decode mX0_becomeTurned.2.1 4 = .ok (.getfield 11, 3) := by decide +kernel
theorem dX0_becomeTurned_7 : decode mX0_becomeTurned.2.1 7 = .ok (.if_icmp .ge 49, 3) := by decide +kernel
theorem dX0_becomeTurned_10 : decode mX0_becomeTurned.2.1 10 = .ok (.iconst 0, 1) := by decide +kernel
theorem dX0_becomeTurned_11 : decode mX0_becomeTurned.2.1 11 = .ok (.istore_n 2, 1) := by decide +kernel
theorem dX0_becomeTurned_12 : decode mX0_becomeTurned.2.1 12 = .ok (.iload_n 2, 1) := by decide +kernel
theorem dX0_becomeTurned_13 : decode mX0_becomeTurned.2.1 13 = .ok (.iload_n 1, 1) := by decide +kernel
theorem dX0_becomeTurned_14 : decode mX0_becomeTurned.2.1 14 = .ok (.if_icmp .ge 36, 3) := by decide +kernel
theorem dX0_becomeTurned_17 : decode mX0_becomeTurned.2.1 17 = .ok (.aload_n 0, 1) := by decide +kernel
theorem dX0_becomeTurned_18 : decode mX0_becomeTurned.2.1 18 = .ok (.iload_n 1, 1) := by decide +kernel
theorem dX0_becomeTurned_19 : decode mX0_becomeTurned.2.1 19 = .ok (.iload_n 2, 1) := by decide +kernel
theorem dX0_becomeTurned_20 : decode mX0_becomeTurned.2.1 20 = .ok (.invokevirtual 65, 3) := by decide +kernel
theorem dX0_becomeTurned_23 : decode mX0_becomeTurned.2.1 23 = .ok (.aload_n 0, 1) := by decide +kernel
theorem dX0_becomeTurned_24 : decode mX0_becomeTurned.2.1 24 = .ok (.iload_n 2, 1) := by decide +kernel
theorem dX0_becomeTurned_25 : decode mX0_becomeTurned.2.1 25 = .ok (.iload_n 1, 1) := by decide +kernel
theorem dX0_becomeTurned_26 : decode mX0_becomeTurned.2.1 26 = .ok (.invokevirtual 65, 3) := by decide +kernel
theorem dX0_becomeTurned_29 : decode mX0_becomeTurned.2.1 29 = .ok (.if_icmp .eq 15, 3) := by decide +kernel
theorem dX0_becomeTurned_32 : decode mX0_becomeTurned.2.1 32 = .ok (.aload_n 0, 1) := by decide +kernel
theorem dX0_becomeTurned_33 : decode mX0_becomeTurned.2.1 33 = .ok (.iload_n 1, 1) := by decide +kernel
theorem dX0_becomeTurned_34 : decode mX0_becomeTurned.2.1 34 = .ok (.iload_n 2, 1) := by decide +kernel
theorem dX0_becomeTurned_35 : decode mX0_becomeTurned.2.1 35 = .ok (.invokevirtual 69, 3) := by decide +kernel
theorem dX0_becomeTurned_38 : decode mX0_becomeTurned.2.1 38 = .ok (.aload_n 0, 1) := by decide +kernel
theorem dX0_becomeTurned_39 : decode mX0_becomeTurned.2.1 39 = .ok (.iload_n 2, 1) := by decide +kernel
theorem dX0_becomeTurned_40 : decode mX0_becomeTurned.2.1 40 = .ok (.iload_n 1, 1) := by decide +kernel
theorem dX0_becomeTurned_41 : decode mX0_becomeTurned.2.1 41 = .ok (.invokevirtual 69, 3) := by decide +kernel
theorem dX0_becomeTurned_44 : decode mX0_becomeTurned.2.1 44 = .ok (.iinc 2 1, 3) := by decide +kernel
theorem dX0_becomeTurned_47 : decode mX0_becomeTurned.2.1 47 = .ok (.goto (-35), 3) := by decide +kernel
theorem dX0_becomeTurned_50 : decode mX0_becomeTurned.2.1 50 = .ok (.iinc 1 1, 3) := by decide +kernel
theorem dX0_becomeTurned_53 : decode mX0_becomeTurned.2.1 53 = .ok (.goto (-51), 3) := by decide +kernel
theorem dX0_becomeTurned_56 : decode mX0_becomeTurned.2.1 56 = .ok (.return_, 1) := by decide +kernel
def mX0_becomeFlipped : String × ByteArray × Nat := (RX0, cX0_becomeFlipped, 4)
theorem dX0_becomeFlipped_0 : decode mX0_becomeFlipped.2.1 0 = .ok (.iconst 0, 1) := by decide +kernel
theorem dX0_becomeFlipped_1 : decode mX0_becomeFlipped.2.1 1 = .ok (.istore_n 1, 1) := by decide +kernel
theorem dX0_becomeFlipped_2 : decode mX0_becomeFlipped.2.1 2 = .ok (.aload_n 0, 1) := by decide +kernel
theorem dX0_becomeFlipped_3 : decode mX0_becomeFlipped.2.1 3 = .ok (.getfield 11, 3) := by decide +kernel
theorem dX0_becomeFlipped_6 : decode mX0_becomeFlipped.2.1 6 = .ok (.iconst 1, 1) := by decide +kernel
theorem dX0_becomeFlipped_7 : decode mX0_becomeFlipped.2.1 7 = .ok (.isub, 1) := by decide +kernel
theorem dX0_becomeFlipped_8 : decode mX0_becomeFlipped.2.1 8 = .ok (.istore_n 2, 1) := by decide +kernel
theorem dX0_becomeFlipped_9 : decode mX0_becomeFlipped.2.1 9 = .ok (.iload_n 1, 1) := by decide +kernel
theorem dX0_becomeFlipped_10 : decode mX0_becomeFlipped.2.1 10 = .ok (.iload_n 2, 1) := by decide +kernel
theorem dX0_becomeFlipped_11 : decode mX0_becomeFlipped.2.1 11 = .ok (.if_icmp .ge 38, 3) := by decide +kernel
theorem dX0_becomeFlipped_14 : decode mX0_becomeFlipped.2.1 14 = .ok (.aload_n 0, 1) := by decide +kernel
theorem dX0_becomeFlipped_15 : decode mX0_becomeFlipped.2.1 15 = .ok (.getfield 15, 3) := by decide +kernel
theorem dX0_becomeFlipped_18 : decode mX0_becomeFlipped.2.1 18 = .ok (.iload_n 1, 1) := by decide +kernel
theorem dX0_becomeFlipped_19 : decode mX0_becomeFlipped.2.1 19 = .ok (.iaload, 1) := by decide +kernel
theorem dX0_becomeFlipped_20 : decode mX0_becomeFlipped.2.1 20 = .ok (.istore_n 3, 1) := by decide +kernel
theorem dX0_becomeFlipped_21 : decode mX0_becomeFlipped.2.1 21 = .ok (.aload_n 0, 1) := by decide +kernel
theorem dX0_becomeFlipped_22 : decode mX0_becomeFlipped.2.1 22 = .ok (.getfield 15, 3) := by decide +kernel
theorem dX0_becomeFlipped_25 : decode mX0_becomeFlipped.2.1 25 = .ok (.iload_n 1, 1) := by decide +kernel
theorem dX0_becomeFlipped_26 : decode mX0_becomeFlipped.2.1 26 = .ok (.aload_n 0, 1) := by decide +kernel
theorem dX0_becomeFlipped_27 : decode mX0_becomeFlipped.2.1 27 = .ok (.getfield 15, 3) := by decide +kernel
theorem dX0_becomeFlipped_30 : decode mX0_becomeFlipped.2.1 30 = .ok (.iload_n 2, 1) := by decide +kernel
theorem dX0_becomeFlipped_31 : decode mX0_becomeFlipped.2.1 31 = .ok (.iaload, 1) := by decide +kernel
theorem dX0_becomeFlipped_32 : decode mX0_becomeFlipped.2.1 32 = .ok (.iastore, 1) := by decide +kernel
theorem dX0_becomeFlipped_33 : decode mX0_becomeFlipped.2.1 33 = .ok (.aload_n 0, 1) := by decide +kernel
theorem dX0_becomeFlipped_34 : decode mX0_becomeFlipped.2.1 34 = .ok (.getfield 15, 3) := by decide +kernel
theorem dX0_becomeFlipped_37 : decode mX0_becomeFlipped.2.1 37 = .ok (.iload_n 2, 1) := by decide +kernel
theorem dX0_becomeFlipped_38 : decode mX0_becomeFlipped.2.1 38 = .ok (.iload_n 3, 1) := by decide +kernel
theorem dX0_becomeFlipped_39 : decode mX0_becomeFlipped.2.1 39 = .ok (.iastore, 1) := by decide +kernel
theorem dX0_becomeFlipped_40 : decode mX0_becomeFlipped.2.1 40 = .ok (.iinc 1 1, 3) := by decide +kernel
theorem dX0_becomeFlipped_43 : decode mX0_becomeFlipped.2.1 43 = .ok (.iinc 2 (-1), 3) := by decide +kernel
theorem dX0_becomeFlipped_46 : decode mX0_becomeFlipped.2.1 46 = .ok (.goto (-37), 3) := by decide +kernel
theorem dX0_becomeFlipped_49 : decode mX0_becomeFlipped.2.1 49 = .ok (.return_, 1) := by decide +kernel
def mX0_isSteps : String × ByteArray × Nat := (RX0, cX0_isSteps, 4)
theorem dX0_isSteps_0 : decode mX0_isSteps.2.1 0 = .ok (.iconst 0, 1) := by decide +kernel
theorem dX0_isSteps_1 : decode mX0_isSteps.2.1 1 = .ok (.istore_n 1, 1) := by decide +kernel
theorem dX0_isSteps_2 : decode mX0_isSteps.2.1 2 = .ok (.iconst 0, 1) := by decide +kernel
theorem dX0_isSteps_3 : decode mX0_isSteps.2.1 3 = .ok (.istore_n 2, 1) := by decide +kernel
theorem dX0_isSteps_4 : decode mX0_isSteps.2.1 4 = .ok (.iload_n 2, 1) := by decide +kernel
theorem dX0_isSteps_5 : decode mX0_isSteps.2.1 5 = .ok (.aload_n 0, 1) := by decide +kernel
theorem dX0_isSteps_6 : decode mX0_isSteps.2.1 6 = .ok (.getfield 11, 3) := by decide +kernel
theorem dX0_isSteps_9 : decode mX0_isSteps.2.1 9 = .ok (.if_icmp .ge 38, 3) := by decide +kernel
theorem dX0_isSteps_12 : decode mX0_isSteps.2.1 12 = .ok (.aload_n 0, 1) := by decide +kernel
theorem dX0_isSteps_13 : decode mX0_isSteps.2.1 13 = .ok (.iload_n 2, 1) := by decide +kernel
theorem dX0_isSteps_14 : decode mX0_isSteps.2.1 14 = .ok (.invokevirtual 73, 3) := by decide +kernel
theorem dX0_isSteps_17 : decode mX0_isSteps.2.1 17 = .ok (.istore_n 3, 1) := by decide +kernel
theorem dX0_isSteps_18 : decode mX0_isSteps.2.1 18 = .ok (.iload_n 3, 1) := by decide +kernel
theorem dX0_isSteps_19 : decode mX0_isSteps.2.1 19 = .ok (.iload_n 1, 1) := by decide +kernel
theorem dX0_isSteps_20 : decode mX0_isSteps.2.1 20 = .ok (.if_icmp .lt 17, 3) := by decide +kernel
theorem dX0_isSteps_23 : decode mX0_isSteps.2.1 23 = .ok (.aload_n 0, 1) := by decide +kernel
theorem dX0_isSteps_24 : decode mX0_isSteps.2.1 24 = .ok (.getfield 15, 3) := by decide +kernel
theorem dX0_isSteps_27 : decode mX0_isSteps.2.1 27 = .ok (.iload_n 2, 1) := by decide +kernel
theorem dX0_isSteps_28 : decode mX0_isSteps.2.1 28 = .ok (.iaload, 1) := by decide +kernel
theorem dX0_isSteps_29 : decode mX0_isSteps.2.1 29 = .ok (.iconst 1, 1) := by decide +kernel
theorem dX0_isSteps_30 : decode mX0_isSteps.2.1 30 = .ok (.iload_n 3, 1) := by decide +kernel
theorem dX0_isSteps_31 : decode mX0_isSteps.2.1 31 = .ok (.ishl, 1) := by decide +kernel
theorem dX0_isSteps_32 : decode mX0_isSteps.2.1 32 = .ok (.iconst 1, 1) := by decide +kernel
theorem dX0_isSteps_33 : decode mX0_isSteps.2.1 33 = .ok (.isub, 1) := by decide +kernel
theorem dX0_isSteps_34 : decode mX0_isSteps.2.1 34 = .ok (.if_icmp .eq 5, 3) := by decide +kernel
theorem dX0_isSteps_37 : decode mX0_isSteps.2.1 37 = .ok (.iconst 0, 1) := by decide +kernel
theorem dX0_isSteps_38 : decode mX0_isSteps.2.1 38 = .ok (.ireturn, 1) := by decide +kernel
theorem dX0_isSteps_39 : decode mX0_isSteps.2.1 39 = .ok (.iload_n 3, 1) := by decide +kernel
theorem dX0_isSteps_40 : decode mX0_isSteps.2.1 40 = .ok (.istore_n 1, 1) := by decide +kernel
theorem dX0_isSteps_41 : decode mX0_isSteps.2.1 41 = .ok (.iinc 2 1, 3) := by decide +kernel
theorem dX0_isSteps_44 : decode mX0_isSteps.2.1 44 = .ok (.goto (-40), 3) := by decide +kernel
theorem dX0_isSteps_47 : decode mX0_isSteps.2.1 47 = .ok (.iconst 1, 1) := by decide +kernel
theorem dX0_isSteps_48 : decode mX0_isSteps.2.1 48 = .ok (.ireturn, 1) := by decide +kernel
def mX0_height : String × ByteArray × Nat := (RX0, cX0_height, 2)
theorem dX0_height_0 : decode mX0_height.2.1 0 = .ok (.aload_n 0, 1) := by decide +kernel
theorem dX0_height_1 : decode mX0_height.2.1 1 = .ok (.getfield 15, 3) := by decide +kernel
theorem dX0_height_4 : decode mX0_height.2.1 4 = .ok (.iload_n 1, 1) := by decide +kernel
theorem dX0_height_5 : decode mX0_height.2.1 5 = .ok (.iaload, 1) := by decide +kernel
theorem dX0_height_6 : decode mX0_height.2.1 6 = .ok (.invokestatic 31, 3) := by decide +kernel
theorem dX0_height_9 : decode mX0_height.2.1 9 = .ok (.ireturn, 1) := by decide +kernel
def mX0_heightDigits : String × ByteArray × Nat := (RX0, cX0_heightDigits, 3)
theorem dX0_heightDigits_0 : decode mX0_heightDigits.2.1 0 = .ok (.iconst 0, 1) := by decide +kernel
theorem dX0_heightDigits_1 : decode mX0_heightDigits.2.1 1 = .ok (.istore_n 1, 1) := by decide +kernel
theorem dX0_heightDigits_2 : decode mX0_heightDigits.2.1 2 = .ok (.iconst 0, 1) := by decide +kernel
theorem dX0_heightDigits_3 : decode mX0_heightDigits.2.1 3 = .ok (.istore_n 2, 1) := by decide +kernel
theorem dX0_heightDigits_4 : decode mX0_heightDigits.2.1 4 = .ok (.iload_n 2, 1) := by decide +kernel
theorem dX0_heightDigits_5 : decode mX0_heightDigits.2.1 5 = .ok (.aload_n 0, 1) := by decide +kernel
theorem dX0_heightDigits_6 : decode mX0_heightDigits.2.1 6 = .ok (.getfield 11, 3) := by decide +kernel
theorem dX0_heightDigits_9 : decode mX0_heightDigits.2.1 9 = .ok (.if_icmp .ge 20, 3) := by decide +kernel
theorem dX0_heightDigits_12 : decode mX0_heightDigits.2.1 12 = .ok (.iload_n 1, 1) := by decide +kernel
theorem dX0_heightDigits_13 : decode mX0_heightDigits.2.1 13 = .ok (.bipush 10, 2) := by decide +kernel
theorem dX0_heightDigits_15 : decode mX0_heightDigits.2.1 15 = .ok (.imul, 1) := by decide +kernel
theorem dX0_heightDigits_16 : decode mX0_heightDigits.2.1 16 = .ok (.aload_n 0, 1) := by decide +kernel
theorem dX0_heightDigits_17 : decode mX0_heightDigits.2.1 17 = .ok (.iload_n 2, 1) := by decide +kernel
theorem dX0_heightDigits_18 : decode mX0_heightDigits.2.1 18 = .ok (.invokevirtual 73, 3) := by decide +kernel
theorem dX0_heightDigits_21 : decode mX0_heightDigits.2.1 21 = .ok (.iadd, 1) := by decide +kernel
theorem dX0_heightDigits_22 : decode mX0_heightDigits.2.1 22 = .ok (.istore_n 1, 1) := by decide +kernel
theorem dX0_heightDigits_23 : decode mX0_heightDigits.2.1 23 = .ok (.iinc 2 1, 3) := by decide +kernel
theorem dX0_heightDigits_26 : decode mX0_heightDigits.2.1 26 = .ok (.goto (-22), 3) := by decide +kernel
theorem dX0_heightDigits_29 : decode mX0_heightDigits.2.1 29 = .ok (.iload_n 1, 1) := by decide +kernel
theorem dX0_heightDigits_30 : decode mX0_heightDigits.2.1 30 = .ok (.ireturn, 1) := by decide +kernel
def mX1_init : String × ByteArray × Nat := (RX1, cX1_init, 1)
theorem dX1_init_0 : decode mX1_init.2.1 0 = .ok (.aload_n 0, 1) := by decide +kernel
theorem dX1_init_1 : decode mX1_init.2.1 1 = .ok (.invokespecial 3, 3) := by decide +kernel
theorem dX1_init_4 : decode mX1_init.2.1 4 = .ok (.aload_n 0, 1) := by decide +kernel
theorem dX1_init_5 : decode mX1_init.2.1 5 = .ok (.bipush 10, 2) := by decide +kernel
theorem dX1_init_7 : decode mX1_init.2.1 7 = .ok (.newarray .int, 2) := by decide +kernel
theorem dX1_init_9 : decode mX1_init.2.1 9 = .ok (.putfield 11, 3) := by decide +kernel
theorem dX1_init_12 : decode mX1_init.2.1 12 = .ok (.aload_n 0, 1) := by decide +kernel
theorem dX1_init_13 : decode mX1_init.2.1 13 = .ok (.bipush 10, 2) := by decide +kernel
theorem dX1_init_15 : decode mX1_init.2.1 15 = .ok (.newarray .int, 2) := by decide +kernel
theorem dX1_init_17 : decode mX1_init.2.1 17 = .ok (.putfield 15, 3) := by decide +kernel
theorem dX1_init_20 : decode mX1_init.2.1 20 = .ok (.aload_n 0, 1) := by decide +kernel
theorem dX1_init_21 : decode mX1_init.2.1 21 = .ok (.bipush 10, 2) := by decide +kernel
theorem dX1_init_23 : decode mX1_init.2.1 23 = .ok (.newarray .int, 2) := by decide +kernel
theorem dX1_init_25 : decode mX1_init.2.1 25 = .ok (.putfield 18, 3) := by decide +kernel
theorem dX1_init_28 : decode mX1_init.2.1 28 = .ok (.aload_n 0, 1) := by decide +kernel
theorem dX1_init_29 : decode mX1_init.2.1 29 = .ok (.bipush 10, 2) := by decide +kernel
theorem dX1_init_31 : decode mX1_init.2.1 31 = .ok (.newarray .int, 2) := by decide +kernel
theorem dX1_init_33 : decode mX1_init.2.1 33 = .ok (.putfield 21, 3) := by decide +kernel
theorem dX1_init_36 : decode mX1_init.2.1 36 = .ok (.return_, 1) := by decide +kernel
def mX1_forget : String × ByteArray × Nat := (RX1, cX1_forget, 1)
theorem dX1_forget_0 : decode mX1_forget.2.1 0 = .ok (.aload_n 0, 1) := by decide +kernel
theorem dX1_forget_1 : decode mX1_forget.2.1 1 = .ok (.iconst 0, 1) := by decide +kernel
theorem dX1_forget_2 : decode mX1_forget.2.1 2 = .ok (.putfield 24, 3) := by decide +kernel
theorem dX1_forget_5 : decode mX1_forget.2.1 5 = .ok (.return_, 1) := by decide +kernel
def mX1_keep : String × ByteArray × Nat := (RX1, cX1_keep, 5)
theorem dX1_keep_0 : decode mX1_keep.2.1 0 = .ok (.aload_n 0, 1) := by decide +kernel
theorem dX1_keep_1 : decode mX1_keep.2.1 1 = .ok (.getfield 24, 3) := by decide +kernel
theorem dX1_keep_4 : decode mX1_keep.2.1 4 = .ok (.bipush 10, 2) := by decide +kernel
theorem dX1_keep_6 : decode mX1_keep.2.1 6 = .ok (.if_icmp .lt 7, 3) := by decide +kernel
theorem dX1_keep_9 : decode mX1_keep.2.1 9 = .ok (.aload_n 0, 1) := by decide +kernel
theorem dX1_keep_10 : decode mX1_keep.2.1 10 = .ok (.invokevirtual 28, 3) := by decide +kernel
theorem dX1_keep_13 : decode mX1_keep.2.1 13 = .ok (.aload_n 0, 1) := by decide +kernel
theorem dX1_keep_14 : decode mX1_keep.2.1 14 = .ok (.getfield 11, 3) := by decide +kernel
theorem dX1_keep_17 : decode mX1_keep.2.1 17 = .ok (.aload_n 0, 1) := by decide +kernel
theorem dX1_keep_18 : decode mX1_keep.2.1 18 = .ok (.getfield 24, 3) := by decide +kernel
theorem dX1_keep_21 : decode mX1_keep.2.1 21 = .ok (.iload_n 1, 1) := by decide +kernel
theorem dX1_keep_22 : decode mX1_keep.2.1 22 = .ok (.iastore, 1) := by decide +kernel
theorem dX1_keep_23 : decode mX1_keep.2.1 23 = .ok (.aload_n 0, 1) := by decide +kernel
theorem dX1_keep_24 : decode mX1_keep.2.1 24 = .ok (.getfield 15, 3) := by decide +kernel
theorem dX1_keep_27 : decode mX1_keep.2.1 27 = .ok (.aload_n 0, 1) := by decide +kernel
theorem dX1_keep_28 : decode mX1_keep.2.1 28 = .ok (.getfield 24, 3) := by decide +kernel
theorem dX1_keep_31 : decode mX1_keep.2.1 31 = .ok (.iload_n 2, 1) := by decide +kernel
theorem dX1_keep_32 : decode mX1_keep.2.1 32 = .ok (.iastore, 1) := by decide +kernel
theorem dX1_keep_33 : decode mX1_keep.2.1 33 = .ok (.aload_n 0, 1) := by decide +kernel
theorem dX1_keep_34 : decode mX1_keep.2.1 34 = .ok (.getfield 18, 3) := by decide +kernel
theorem dX1_keep_37 : decode mX1_keep.2.1 37 = .ok (.aload_n 0, 1) := by decide +kernel
theorem dX1_keep_38 : decode mX1_keep.2.1 38 = .ok (.getfield 24, 3) := by decide +kernel
theorem dX1_keep_41 : decode mX1_keep.2.1 41 = .ok (.iload_n 3, 1) := by decide +kernel
theorem dX1_keep_42 : decode mX1_keep.2.1 42 = .ok (.iastore, 1) := by decide +kernel
theorem dX1_keep_43 : decode mX1_keep.2.1 43 = .ok (.aload_n 0, 1) := by decide +kernel
theorem dX1_keep_44 : decode mX1_keep.2.1 44 = .ok (.getfield 21, 3) := by decide +kernel
theorem dX1_keep_47 : decode mX1_keep.2.1 47 = .ok (.aload_n 0, 1) := by decide +kernel
theorem dX1_keep_48 : decode mX1_keep.2.1 48 = .ok (.getfield 24, 3) := by decide +kernel
theorem dX1_keep_51 : decode mX1_keep.2.1 51 = .ok (.iload 4, 2) := by decide +kernel
theorem dX1_keep_53 : decode mX1_keep.2.1 53 = .ok (.iastore, 1) := by decide +kernel
theorem dX1_keep_54 : decode mX1_keep.2.1 54 = .ok (.aload_n 0, 1) := by decide +kernel
theorem dX1_keep_55 : decode mX1_keep.2.1 55 = .ok (.dup, 1) := by decide +kernel
theorem dX1_keep_56 : decode mX1_keep.2.1 56 = .ok (.getfield 24, 3) := by decide +kernel
theorem dX1_keep_59 : decode mX1_keep.2.1 59 = .ok (.iconst 1, 1) := by decide +kernel
theorem dX1_keep_60 : decode mX1_keep.2.1 60 = .ok (.iadd, 1) := by decide +kernel
theorem dX1_keep_61 : decode mX1_keep.2.1 61 = .ok (.putfield 24, 3) := by decide +kernel
theorem dX1_keep_64 : decode mX1_keep.2.1 64 = .ok (.return_, 1) := by decide +kernel
def mX1_dropOldest : String × ByteArray × Nat := (RX1, cX1_dropOldest, 1)
theorem dX1_dropOldest_0 : decode mX1_dropOldest.2.1 0 = .ok (.aload_n 0, 1) := by decide +kernel
theorem dX1_dropOldest_1 : decode mX1_dropOldest.2.1 1 = .ok (.getfield 11, 3) := by decide +kernel
theorem dX1_dropOldest_4 : decode mX1_dropOldest.2.1 4 = .ok (.iconst 1, 1) := by decide +kernel
theorem dX1_dropOldest_5 : decode mX1_dropOldest.2.1 5 = .ok (.aload_n 0, 1) := by decide +kernel
theorem dX1_dropOldest_6 : decode mX1_dropOldest.2.1 6 = .ok (.getfield 11, 3) := by decide +kernel
theorem dX1_dropOldest_9 : decode mX1_dropOldest.2.1 9 = .ok (.iconst 0, 1) := by decide +kernel
theorem dX1_dropOldest_10 : decode mX1_dropOldest.2.1 10 = .ok (.bipush 9, 2) := by decide +kernel
theorem dX1_dropOldest_12 : decode mX1_dropOldest.2.1 12 = .ok (.invokestatic 31, 3) := by decide +kernel
theorem dX1_dropOldest_15 : decode mX1_dropOldest.2.1 15 = .ok (.aload_n 0, 1) := by decide +kernel
theorem dX1_dropOldest_16 : decode mX1_dropOldest.2.1 16 = .ok (.getfield 15, 3) := by decide +kernel
theorem dX1_dropOldest_19 : decode mX1_dropOldest.2.1 19 = .ok (.iconst 1, 1) := by decide +kernel
theorem dX1_dropOldest_20 : decode mX1_dropOldest.2.1 20 = .ok (.aload_n 0, 1) := by decide +kernel
theorem dX1_dropOldest_21 : decode mX1_dropOldest.2.1 21 = .ok (.getfield 15, 3) := by decide +kernel
theorem dX1_dropOldest_24 : decode mX1_dropOldest.2.1 24 = .ok (.iconst 0, 1) := by decide +kernel
theorem dX1_dropOldest_25 : decode mX1_dropOldest.2.1 25 = .ok (.bipush 9, 2) := by decide +kernel
theorem dX1_dropOldest_27 : decode mX1_dropOldest.2.1 27 = .ok (.invokestatic 31, 3) := by decide +kernel
theorem dX1_dropOldest_30 : decode mX1_dropOldest.2.1 30 = .ok (.aload_n 0, 1) := by decide +kernel
theorem dX1_dropOldest_31 : decode mX1_dropOldest.2.1 31 = .ok (.getfield 18, 3) := by decide +kernel
theorem dX1_dropOldest_34 : decode mX1_dropOldest.2.1 34 = .ok (.iconst 1, 1) := by decide +kernel
theorem dX1_dropOldest_35 : decode mX1_dropOldest.2.1 35 = .ok (.aload_n 0, 1) := by decide +kernel
theorem dX1_dropOldest_36 : decode mX1_dropOldest.2.1 36 = .ok (.getfield 18, 3) := by decide +kernel
theorem dX1_dropOldest_39 : decode mX1_dropOldest.2.1 39 = .ok (.iconst 0, 1) := by decide +kernel
theorem dX1_dropOldest_40 : decode mX1_dropOldest.2.1 40 = .ok (.bipush 9, 2) := by decide +kernel
theorem dX1_dropOldest_42 : decode mX1_dropOldest.2.1 42 = .ok (.invokestatic 31, 3) := by decide +kernel
theorem dX1_dropOldest_45 : decode mX1_dropOldest.2.1 45 = .ok (.aload_n 0, 1) := by decide +kernel
theorem dX1_dropOldest_46 : decode mX1_dropOldest.2.1 46 = .ok (.getfield 21, 3) := by decide +kernel
theorem dX1_dropOldest_49 : decode mX1_dropOldest.2.1 49 = .ok (.iconst 1, 1) := by decide +kernel
theorem dX1_dropOldest_50 : decode mX1_dropOldest.2.1 50 = .ok (.aload_n 0, 1) := by decide +kernel
theorem dX1_dropOldest_51 : decode mX1_dropOldest.2.1 51 = .ok (.getfield 21, 3) := by decide +kernel
theorem dX1_dropOldest_54 : decode mX1_dropOldest.2.1 54 = .ok (.iconst 0, 1) := by decide +kernel
theorem dX1_dropOldest_55 : decode mX1_dropOldest.2.1 55 = .ok (.bipush 9, 2) := by decide +kernel
theorem dX1_dropOldest_57 : decode mX1_dropOldest.2.1 57 = .ok (.invokestatic 31, 3) := by decide +kernel
theorem dX1_dropOldest_60 : decode mX1_dropOldest.2.1 60 = .ok (.aload_n 0, 1) := by decide +kernel
theorem dX1_dropOldest_61 : decode mX1_dropOldest.2.1 61 = .ok (.bipush 9, 2) := by decide +kernel
theorem dX1_dropOldest_63 : decode mX1_dropOldest.2.1 63 = .ok (.putfield 24, 3) := by decide +kernel
theorem dX1_dropOldest_66 : decode mX1_dropOldest.2.1 66 = .ok (.return_, 1) := by decide +kernel
def mX1_undoLatest : String × ByteArray × Nat := (RX1, cX1_undoLatest, 2)
theorem dX1_undoLatest_0 : decode mX1_undoLatest.2.1 0 = .ok (.aload_n 0, 1) := by decide +kernel
theorem dX1_undoLatest_1 : decode mX1_undoLatest.2.1 1 = .ok (.getfield 24, 3) := by decide +kernel
theorem dX1_undoLatest_4 : decode mX1_undoLatest.2.1 4 = .ok (.ifCond .gt 4, 3) := by decide +kernel
theorem dX1_undoLatest_7 : decode mX1_undoLatest.2.1 7 = .ok (.return_, 1) := by decide +kernel
theorem dX1_undoLatest_8 : decode mX1_undoLatest.2.1 8 = .ok (.aload_n 0, 1) := by decide +kernel
theorem dX1_undoLatest_9 : decode mX1_undoLatest.2.1 9 = .ok (.dup, 1) := by decide +kernel
theorem dX1_undoLatest_10 : decode mX1_undoLatest.2.1 10 = .ok (.getfield 24, 3) := by decide +kernel
theorem dX1_undoLatest_13 : decode mX1_undoLatest.2.1 13 = .ok (.iconst 1, 1) := by decide +kernel
theorem dX1_undoLatest_14 : decode mX1_undoLatest.2.1 14 = .ok (.isub, 1) := by decide +kernel
theorem dX1_undoLatest_15 : decode mX1_undoLatest.2.1 15 = .ok (.putfield 24, 3) := by decide +kernel
theorem dX1_undoLatest_18 : decode mX1_undoLatest.2.1 18 = .ok (.aload_n 0, 1) := by decide +kernel
theorem dX1_undoLatest_19 : decode mX1_undoLatest.2.1 19 = .ok (.getfield 11, 3) := by decide +kernel
theorem dX1_undoLatest_22 : decode mX1_undoLatest.2.1 22 = .ok (.aload_n 0, 1) := by decide +kernel
theorem dX1_undoLatest_23 : decode mX1_undoLatest.2.1 23 = .ok (.getfield 24, 3) := by decide +kernel
theorem dX1_undoLatest_26 : decode mX1_undoLatest.2.1 26 = .ok (.iaload, 1) := by decide +kernel
theorem dX1_undoLatest_27 : decode mX1_undoLatest.2.1 27 = .ok (.iconst (-1), 1) := by decide +kernel
theorem dX1_undoLatest_28 : decode mX1_undoLatest.2.1 28 = .ok (.if_icmp .ne 42, 3) := by decide +kernel
theorem dX1_undoLatest_31 : decode mX1_undoLatest.2.1 31 = .ok (.aload_n 1, 1) := by decide +kernel
theorem dX1_undoLatest_32 : decode mX1_undoLatest.2.1 32 = .ok (.getfield 37, 3) := by decide +kernel
theorem dX1_undoLatest_35 : decode mX1_undoLatest.2.1 35 = .ok (.aload_n 0, 1) := by decide +kernel
theorem dX1_undoLatest_36 : decode mX1_undoLatest.2.1 36 = .ok (.getfield 15, 3) := by decide +kernel
theorem dX1_undoLatest_39 : decode mX1_undoLatest.2.1 39 = .ok (.aload_n 0, 1) := by decide +kernel
theorem dX1_undoLatest_40 : decode mX1_undoLatest.2.1 40 = .ok (.getfield 24, 3) := by decide +kernel
theorem dX1_undoLatest_43 : decode mX1_undoLatest.2.1 43 = .ok (.iaload, 1) := by decide +kernel
theorem dX1_undoLatest_44 : decode mX1_undoLatest.2.1 44 = .ok (.bipush 6, 2) := by decide +kernel
theorem dX1_undoLatest_46 : decode mX1_undoLatest.2.1 46 = .ok (.imul, 1) := by decide +kernel
theorem dX1_undoLatest_47 : decode mX1_undoLatest.2.1 47 = .ok (.aload_n 0, 1) := by decide +kernel
theorem dX1_undoLatest_48 : decode mX1_undoLatest.2.1 48 = .ok (.getfield 18, 3) := by decide +kernel
theorem dX1_undoLatest_51 : decode mX1_undoLatest.2.1 51 = .ok (.aload_n 0, 1) := by decide +kernel
theorem dX1_undoLatest_52 : decode mX1_undoLatest.2.1 52 = .ok (.getfield 24, 3) := by decide +kernel
theorem dX1_undoLatest_55 : decode mX1_undoLatest.2.1 55 = .ok (.iaload, 1) := by decide +kernel
theorem dX1_undoLatest_56 : decode mX1_undoLatest.2.1 56 = .ok (.iadd, 1) := by decide +kernel
theorem dX1_undoLatest_57 : decode mX1_undoLatest.2.1 57 = .ok (.aload_n 0, 1) := by decide +kernel
theorem dX1_undoLatest_58 : decode mX1_undoLatest.2.1 58 = .ok (.getfield 21, 3) := by decide +kernel
theorem dX1_undoLatest_61 : decode mX1_undoLatest.2.1 61 = .ok (.aload_n 0, 1) := by decide +kernel
theorem dX1_undoLatest_62 : decode mX1_undoLatest.2.1 62 = .ok (.getfield 24, 3) := by decide +kernel
theorem dX1_undoLatest_65 : decode mX1_undoLatest.2.1 65 = .ok (.iaload, 1) := by decide +kernel
theorem dX1_undoLatest_66 : decode mX1_undoLatest.2.1 66 = .ok (.iastore, 1) := by decide +kernel
theorem dX1_undoLatest_67 : decode mX1_undoLatest.2.1 67 = .ok (.goto 38, 3) := by decide +kernel
theorem dX1_undoLatest_70 : decode mX1_undoLatest.2.1 70 = .ok (.aload_n 1, 1) := by decide +kernel
theorem dX1_undoLatest_71 : decode mX1_undoLatest.2.1 71 = .ok (.getfield 40, 3) := by decide +kernel
theorem dX1_undoLatest_74 : decode mX1_undoLatest.2.1 74 = .ok (.aload_n 0, 1) := by decide +kernel
theorem dX1_undoLatest_75 : decode mX1_undoLatest.2.1 75 = .ok (.getfield 11, 3) := by decide +kernel
theorem dX1_undoLatest_78 : decode mX1_undoLatest.2.1 78 = .ok (.aload_n 0, 1) := by decide +kernel
theorem dX1_undoLatest_79 : decode mX1_undoLatest.2.1 79 = .ok (.getfield 24, 3) := by decide +kernel
theorem dX1_undoLatest_82 : decode mX1_undoLatest.2.1 82 = .ok (.iaload, 1) := by decide +kernel
theorem dX1_undoLatest_83 : decode mX1_undoLatest.2.1 83 = .ok (.aaload, 1) := by decide +kernel
theorem dX1_undoLatest_84 : decode mX1_undoLatest.2.1 84 = .ok (.aload_n 0, 1) := by decide +kernel
theorem dX1_undoLatest_85 : decode mX1_undoLatest.2.1 85 = .ok (.getfield 15, 3) := by decide +kernel
theorem dX1_undoLatest_88 : decode mX1_undoLatest.2.1 88 = .ok (.aload_n 0, 1) := by decide +kernel
theorem dX1_undoLatest_89 : decode mX1_undoLatest.2.1 89 = .ok (.getfield 24, 3) := by decide +kernel
theorem dX1_undoLatest_92 : decode mX1_undoLatest.2.1 92 = .ok (.iaload, 1) := by decide +kernel
theorem dX1_undoLatest_93 : decode mX1_undoLatest.2.1 93 = .ok (.aload_n 0, 1) := by decide +kernel
theorem dX1_undoLatest_94 : decode mX1_undoLatest.2.1 94 = .ok (.getfield 18, 3) := by decide +kernel
theorem dX1_undoLatest_97 : decode mX1_undoLatest.2.1 97 = .ok (.aload_n 0, 1) := by decide +kernel
theorem dX1_undoLatest_98 : decode mX1_undoLatest.2.1 98 = .ok (.getfield 24, 3) := by decide +kernel
theorem dX1_undoLatest_101 : decode mX1_undoLatest.2.1 101 = .ok (.iaload, 1) := by decide +kernel
theorem dX1_undoLatest_102 : decode mX1_undoLatest.2.1 102 = .ok (.invokevirtual 43, 3) := by decide +kernel
theorem dX1_undoLatest_105 : decode mX1_undoLatest.2.1 105 = .ok (.return_, 1) := by decide +kernel
def mX2_init : String × ByteArray × Nat := (RX2, cX2_init, 5)
theorem dX2_init_0 : decode mX2_init.2.1 0 = .ok (.aload_n 0, 1) := by decide +kernel
theorem dX2_init_1 : decode mX2_init.2.1 1 = .ok (.invokespecial 3, 3) := by decide +kernel
theorem dX2_init_4 : decode mX2_init.2.1 4 = .ok (.aload_n 0, 1) := by decide +kernel
theorem dX2_init_5 : decode mX2_init.2.1 5 = .ok (.getstatic 9, 3) := by decide +kernel
theorem dX2_init_8 : decode mX2_init.2.1 8 = .ok (.iload_n 1, 1) := by decide +kernel
theorem dX2_init_9 : decode mX2_init.2.1 9 = .ok (.iaload, 1) := by decide +kernel
theorem dX2_init_10 : decode mX2_init.2.1 10 = .ok (.putfield 15, 3) := by decide +kernel
theorem dX2_init_13 : decode mX2_init.2.1 13 = .ok (.aload_n 0, 1) := by decide +kernel
theorem dX2_init_14 : decode mX2_init.2.1 14 = .ok (.aload_n 0, 1) := by decide +kernel
theorem dX2_init_15 : decode mX2_init.2.1 15 = .ok (.getfield 15, 3) := by decide +kernel
theorem dX2_init_18 : decode mX2_init.2.1 18 = .ok (.newarray .int, 2) := by decide +kernel
theorem dX2_init_20 : decode mX2_init.2.1 20 = .ok (.putfield 19, 3) := by decide +kernel
theorem dX2_init_23 : decode mX2_init.2.1 23 = .ok (.aload_n 0, 1) := by decide +kernel
theorem dX2_init_24 : decode mX2_init.2.1 24 = .ok (.aload_n 0, 1) := by decide +kernel
theorem dX2_init_25 : decode mX2_init.2.1 25 = .ok (.getfield 15, 3) := by decide +kernel
theorem dX2_init_28 : decode mX2_init.2.1 28 = .ok (.newarray .long, 2) := by decide +kernel
theorem dX2_init_30 : decode mX2_init.2.1 30 = .ok (.putfield 22, 3) := by decide +kernel
theorem dX2_init_33 : decode mX2_init.2.1 33 = .ok (.aload_n 0, 1) := by decide +kernel
theorem dX2_init_34 : decode mX2_init.2.1 34 = .ok (.aload_n 0, 1) := by decide +kernel
theorem dX2_init_35 : decode mX2_init.2.1 35 = .ok (.getfield 15, 3) := by decide +kernel
theorem dX2_init_38 : decode mX2_init.2.1 38 = .ok (.newarray .long, 2) := by decide +kernel
theorem dX2_init_40 : decode mX2_init.2.1 40 = .ok (.putfield 26, 3) := by decide +kernel
theorem dX2_init_43 : decode mX2_init.2.1 43 = .ok (.aload_n 0, 1) := by decide +kernel
theorem dX2_init_44 : decode mX2_init.2.1 44 = .ok (.aload_n 0, 1) := by decide +kernel
theorem dX2_init_45 : decode mX2_init.2.1 45 = .ok (.getfield 15, 3) := by decide +kernel
theorem dX2_init_48 : decode mX2_init.2.1 48 = .ok (.newarray .int, 2) := by decide +kernel
theorem dX2_init_50 : decode mX2_init.2.1 50 = .ok (.putfield 29, 3) := by decide +kernel
theorem dX2_init_53 : decode mX2_init.2.1 53 = .ok (.aload_n 0, 1) := by decide +kernel
theorem dX2_init_54 : decode mX2_init.2.1 54 = .ok (.aload_n 0, 1) := by decide +kernel
theorem dX2_init_55 : decode mX2_init.2.1 55 = .ok (.getfield 15, 3) := by decide +kernel
theorem dX2_init_58 : decode mX2_init.2.1 58 = .ok (.newarray .int, 2) := by decide +kernel
theorem dX2_init_60 : decode mX2_init.2.1 60 = .ok (.putfield 32, 3) := by decide +kernel
theorem dX2_init_63 : decode mX2_init.2.1 63 = .ok (.iload_n 1, 1) := by decide +kernel
theorem dX2_init_64 : decode mX2_init.2.1 64 = .ok (.newarray .int, 2) := by decide +kernel
theorem dX2_init_66 : decode mX2_init.2.1 66 = .ok (.astore_n 2, 1) := by decide +kernel
theorem dX2_init_67 : decode mX2_init.2.1 67 = .ok (.bipush 7, 2) := by decide +kernel
theorem dX2_init_69 : decode mX2_init.2.1 69 = .ok (.newarray .int, 2) := by decide +kernel
theorem dX2_init_71 : decode mX2_init.2.1 71 = .ok (.astore_n 3, 1) := by decide +kernel
theorem dX2_init_72 : decode mX2_init.2.1 72 = .ok (.iconst 0, 1) := by decide +kernel
theorem dX2_init_73 : decode mX2_init.2.1 73 = .ok (.istore 4, 2) := by decide +kernel
theorem dX2_init_75 : decode mX2_init.2.1 75 = .ok (.iload 4, 2) := by decide +kernel
theorem dX2_init_77 : decode mX2_init.2.1 77 = .ok (.aload_n 0, 1) := by decide +kernel
theorem dX2_init_78 : decode mX2_init.2.1 78 = .ok (.getfield 15, 3) := by decide +kernel
theorem dX2_init_81 : decode mX2_init.2.1 81 = .ok (.if_icmp .ge 46, 3) := by decide +kernel
theorem dX2_init_84 : decode mX2_init.2.1 84 = .ok (.aload_n 2, 1) := by decide +kernel
theorem dX2_init_85 : decode mX2_init.2.1 85 = .ok (.aload_n 3, 1) := by decide +kernel
theorem dX2_init_86 : decode mX2_init.2.1 86 = .ok (.invokestatic 35, 3) := by decide +kernel
theorem dX2_init_89 : decode mX2_init.2.1 89 = .ok (.aload_n 0, 1) := by decide +kernel
theorem dX2_init_90 : decode mX2_init.2.1 90 = .ok (.getfield 19, 3) := by decide +kernel
theorem dX2_init_93 : decode mX2_init.2.1 93 = .ok (.iload 4, 2) := by decide +kernel
theorem dX2_init_95 : decode mX2_init.2.1 95 = .ok (.aload_n 2, 1) := by decide +kernel
theorem dX2_init_96 : decode mX2_init.2.1 96 = .ok (.invokestatic 39, 3) := by decide +kernel
theorem dX2_init_99 : decode mX2_init.2.1 99 = .ok (.iastore, 1) := by decide +kernel
theorem dX2_init_100 : decode mX2_init.2.1 100 = .ok (.aload_n 0, 1) := by decide +kernel
theorem dX2_init_101 : decode mX2_init.2.1 101 = .ok (.getfield 22, 3) := by decide +kernel
theorem dX2_init_104 : decode mX2_init.2.1 104 = .ok (.iload 4, 2) := by decide +kernel
theorem dX2_init_106 : decode mX2_init.2.1 106 = .ok (.aload_n 3, 1) := by decide +kernel
theorem dX2_init_107 : decode mX2_init.2.1 107 = .ok (.invokestatic 43, 3) := by decide +kernel
theorem dX2_init_110 : decode mX2_init.2.1 110 = .ok (.lastore, 1) := by decide +kernel
theorem dX2_init_111 : decode mX2_init.2.1 111 = .ok (.aload_n 0, 1) := by decide +kernel
theorem dX2_init_112 : decode mX2_init.2.1 112 = .ok (.iload 4, 2) := by decide +kernel
theorem dX2_init_114 : decode mX2_init.2.1 114 = .ok (.invokevirtual 47, 3) := by decide +kernel
theorem dX2_init_117 : decode mX2_init.2.1 117 = .ok (.aload_n 2, 1) := by decide +kernel
theorem dX2_init_118 : decode mX2_init.2.1 118 = .ok (.invokestatic 51, 3) := by decide +kernel
theorem dX2_init_121 : decode mX2_init.2.1 121 = .ok (.iinc 4 1, 3) := by decide +kernel
theorem dX2_init_124 : decode mX2_init.2.1 124 = .ok (.goto (-49), 3) := by decide +kernel
theorem dX2_init_127 : decode mX2_init.2.1 127 = .ok (.return_, 1) := by decide +kernel
def mX2_fillCounts : String × ByteArray × Nat := (RX2, cX2_fillCounts, 4)
theorem dX2_fillCounts_0 : decode mX2_fillCounts.2.1 0 = .ok (.aload_n 1, 1) := by decide +kernel
theorem dX2_fillCounts_1 : decode mX2_fillCounts.2.1 1 = .ok (.iconst 0, 1) := by decide +kernel
theorem dX2_fillCounts_2 : decode mX2_fillCounts.2.1 2 = .ok (.invokestatic 55, 3) := by decide +kernel
theorem dX2_fillCounts_5 : decode mX2_fillCounts.2.1 5 = .ok (.aload_n 1, 1) := by decide +kernel
theorem dX2_fillCounts_6 : decode mX2_fillCounts.2.1 6 = .ok (.iconst 0, 1) := by decide +kernel
theorem dX2_fillCounts_7 : decode mX2_fillCounts.2.1 7 = .ok (.iconst 1, 1) := by decide +kernel
theorem dX2_fillCounts_8 : decode mX2_fillCounts.2.1 8 = .ok (.iastore, 1) := by decide +kernel
theorem dX2_fillCounts_9 : decode mX2_fillCounts.2.1 9 = .ok (.iconst 0, 1) := by decide +kernel
theorem dX2_fillCounts_10 : decode mX2_fillCounts.2.1 10 = .ok (.istore_n 2, 1) := by decide +kernel
theorem dX2_fillCounts_11 : decode mX2_fillCounts.2.1 11 = .ok (.iload_n 2, 1) := by decide +kernel
theorem dX2_fillCounts_12 : decode mX2_fillCounts.2.1 12 = .ok (.aload_n 0, 1) := by decide +kernel
theorem dX2_fillCounts_13 : decode mX2_fillCounts.2.1 13 = .ok (.arraylength, 1) := by decide +kernel
theorem dX2_fillCounts_14 : decode mX2_fillCounts.2.1 14 = .ok (.if_icmp .ge 43, 3) := by decide +kernel
theorem dX2_fillCounts_17 : decode mX2_fillCounts.2.1 17 = .ok (.iload_n 2, 1) := by decide +kernel
theorem dX2_fillCounts_18 : decode mX2_fillCounts.2.1 18 = .ok (.iconst 1, 1) := by decide +kernel
theorem dX2_fillCounts_19 : decode mX2_fillCounts.2.1 19 = .ok (.iadd, 1) := by decide +kernel
theorem dX2_fillCounts_20 : decode mX2_fillCounts.2.1 20 = .ok (.istore_n 3, 1) := by decide +kernel
theorem dX2_fillCounts_21 : decode mX2_fillCounts.2.1 21 = .ok (.iload_n 3, 1) := by decide +kernel
theorem dX2_fillCounts_22 : decode mX2_fillCounts.2.1 22 = .ok (.iconst 1, 1) := by decide +kernel
theorem dX2_fillCounts_23 : decode mX2_fillCounts.2.1 23 = .ok (.if_icmp .lt 28, 3) := by decide +kernel
theorem dX2_fillCounts_26 : decode mX2_fillCounts.2.1 26 = .ok (.aload_n 1, 1) := by decide +kernel
theorem dX2_fillCounts_27 : decode mX2_fillCounts.2.1 27 = .ok (.iload_n 3, 1) := by decide +kernel
theorem dX2_fillCounts_28 : decode mX2_fillCounts.2.1 28 = .ok (.dup2, 1) := by decide +kernel
theorem dX2_fillCounts_29 : decode mX2_fillCounts.2.1 29 = .ok (.iaload, 1) := by decide +kernel
theorem dX2_fillCounts_30 : decode mX2_fillCounts.2.1 30 = .ok (.aload_n 0, 1) := by decide +kernel
theorem dX2_fillCounts_31 : decode mX2_fillCounts.2.1 31 = .ok (.iload_n 2, 1) := by decide +kernel
theorem dX2_fillCounts_32 : decode mX2_fillCounts.2.1 32 = .ok (.iaload, 1) := by decide +kernel
theorem dX2_fillCounts_33 : decode mX2_fillCounts.2.1 33 = .ok (.iload_n 3, 1) := by decide +kernel
theorem dX2_fillCounts_34 : decode mX2_fillCounts.2.1 34 = .ok (.isub, 1) := by decide +kernel
theorem dX2_fillCounts_35 : decode mX2_fillCounts.2.1 35 = .ok (.iconst 1, 1) := by decide +kernel
theorem dX2_fillCounts_36 : decode mX2_fillCounts.2.1 36 = .ok (.iadd, 1) := by decide +kernel
theorem dX2_fillCounts_37 : decode mX2_fillCounts.2.1 37 = .ok (.aload_n 1, 1) := by decide +kernel
theorem dX2_fillCounts_38 : decode mX2_fillCounts.2.1 38 = .ok (.iload_n 3, 1) := by decide +kernel
theorem dX2_fillCounts_39 : decode mX2_fillCounts.2.1 39 = .ok (.iconst 1, 1) := by decide +kernel
theorem dX2_fillCounts_40 : decode mX2_fillCounts.2.1 40 = .ok (.isub, 1) := by decide +kernel
theorem dX2_fillCounts_41 : decode mX2_fillCounts.2.1 41 = .ok (.iaload, 1) := by decide +kernel
theorem dX2_fillCounts_42 : decode mX2_fillCounts.2.1 42 = .ok (.imul, 1) := by decide +kernel
theorem dX2_fillCounts_43 : decode mX2_fillCounts.2.1 43 = .ok (.iadd, 1) := by decide +kernel
theorem dX2_fillCounts_44 : decode mX2_fillCounts.2.1 44 = .ok (.iastore, 1) := by decide +kernel
theorem dX2_fillCounts_45 : decode mX2_fillCounts.2.1 45 = .ok (.iinc 3 (-1), 3) := by decide +kernel
theorem dX2_fillCounts_48 : decode mX2_fillCounts.2.1 48 = .ok (.goto (-27), 3) := by decide +kernel
theorem dX2_fillCounts_51 : decode mX2_fillCounts.2.1 51 = .ok (.iinc 2 1, 3) := by decide +kernel
theorem dX2_fillCounts_54 : decode mX2_fillCounts.2.1 54 = .ok (.goto (-43), 3) := by decide +kernel
theorem dX2_fillCounts_57 : decode mX2_fillCounts.2.1 57 = .ok (.return_, 1) := by decide +kernel
def mX2_digitsOf : String × ByteArray × Nat := (RX2, cX2_digitsOf, 3)
theorem dX2_digitsOf_0 : decode mX2_digitsOf.2.1 0 = .ok (.iconst 0, 1) := by decide +kernel
theorem dX2_digitsOf_1 : decode mX2_digitsOf.2.1 1 = .ok (.istore_n 1, 1) := by decide +kernel
theorem dX2_digitsOf_2 : decode mX2_digitsOf.2.1 2 = .ok (.iconst 0, 1) := by decide +kernel
theorem dX2_digitsOf_3 : decode mX2_digitsOf.2.1 3 = .ok (.istore_n 2, 1) := by decide +kernel
theorem dX2_digitsOf_4 : decode mX2_digitsOf.2.1 4 = .ok (.iload_n 2, 1) := by decide +kernel
theorem dX2_digitsOf_5 : decode mX2_digitsOf.2.1 5 = .ok (.aload_n 0, 1) := by decide +kernel
theorem dX2_digitsOf_6 : decode mX2_digitsOf.2.1 6 = .ok (.arraylength, 1) := by decide +kernel
theorem dX2_digitsOf_7 : decode mX2_digitsOf.2.1 7 = .ok (.if_icmp .ge 18, 3) := by decide +kernel
theorem dX2_digitsOf_10 : decode mX2_digitsOf.2.1 10 = .ok (.iload_n 1, 1) := by decide +kernel
theorem dX2_digitsOf_11 : decode mX2_digitsOf.2.1 11 = .ok (.bipush 10, 2) := by decide +kernel
theorem dX2_digitsOf_13 : decode mX2_digitsOf.2.1 13 = .ok (.imul, 1) := by decide +kernel
theorem dX2_digitsOf_14 : decode mX2_digitsOf.2.1 14 = .ok (.aload_n 0, 1) := by decide +kernel
theorem dX2_digitsOf_15 : decode mX2_digitsOf.2.1 15 = .ok (.iload_n 2, 1) := by decide +kernel
theorem dX2_digitsOf_16 : decode mX2_digitsOf.2.1 16 = .ok (.iaload, 1) := by decide +kernel
theorem dX2_digitsOf_17 : decode mX2_digitsOf.2.1 17 = .ok (.iadd, 1) := by decide +kernel
theorem dX2_digitsOf_18 : decode mX2_digitsOf.2.1 18 = .ok (.istore_n 1, 1) := by decide +kernel
theorem dX2_digitsOf_19 : decode mX2_digitsOf.2.1 19 = .ok (.iinc 2 1, 3) := by decide +kernel
theorem dX2_digitsOf_22 : decode mX2_digitsOf.2.1 22 = .ok (.goto (-18), 3) := by decide +kernel
theorem dX2_digitsOf_25 : decode mX2_digitsOf.2.1 25 = .ok (.iload_n 1, 1) := by decide +kernel
theorem dX2_digitsOf_26 : decode mX2_digitsOf.2.1 26 = .ok (.ireturn, 1) := by decide +kernel
def mX2_goOn : String × ByteArray × Nat := (RX2, cX2_goOn, 4)
theorem dX2_goOn_0 : decode mX2_goOn.2.1 0 = .ok (.aload_n 0, 1) := by decide +kernel
theorem dX2_goOn_1 : decode mX2_goOn.2.1 1 = .ok (.arraylength, 1) := by decide +kernel
theorem dX2_goOn_2 : decode mX2_goOn.2.1 2 = .ok (.iconst 1, 1) := by decide +kernel
theorem dX2_goOn_3 : decode mX2_goOn.2.1 3 = .ok (.isub, 1) := by decide +kernel
theorem dX2_goOn_4 : decode mX2_goOn.2.1 4 = .ok (.istore_n 1, 1) := by decide +kernel
theorem dX2_goOn_5 : decode mX2_goOn.2.1 5 = .ok (.iload_n 1, 1) := by decide +kernel
theorem dX2_goOn_6 : decode mX2_goOn.2.1 6 = .ok (.ifCond .lt 17, 3) := by decide +kernel
theorem dX2_goOn_9 : decode mX2_goOn.2.1 9 = .ok (.aload_n 0, 1) := by decide +kernel
theorem dX2_goOn_10 : decode mX2_goOn.2.1 10 = .ok (.iload_n 1, 1) := by decide +kernel
theorem dX2_goOn_11 : decode mX2_goOn.2.1 11 = .ok (.iaload, 1) := by decide +kernel
theorem dX2_goOn_12 : decode mX2_goOn.2.1 12 = .ok (.aload_n 0, 1) := by decide +kernel
theorem dX2_goOn_13 : decode mX2_goOn.2.1 13 = .ok (.arraylength, 1) := by decide +kernel
theorem dX2_goOn_14 : decode mX2_goOn.2.1 14 = .ok (.if_icmp .lt 9, 3) := by decide +kernel
theorem dX2_goOn_17 : decode mX2_goOn.2.1 17 = .ok (.iinc 1 (-1), 3) := by decide +kernel
theorem dX2_goOn_20 : decode mX2_goOn.2.1 20 = .ok (.goto (-15), 3) := by decide +kernel
theorem dX2_goOn_23 : decode mX2_goOn.2.1 23 = .ok (.iload_n 1, 1) := by decide +kernel
theorem dX2_goOn_24 : decode mX2_goOn.2.1 24 = .ok (.ifCond .lt 11, 3) := by decide +kernel
theorem dX2_goOn_27 : decode mX2_goOn.2.1 27 = .ok (.aload_n 0, 1) := by decide +kernel
theorem dX2_goOn_28 : decode mX2_goOn.2.1 28 = .ok (.iload_n 1, 1) := by decide +kernel
theorem dX2_goOn_29 : decode mX2_goOn.2.1 29 = .ok (.iaload, 1) := by decide +kernel
theorem dX2_goOn_30 : decode mX2_goOn.2.1 30 = .ok (.iconst 1, 1) := by decide +kernel
theorem dX2_goOn_31 : decode mX2_goOn.2.1 31 = .ok (.iadd, 1) := by decide +kernel
theorem dX2_goOn_32 : decode mX2_goOn.2.1 32 = .ok (.goto 5, 3) := by decide +kernel
theorem dX2_goOn_35 : decode mX2_goOn.2.1 35 = .ok (.aload_n 0, 1) := by decide +kernel
theorem dX2_goOn_36 : decode mX2_goOn.2.1 36 = .ok (.arraylength, 1) := by decide +kernel
theorem dX2_goOn_37 : decode mX2_goOn.2.1 37 = .ok (.istore_n 2, 1) := by decide +kernel
theorem dX2_goOn_38 : decode mX2_goOn.2.1 38 = .ok (.iload_n 1, 1) := by decide +kernel
theorem dX2_goOn_39 : decode mX2_goOn.2.1 39 = .ok (.iconst 0, 1) := by decide +kernel
theorem dX2_goOn_40 : decode mX2_goOn.2.1 40 = .ok (.invokestatic 61, 3) := by decide +kernel
theorem dX2_goOn_43 : decode mX2_goOn.2.1 43 = .ok (.istore_n 3, 1) := by decide +kernel
theorem dX2_goOn_44 : decode mX2_goOn.2.1 44 = .ok (.iload_n 3, 1) := by decide +kernel
theorem dX2_goOn_45 : decode mX2_goOn.2.1 45 = .ok (.aload_n 0, 1) := by decide +kernel
theorem dX2_goOn_46 : decode mX2_goOn.2.1 46 = .ok (.arraylength, 1) := by decide +kernel
theorem dX2_goOn_47 : decode mX2_goOn.2.1 47 = .ok (.if_icmp .ge 13, 3) := by decide +kernel
theorem dX2_goOn_50 : decode mX2_goOn.2.1 50 = .ok (.aload_n 0, 1) := by decide +kernel
theorem dX2_goOn_51 : decode mX2_goOn.2.1 51 = .ok (.iload_n 3, 1) := by decide +kernel
theorem dX2_goOn_52 : decode mX2_goOn.2.1 52 = .ok (.iload_n 2, 1) := by decide +kernel
theorem dX2_goOn_53 : decode mX2_goOn.2.1 53 = .ok (.iastore, 1) := by decide +kernel
theorem dX2_goOn_54 : decode mX2_goOn.2.1 54 = .ok (.iinc 3 1, 3) := by decide +kernel
theorem dX2_goOn_57 : decode mX2_goOn.2.1 57 = .ok (.goto (-13), 3) := by decide +kernel
theorem dX2_goOn_60 : decode mX2_goOn.2.1 60 = .ok (.return_, 1) := by decide +kernel
def mX2_sortIn : String × ByteArray × Nat := (RX2, cX2_sortIn, 3)
theorem dX2_sortIn_0 : decode mX2_sortIn.2.1 0 = .ok (.aload_n 0, 1) := by decide +kernel
theorem dX2_sortIn_1 : decode mX2_sortIn.2.1 1 = .ok (.aload_n 0, 1) := by decide +kernel
theorem dX2_sortIn_2 : decode mX2_sortIn.2.1 2 = .ok (.getfield 22, 3) := by decide +kernel
theorem dX2_sortIn_5 : decode mX2_sortIn.2.1 5 = .ok (.iload_n 1, 1) := by decide +kernel
theorem dX2_sortIn_6 : decode mX2_sortIn.2.1 6 = .ok (.laload, 1) := by decide +kernel
theorem dX2_sortIn_7 : decode mX2_sortIn.2.1 7 = .ok (.invokevirtual 67, 3) := by decide +kernel
theorem dX2_sortIn_10 : decode mX2_sortIn.2.1 10 = .ok (.istore_n 2, 1) := by decide +kernel
theorem dX2_sortIn_11 : decode mX2_sortIn.2.1 11 = .ok (.iload_n 2, 1) := by decide +kernel
theorem dX2_sortIn_12 : decode mX2_sortIn.2.1 12 = .ok (.aload_n 0, 1) := by decide +kernel
theorem dX2_sortIn_13 : decode mX2_sortIn.2.1 13 = .ok (.getfield 71, 3) := by decide +kernel
theorem dX2_sortIn_16 : decode mX2_sortIn.2.1 16 = .ok (.if_icmp .ge 30, 3) := by decide +kernel
theorem dX2_sortIn_19 : decode mX2_sortIn.2.1 19 = .ok (.aload_n 0, 1) := by decide +kernel
theorem dX2_sortIn_20 : decode mX2_sortIn.2.1 20 = .ok (.getfield 26, 3) := by decide +kernel
theorem dX2_sortIn_23 : decode mX2_sortIn.2.1 23 = .ok (.iload_n 2, 1) := by decide +kernel
theorem dX2_sortIn_24 : decode mX2_sortIn.2.1 24 = .ok (.laload, 1) := by decide +kernel
theorem dX2_sortIn_25 : decode mX2_sortIn.2.1 25 = .ok (.aload_n 0, 1) := by decide +kernel
theorem dX2_sortIn_26 : decode mX2_sortIn.2.1 26 = .ok (.getfield 22, 3) := by decide +kernel
theorem dX2_sortIn_29 : decode mX2_sortIn.2.1 29 = .ok (.iload_n 1, 1) := by decide +kernel
theorem dX2_sortIn_30 : decode mX2_sortIn.2.1 30 = .ok (.laload, 1) := by decide +kernel
theorem dX2_sortIn_31 : decode mX2_sortIn.2.1 31 = .ok (.lcmp, 1) := by decide +kernel
theorem dX2_sortIn_32 : decode mX2_sortIn.2.1 32 = .ok (.ifCond .ne 14, 3) := by decide +kernel
theorem dX2_sortIn_35 : decode mX2_sortIn.2.1 35 = .ok (.aload_n 0, 1) := by decide +kernel
theorem dX2_sortIn_36 : decode mX2_sortIn.2.1 36 = .ok (.getfield 29, 3) := by decide +kernel
theorem dX2_sortIn_39 : decode mX2_sortIn.2.1 39 = .ok (.iload_n 2, 1) := by decide +kernel
theorem dX2_sortIn_40 : decode mX2_sortIn.2.1 40 = .ok (.dup2, 1) := by decide +kernel
theorem dX2_sortIn_41 : decode mX2_sortIn.2.1 41 = .ok (.iaload, 1) := by decide +kernel
theorem dX2_sortIn_42 : decode mX2_sortIn.2.1 42 = .ok (.iconst 1, 1) := by decide +kernel
theorem dX2_sortIn_43 : decode mX2_sortIn.2.1 43 = .ok (.iadd, 1) := by decide +kernel
theorem dX2_sortIn_44 : decode mX2_sortIn.2.1 44 = .ok (.iastore, 1) := by decide +kernel
theorem dX2_sortIn_45 : decode mX2_sortIn.2.1 45 = .ok (.return_, 1) := by decide +kernel
theorem dX2_sortIn_46 : decode mX2_sortIn.2.1 46 = .ok (.aload_n 0, 1) := by decide +kernel
theorem dX2_sortIn_47 : decode mX2_sortIn.2.1 47 = .ok (.getfield 26, 3) := by decide +kernel
theorem dX2_sortIn_50 : decode mX2_sortIn.2.1 50 = .ok (.iload_n 2, 1) := by decide +kernel
theorem dX2_sortIn_51 : decode mX2_sortIn.2.1 51 = .ok (.aload_n 0, 1) := by decide +kernel
theorem dX2_sortIn_52 : decode mX2_sortIn.2.1 52 = .ok (.getfield 26, 3) := by decide +kernel
theorem dX2_sortIn_55 : decode mX2_sortIn.2.1 55 = .ok (.iload_n 2, 1) := by decide +kernel
theorem dX2_sortIn_56 : decode mX2_sortIn.2.1 56 = .ok (.iconst 1, 1) := by decide +kernel
theorem dX2_sortIn_57 : decode mX2_sortIn.2.1 57 = .ok (.iadd, 1) := by decide +kernel
theorem dX2_sortIn_58 : decode mX2_sortIn.2.1 58 = .ok (.aload_n 0, 1) := by decide +kernel
theorem dX2_sortIn_59 : decode mX2_sortIn.2.1 59 = .ok (.getfield 71, 3) := by decide +kernel
theorem dX2_sortIn_62 : decode mX2_sortIn.2.1 62 = .ok (.iload_n 2, 1) := by decide +kernel
theorem dX2_sortIn_63 : decode mX2_sortIn.2.1 63 = .ok (.isub, 1) := by decide +kernel
theorem dX2_sortIn_64 : decode mX2_sortIn.2.1 64 = .ok (.invokestatic 74, 3) := by decide +kernel
theorem dX2_sortIn_67 : decode mX2_sortIn.2.1 67 = .ok (.aload_n 0, 1) := by decide +kernel
theorem dX2_sortIn_68 : decode mX2_sortIn.2.1 68 = .ok (.getfield 29, 3) := by decide +kernel
theorem dX2_sortIn_71 : decode mX2_sortIn.2.1 71 = .ok (.iload_n 2, 1) := by decide +kernel
theorem dX2_sortIn_72 : decode mX2_sortIn.2.1 72 = .ok (.aload_n 0, 1) := by decide +kernel
theorem dX2_sortIn_73 : decode mX2_sortIn.2.1 73 = .ok (.getfield 29, 3) := by decide +kernel
theorem dX2_sortIn_76 : decode mX2_sortIn.2.1 76 = .ok (.iload_n 2, 1) := by decide +kernel
theorem dX2_sortIn_77 : decode mX2_sortIn.2.1 77 = .ok (.iconst 1, 1) := by decide +kernel
theorem dX2_sortIn_78 : decode mX2_sortIn.2.1 78 = .ok (.iadd, 1) := by decide +kernel
theorem dX2_sortIn_79 : decode mX2_sortIn.2.1 79 = .ok (.aload_n 0, 1) := by decide +kernel
theorem dX2_sortIn_80 : decode mX2_sortIn.2.1 80 = .ok (.getfield 71, 3) := by decide +kernel
theorem dX2_sortIn_83 : decode mX2_sortIn.2.1 83 = .ok (.iload_n 2, 1) := by decide +kernel
theorem dX2_sortIn_84 : decode mX2_sortIn.2.1 84 = .ok (.isub, 1) := by decide +kernel
theorem dX2_sortIn_85 : decode mX2_sortIn.2.1 85 = .ok (.invokestatic 74, 3) := by decide +kernel
theorem dX2_sortIn_88 : decode mX2_sortIn.2.1 88 = .ok (.aload_n 0, 1) := by decide +kernel
theorem dX2_sortIn_89 : decode mX2_sortIn.2.1 89 = .ok (.getfield 32, 3) := by decide +kernel
theorem dX2_sortIn_92 : decode mX2_sortIn.2.1 92 = .ok (.iload_n 2, 1) := by decide +kernel
theorem dX2_sortIn_93 : decode mX2_sortIn.2.1 93 = .ok (.aload_n 0, 1) := by decide +kernel
theorem dX2_sortIn_94 : decode mX2_sortIn.2.1 94 = .ok (.getfield 32, 3) := by decide +kernel
theorem dX2_sortIn_97 : decode mX2_sortIn.2.1 97 = .ok (.iload_n 2, 1) := by decide +kernel
theorem dX2_sortIn_98 : decode mX2_sortIn.2.1 98 = .ok (.iconst 1, 1) := by decide +kernel
theorem dX2_sortIn_99 : decode mX2_sortIn.2.1 99 = .ok (.iadd, 1) := by decide +kernel
theorem dX2_sortIn_100 : decode mX2_sortIn.2.1 100 = .ok (.aload_n 0, 1) := by decide +kernel
theorem dX2_sortIn_101 : decode mX2_sortIn.2.1 101 = .ok (.getfield 71, 3) := by decide +kernel
theorem dX2_sortIn_104 : decode mX2_sortIn.2.1 104 = .ok (.iload_n 2, 1) := by decide +kernel
theorem dX2_sortIn_105 : decode mX2_sortIn.2.1 105 = .ok (.isub, 1) := by decide +kernel
theorem dX2_sortIn_106 : decode mX2_sortIn.2.1 106 = .ok (.invokestatic 74, 3) := by decide +kernel
theorem dX2_sortIn_109 : decode mX2_sortIn.2.1 109 = .ok (.aload_n 0, 1) := by decide +kernel
theorem dX2_sortIn_110 : decode mX2_sortIn.2.1 110 = .ok (.getfield 26, 3) := by decide +kernel
theorem dX2_sortIn_113 : decode mX2_sortIn.2.1 113 = .ok (.iload_n 2, 1) := by decide +kernel
theorem dX2_sortIn_114 : decode mX2_sortIn.2.1 114 = .ok (.aload_n 0, 1) := by decide +kernel
theorem dX2_sortIn_115 : decode mX2_sortIn.2.1 115 = .ok (.getfield 22, 3) := by decide +kernel
theorem dX2_sortIn_118 : decode mX2_sortIn.2.1 118 = .ok (.iload_n 1, 1) := by decide +kernel
theorem dX2_sortIn_119 : decode mX2_sortIn.2.1 119 = .ok (.laload, 1) := by decide +kernel
theorem dX2_sortIn_120 : decode mX2_sortIn.2.1 120 = .ok (.lastore, 1) := by decide +kernel
theorem dX2_sortIn_121 : decode mX2_sortIn.2.1 121 = .ok (.aload_n 0, 1) := by decide +kernel
theorem dX2_sortIn_122 : decode mX2_sortIn.2.1 122 = .ok (.getfield 29, 3) := by decide +kernel
theorem dX2_sortIn_125 : decode mX2_sortIn.2.1 125 = .ok (.iload_n 2, 1) := by decide +kernel
theorem dX2_sortIn_126 : decode mX2_sortIn.2.1 126 = .ok (.iconst 1, 1) := by decide +kernel
theorem dX2_sortIn_127 : decode mX2_sortIn.2.1 127 = .ok (.iastore, 1) := by decide +kernel
theorem dX2_sortIn_128 : decode mX2_sortIn.2.1 128 = .ok (.aload_n 0, 1) := by decide +kernel
theorem dX2_sortIn_129 : decode mX2_sortIn.2.1 129 = .ok (.getfield 32, 3) := by decide +kernel
theorem dX2_sortIn_132 : decode mX2_sortIn.2.1 132 = .ok (.iload_n 2, 1) := by decide +kernel
theorem dX2_sortIn_133 : decode mX2_sortIn.2.1 133 = .ok (.iload_n 1, 1) := by decide +kernel
theorem dX2_sortIn_134 : decode mX2_sortIn.2.1 134 = .ok (.iastore, 1) := by decide +kernel
theorem dX2_sortIn_135 : decode mX2_sortIn.2.1 135 = .ok (.aload_n 0, 1) := by decide +kernel
theorem dX2_sortIn_136 : decode mX2_sortIn.2.1 136 = .ok (.dup, 1) := by decide +kernel
theorem dX2_sortIn_137 : decode mX2_sortIn.2.1 137 = .ok (.getfield 71, 3) := by decide +kernel
theorem dX2_sortIn_140 : decode mX2_sortIn.2.1 140 = .ok (.iconst 1, 1) := by decide +kernel
theorem dX2_sortIn_141 : decode mX2_sortIn.2.1 141 = .ok (.iadd, 1) := by decide +kernel
theorem dX2_sortIn_142 : decode mX2_sortIn.2.1 142 = .ok (.putfield 71, 3) := by decide +kernel
theorem dX2_sortIn_145 : decode mX2_sortIn.2.1 145 = .ok (.return_, 1) := by decide +kernel
def mX2_firstPartFrom : String × ByteArray × Nat := (RX2, cX2_firstPartFrom, 6)
theorem dX2_firstPartFrom_0 : decode mX2_firstPartFrom.2.1 0 = .ok (.iconst 0, 1) := by decide +kernel
theorem dX2_firstPartFrom_1 : decode mX2_firstPartFrom.2.1 1 = .ok (.istore_n 3, 1) := by decide +kernel
theorem dX2_firstPartFrom_2 : decode mX2_firstPartFrom.2.1 2 = .ok (.aload_n 0, 1) := by decide +kernel
theorem dX2_firstPartFrom_3 : decode mX2_firstPartFrom.2.1 3 = .ok (.getfield 71, 3) := by decide +kernel
theorem dX2_firstPartFrom_6 : decode mX2_firstPartFrom.2.1 6 = .ok (.istore 4, 2) := by decide +kernel
theorem dX2_firstPartFrom_8 : decode mX2_firstPartFrom.2.1 8 = .ok (.iload_n 3, 1) := by decide +kernel
theorem dX2_firstPartFrom_9 : decode mX2_firstPartFrom.2.1 9 = .ok (.iload 4, 2) := by decide +kernel
theorem dX2_firstPartFrom_11 : decode mX2_firstPartFrom.2.1 11 = .ok (.if_icmp .ge 38, 3) := by decide +kernel
theorem dX2_firstPartFrom_14 : decode mX2_firstPartFrom.2.1 14 = .ok (.iload_n 3, 1) := by decide +kernel
theorem dX2_firstPartFrom_15 : decode mX2_firstPartFrom.2.1 15 = .ok (.iload 4, 2) := by decide +kernel
theorem dX2_firstPartFrom_17 : decode mX2_firstPartFrom.2.1 17 = .ok (.iadd, 1) := by decide +kernel
theorem dX2_firstPartFrom_18 : decode mX2_firstPartFrom.2.1 18 = .ok (.iconst 2, 1) := by decide +kernel
theorem dX2_firstPartFrom_19 : decode mX2_firstPartFrom.2.1 19 = .ok (.idiv, 1) := by decide +kernel
theorem dX2_firstPartFrom_20 : decode mX2_firstPartFrom.2.1 20 = .ok (.istore 5, 2) := by decide +kernel
theorem dX2_firstPartFrom_22 : decode mX2_firstPartFrom.2.1 22 = .ok (.aload_n 0, 1) := by decide +kernel
theorem dX2_firstPartFrom_23 : decode mX2_firstPartFrom.2.1 23 = .ok (.getfield 26, 3) := by decide +kernel
theorem dX2_firstPartFrom_26 : decode mX2_firstPartFrom.2.1 26 = .ok (.iload 5, 2) := by decide +kernel
theorem dX2_firstPartFrom_28 : decode mX2_firstPartFrom.2.1 28 = .ok (.laload, 1) := by decide +kernel
theorem dX2_firstPartFrom_29 : decode mX2_firstPartFrom.2.1 29 = .ok (.lload_n 1, 1) := by decide +kernel
theorem dX2_firstPartFrom_30 : decode mX2_firstPartFrom.2.1 30 = .ok (.lcmp, 1) := by decide +kernel
theorem dX2_firstPartFrom_31 : decode mX2_firstPartFrom.2.1 31 = .ok (.ifCond .ge 11, 3) := by decide +kernel
theorem dX2_firstPartFrom_34 : decode mX2_firstPartFrom.2.1 34 = .ok (.iload 5, 2) := by decide +kernel
theorem dX2_firstPartFrom_36 : decode mX2_firstPartFrom.2.1 36 = .ok (.iconst 1, 1) := by decide +kernel
theorem dX2_firstPartFrom_37 : decode mX2_firstPartFrom.2.1 37 = .ok (.iadd, 1) := by decide +kernel
theorem dX2_firstPartFrom_38 : decode mX2_firstPartFrom.2.1 38 = .ok (.istore_n 3, 1) := by decide +kernel
theorem dX2_firstPartFrom_39 : decode mX2_firstPartFrom.2.1 39 = .ok (.goto 7, 3) := by decide +kernel
theorem dX2_firstPartFrom_42 : decode mX2_firstPartFrom.2.1 42 = .ok (.iload 5, 2) := by decide +kernel
theorem dX2_firstPartFrom_44 : decode mX2_firstPartFrom.2.1 44 = .ok (.istore 4, 2) := by decide +kernel
theorem dX2_firstPartFrom_46 : decode mX2_firstPartFrom.2.1 46 = .ok (.goto (-38), 3) := by decide +kernel
theorem dX2_firstPartFrom_49 : decode mX2_firstPartFrom.2.1 49 = .ok (.iload_n 3, 1) := by decide +kernel
theorem dX2_firstPartFrom_50 : decode mX2_firstPartFrom.2.1 50 = .ok (.ireturn, 1) := by decide +kernel
def mX2_partOf : String × ByteArray × Nat := (RX2, cX2_partOf, 4)
theorem dX2_partOf_0 : decode mX2_partOf.2.1 0 = .ok (.aload_n 0, 1) := by decide +kernel
theorem dX2_partOf_1 : decode mX2_partOf.2.1 1 = .ok (.lload_n 1, 1) := by decide +kernel
theorem dX2_partOf_2 : decode mX2_partOf.2.1 2 = .ok (.invokevirtual 67, 3) := by decide +kernel
theorem dX2_partOf_5 : decode mX2_partOf.2.1 5 = .ok (.istore_n 3, 1) := by decide +kernel
theorem dX2_partOf_6 : decode mX2_partOf.2.1 6 = .ok (.iload_n 3, 1) := by decide +kernel
theorem dX2_partOf_7 : decode mX2_partOf.2.1 7 = .ok (.aload_n 0, 1) := by decide +kernel
theorem dX2_partOf_8 : decode mX2_partOf.2.1 8 = .ok (.getfield 71, 3) := by decide +kernel
theorem dX2_partOf_11 : decode mX2_partOf.2.1 11 = .ok (.if_icmp .ge 18, 3) := by decide +kernel
theorem dX2_partOf_14 : decode mX2_partOf.2.1 14 = .ok (.aload_n 0, 1) := by decide +kernel
theorem dX2_partOf_15 : decode mX2_partOf.2.1 15 = .ok (.getfield 26, 3) := by decide +kernel
theorem dX2_partOf_18 : decode mX2_partOf.2.1 18 = .ok (.iload_n 3, 1) := by decide +kernel
theorem dX2_partOf_19 : decode mX2_partOf.2.1 19 = .ok (.laload, 1) := by decide +kernel
theorem dX2_partOf_20 : decode mX2_partOf.2.1 20 = .ok (.lload_n 1, 1) := by decide +kernel
theorem dX2_partOf_21 : decode mX2_partOf.2.1 21 = .ok (.lcmp, 1) := by decide +kernel
theorem dX2_partOf_22 : decode mX2_partOf.2.1 22 = .ok (.ifCond .ne 7, 3) := by decide +kernel
theorem dX2_partOf_25 : decode mX2_partOf.2.1 25 = .ok (.iload_n 3, 1) := by decide +kernel
theorem dX2_partOf_26 : decode mX2_partOf.2.1 26 = .ok (.goto 4, 3) := by decide +kernel
theorem dX2_partOf_29 : decode mX2_partOf.2.1 29 = .ok (.iconst (-1), 1) := by decide +kernel
theorem dX2_partOf_30 : decode mX2_partOf.2.1 30 = .ok (.ireturn, 1) := by decide +kernel
def mX2_greatestPart : String × ByteArray × Nat := (RX2, cX2_greatestPart, 3)
theorem dX2_greatestPart_0 : decode mX2_greatestPart.2.1 0 = .ok (.iconst 0, 1) := by decide +kernel
theorem dX2_greatestPart_1 : decode mX2_greatestPart.2.1 1 = .ok (.istore_n 1, 1) := by decide +kernel
theorem dX2_greatestPart_2 : decode mX2_greatestPart.2.1 2 = .ok (.iconst 0, 1) := by decide +kernel
theorem dX2_greatestPart_3 : decode mX2_greatestPart.2.1 3 = .ok (.istore_n 2, 1) := by decide +kernel
theorem dX2_greatestPart_4 : decode mX2_greatestPart.2.1 4 = .ok (.iload_n 2, 1) := by decide +kernel
theorem dX2_greatestPart_5 : decode mX2_greatestPart.2.1 5 = .ok (.aload_n 0, 1) := by decide +kernel
theorem dX2_greatestPart_6 : decode mX2_greatestPart.2.1 6 = .ok (.getfield 71, 3) := by decide +kernel
theorem dX2_greatestPart_9 : decode mX2_greatestPart.2.1 9 = .ok (.if_icmp .ge 20, 3) := by decide +kernel
theorem dX2_greatestPart_12 : decode mX2_greatestPart.2.1 12 = .ok (.iload_n 1, 1) := by decide +kernel
theorem dX2_greatestPart_13 : decode mX2_greatestPart.2.1 13 = .ok (.aload_n 0, 1) := by decide +kernel
theorem dX2_greatestPart_14 : decode mX2_greatestPart.2.1 14 = .ok (.getfield 29, 3) := by decide +kernel
theorem dX2_greatestPart_17 : decode mX2_greatestPart.2.1 17 = .ok (.iload_n 2, 1) := by decide +kernel
theorem dX2_greatestPart_18 : decode mX2_greatestPart.2.1 18 = .ok (.iaload, 1) := by decide +kernel
theorem dX2_greatestPart_19 : decode mX2_greatestPart.2.1 19 = .ok (.invokestatic 61, 3) := by decide +kernel
theorem dX2_greatestPart_22 : decode mX2_greatestPart.2.1 22 = .ok (.istore_n 1, 1) := by decide +kernel
theorem dX2_greatestPart_23 : decode mX2_greatestPart.2.1 23 = .ok (.iinc 2 1, 3) := by decide +kernel
theorem dX2_greatestPart_26 : decode mX2_greatestPart.2.1 26 = .ok (.goto (-22), 3) := by decide +kernel
theorem dX2_greatestPart_29 : decode mX2_greatestPart.2.1 29 = .ok (.iload_n 1, 1) := by decide +kernel
theorem dX2_greatestPart_30 : decode mX2_greatestPart.2.1 30 = .ok (.ireturn, 1) := by decide +kernel
def mX2_numberOf : String × ByteArray × Nat := (RX2, cX2_numberOf, 3)
theorem dX2_numberOf_0 : decode mX2_numberOf.2.1 0 = .ok (.iconst 0, 1) := by decide +kernel
theorem dX2_numberOf_1 : decode mX2_numberOf.2.1 1 = .ok (.istore_n 2, 1) := by decide +kernel
theorem dX2_numberOf_2 : decode mX2_numberOf.2.1 2 = .ok (.iload_n 2, 1) := by decide +kernel
theorem dX2_numberOf_3 : decode mX2_numberOf.2.1 3 = .ok (.aload_n 0, 1) := by decide +kernel
theorem dX2_numberOf_4 : decode mX2_numberOf.2.1 4 = .ok (.getfield 15, 3) := by decide +kernel
theorem dX2_numberOf_7 : decode mX2_numberOf.2.1 7 = .ok (.if_icmp .ge 21, 3) := by decide +kernel
theorem dX2_numberOf_10 : decode mX2_numberOf.2.1 10 = .ok (.aload_n 0, 1) := by decide +kernel
theorem dX2_numberOf_11 : decode mX2_numberOf.2.1 11 = .ok (.getfield 19, 3) := by decide +kernel
theorem dX2_numberOf_14 : decode mX2_numberOf.2.1 14 = .ok (.iload_n 2, 1) := by decide +kernel
theorem dX2_numberOf_15 : decode mX2_numberOf.2.1 15 = .ok (.iaload, 1) := by decide +kernel
theorem dX2_numberOf_16 : decode mX2_numberOf.2.1 16 = .ok (.iload_n 1, 1) := by decide +kernel
theorem dX2_numberOf_17 : decode mX2_numberOf.2.1 17 = .ok (.if_icmp .ne 5, 3) := by decide +kernel
theorem dX2_numberOf_20 : decode mX2_numberOf.2.1 20 = .ok (.iload_n 2, 1) := by decide +kernel
theorem dX2_numberOf_21 : decode mX2_numberOf.2.1 21 = .ok (.ireturn, 1) := by decide +kernel
theorem dX2_numberOf_22 : decode mX2_numberOf.2.1 22 = .ok (.iinc 2 1, 3) := by decide +kernel
theorem dX2_numberOf_25 : decode mX2_numberOf.2.1 25 = .ok (.goto (-23), 3) := by decide +kernel
theorem dX2_numberOf_28 : decode mX2_numberOf.2.1 28 = .ok (.bipush (-5), 2) := by decide +kernel
theorem dX2_numberOf_30 : decode mX2_numberOf.2.1 30 = .ok (.ireturn, 1) := by decide +kernel
def mX2_countInKey : String × ByteArray × Nat := (RX2, cX2_countInKey, 3)
theorem dX2_countInKey_0 : decode mX2_countInKey.2.1 0 = .ok (.iload_n 2, 1) := by decide +kernel
theorem dX2_countInKey_1 : decode mX2_countInKey.2.1 1 = .ok (.ifCond .ne 7, 3) := by decide +kernel
theorem dX2_countInKey_4 : decode mX2_countInKey.2.1 4 = .ok (.iconst 1, 1) := by decide +kernel
theorem dX2_countInKey_5 : decode mX2_countInKey.2.1 5 = .ok (.goto 17, 3) := by decide +kernel
theorem dX2_countInKey_8 : decode mX2_countInKey.2.1 8 = .ok (.lload_n 0, 1) := by decide +kernel
theorem dX2_countInKey_9 : decode mX2_countInKey.2.1 9 = .ok (.getstatic 80, 3) := by decide +kernel
theorem dX2_countInKey_12 : decode mX2_countInKey.2.1 12 = .ok (.iload_n 2, 1) := by decide +kernel
theorem dX2_countInKey_13 : decode mX2_countInKey.2.1 13 = .ok (.iaload, 1) := by decide +kernel
theorem dX2_countInKey_14 : decode mX2_countInKey.2.1 14 = .ok (.lushr, 1) := by decide +kernel
theorem dX2_countInKey_15 : decode mX2_countInKey.2.1 15 = .ok (.l2i, 1) := by decide +kernel
theorem dX2_countInKey_16 : decode mX2_countInKey.2.1 16 = .ok (.getstatic 83, 3) := by decide +kernel
theorem dX2_countInKey_19 : decode mX2_countInKey.2.1 19 = .ok (.iload_n 2, 1) := by decide +kernel
theorem dX2_countInKey_20 : decode mX2_countInKey.2.1 20 = .ok (.iaload, 1) := by decide +kernel
theorem dX2_countInKey_21 : decode mX2_countInKey.2.1 21 = .ok (.iand, 1) := by decide +kernel
theorem dX2_countInKey_22 : decode mX2_countInKey.2.1 22 = .ok (.ireturn, 1) := by decide +kernel
def mX3_init : String × ByteArray × Nat := (RX3, cX3_init, 1)
theorem dX3_init_0 : decode mX3_init.2.1 0 = .ok (.aload_n 0, 1) := by decide +kernel
theorem dX3_init_1 : decode mX3_init.2.1 1 = .ok (.invokespecial 3, 3) := by decide +kernel
theorem dX3_init_4 : decode mX3_init.2.1 4 = .ok (.aload_n 0, 1) := by decide +kernel
theorem dX3_init_5 : decode mX3_init.2.1 5 = .ok (.bipush 12, 2) := by decide +kernel
theorem dX3_init_7 : decode mX3_init.2.1 7 = .ok (.newarray .int, 2) := by decide +kernel
theorem dX3_init_9 : decode mX3_init.2.1 9 = .ok (.putfield 9, 3) := by decide +kernel
theorem dX3_init_12 : decode mX3_init.2.1 12 = .ok (.return_, 1) := by decide +kernel
def mX3_putWord : String × ByteArray × Nat := (RX3, cX3_putWord, 4)
theorem dX3_putWord_0 : decode mX3_putWord.2.1 0 = .ok (.aload_n 0, 1) := by decide +kernel
theorem dX3_putWord_1 : decode mX3_putWord.2.1 1 = .ok (.iconst 0, 1) := by decide +kernel
theorem dX3_putWord_2 : decode mX3_putWord.2.1 2 = .ok (.putfield 15, 3) := by decide +kernel
theorem dX3_putWord_5 : decode mX3_putWord.2.1 5 = .ok (.iconst 0, 1) := by decide +kernel
theorem dX3_putWord_6 : decode mX3_putWord.2.1 6 = .ok (.istore_n 2, 1) := by decide +kernel
theorem dX3_putWord_7 : decode mX3_putWord.2.1 7 = .ok (.iload_n 2, 1) := by decide +kernel
theorem dX3_putWord_8 : decode mX3_putWord.2.1 8 = .ok (.aload_n 1, 1) := by decide +kernel
theorem dX3_putWord_9 : decode mX3_putWord.2.1 9 = .ok (.getfield 19, 3) := by decide +kernel
theorem dX3_putWord_12 : decode mX3_putWord.2.1 12 = .ok (.if_icmp .ge 84, 3) := by decide +kernel
theorem dX3_putWord_15 : decode mX3_putWord.2.1 15 = .ok (.iconst 1, 1) := by decide +kernel
theorem dX3_putWord_16 : decode mX3_putWord.2.1 16 = .ok (.istore_n 3, 1) := by decide +kernel
theorem dX3_putWord_17 : decode mX3_putWord.2.1 17 = .ok (.iload_n 3, 1) := by decide +kernel
theorem dX3_putWord_18 : decode mX3_putWord.2.1 18 = .ok (.bipush 9, 2) := by decide +kernel
theorem dX3_putWord_20 : decode mX3_putWord.2.1 20 = .ok (.if_icmp .ge 36, 3) := by decide +kernel
theorem dX3_putWord_23 : decode mX3_putWord.2.1 23 = .ok (.iload_n 2, 1) := by decide +kernel
theorem dX3_putWord_24 : decode mX3_putWord.2.1 24 = .ok (.iload_n 3, 1) := by decide +kernel
theorem dX3_putWord_25 : decode mX3_putWord.2.1 25 = .ok (.iadd, 1) := by decide +kernel
theorem dX3_putWord_26 : decode mX3_putWord.2.1 26 = .ok (.aload_n 1, 1) := by decide +kernel
theorem dX3_putWord_27 : decode mX3_putWord.2.1 27 = .ok (.getfield 19, 3) := by decide +kernel
theorem dX3_putWord_30 : decode mX3_putWord.2.1 30 = .ok (.if_icmp .ge 26, 3) := by decide +kernel
theorem dX3_putWord_33 : decode mX3_putWord.2.1 33 = .ok (.aload_n 1, 1) := by decide +kernel
theorem dX3_putWord_34 : decode mX3_putWord.2.1 34 = .ok (.getfield 22, 3) := by decide +kernel
theorem dX3_putWord_37 : decode mX3_putWord.2.1 37 = .ok (.iload_n 2, 1) := by decide +kernel
theorem dX3_putWord_38 : decode mX3_putWord.2.1 38 = .ok (.iload_n 3, 1) := by decide +kernel
theorem dX3_putWord_39 : decode mX3_putWord.2.1 39 = .ok (.iadd, 1) := by decide +kernel
theorem dX3_putWord_40 : decode mX3_putWord.2.1 40 = .ok (.iaload, 1) := by decide +kernel
theorem dX3_putWord_41 : decode mX3_putWord.2.1 41 = .ok (.aload_n 1, 1) := by decide +kernel
theorem dX3_putWord_42 : decode mX3_putWord.2.1 42 = .ok (.getfield 22, 3) := by decide +kernel
theorem dX3_putWord_45 : decode mX3_putWord.2.1 45 = .ok (.iload_n 2, 1) := by decide +kernel
theorem dX3_putWord_46 : decode mX3_putWord.2.1 46 = .ok (.iaload, 1) := by decide +kernel
theorem dX3_putWord_47 : decode mX3_putWord.2.1 47 = .ok (.if_icmp .ne 9, 3) := by decide +kernel
theorem dX3_putWord_50 : decode mX3_putWord.2.1 50 = .ok (.iinc 3 1, 3) := by decide +kernel
theorem dX3_putWord_53 : decode mX3_putWord.2.1 53 = .ok (.goto (-36), 3) := by decide +kernel
theorem dX3_putWord_56 : decode mX3_putWord.2.1 56 = .ok (.aload_n 0, 1) := by decide +kernel
theorem dX3_putWord_57 : decode mX3_putWord.2.1 57 = .ok (.aload_n 1, 1) := by decide +kernel
theorem dX3_putWord_58 : decode mX3_putWord.2.1 58 = .ok (.getfield 22, 3) := by decide +kernel
theorem dX3_putWord_61 : decode mX3_putWord.2.1 61 = .ok (.iload_n 2, 1) := by decide +kernel
theorem dX3_putWord_62 : decode mX3_putWord.2.1 62 = .ok (.iaload, 1) := by decide +kernel
theorem dX3_putWord_63 : decode mX3_putWord.2.1 63 = .ok (.ifCond .ne 8, 3) := by decide +kernel
theorem dX3_putWord_66 : decode mX3_putWord.2.1 66 = .ok (.bipush 85, 2) := by decide +kernel
theorem dX3_putWord_68 : decode mX3_putWord.2.1 68 = .ok (.goto 5, 3) := by decide +kernel
theorem dX3_putWord_71 : decode mX3_putWord.2.1 71 = .ok (.bipush 68, 2) := by decide +kernel
theorem dX3_putWord_73 : decode mX3_putWord.2.1 73 = .ok (.invokevirtual 25, 3) := by decide +kernel
theorem dX3_putWord_76 : decode mX3_putWord.2.1 76 = .ok (.iload_n 3, 1) := by decide +kernel
theorem dX3_putWord_77 : decode mX3_putWord.2.1 77 = .ok (.iconst 1, 1) := by decide +kernel
theorem dX3_putWord_78 : decode mX3_putWord.2.1 78 = .ok (.if_icmp .le 11, 3) := by decide +kernel
theorem dX3_putWord_81 : decode mX3_putWord.2.1 81 = .ok (.aload_n 0, 1) := by decide +kernel
theorem dX3_putWord_82 : decode mX3_putWord.2.1 82 = .ok (.bipush 48, 2) := by decide +kernel
theorem dX3_putWord_84 : decode mX3_putWord.2.1 84 = .ok (.iload_n 3, 1) := by decide +kernel
theorem dX3_putWord_85 : decode mX3_putWord.2.1 85 = .ok (.iadd, 1) := by decide +kernel
theorem dX3_putWord_86 : decode mX3_putWord.2.1 86 = .ok (.invokevirtual 25, 3) := by decide +kernel
theorem dX3_putWord_89 : decode mX3_putWord.2.1 89 = .ok (.iload_n 2, 1) := by decide +kernel
theorem dX3_putWord_90 : decode mX3_putWord.2.1 90 = .ok (.iload_n 3, 1) := by decide +kernel
theorem dX3_putWord_91 : decode mX3_putWord.2.1 91 = .ok (.iadd, 1) := by decide +kernel
theorem dX3_putWord_92 : decode mX3_putWord.2.1 92 = .ok (.istore_n 2, 1) := by decide +kernel
theorem dX3_putWord_93 : decode mX3_putWord.2.1 93 = .ok (.goto (-86), 3) := by decide +kernel
theorem dX3_putWord_96 : decode mX3_putWord.2.1 96 = .ok (.return_, 1) := by decide +kernel
def mX3_putByte : String × ByteArray × Nat := (RX3, cX3_putByte, 2)
theorem dX3_putByte_0 : decode mX3_putByte.2.1 0 = .ok (.aload_n 0, 1) := by decide +kernel
theorem dX3_putByte_1 : decode mX3_putByte.2.1 1 = .ok (.getfield 15, 3) := by decide +kernel
theorem dX3_putByte_4 : decode mX3_putByte.2.1 4 = .ok (.aload_n 0, 1) := by decide +kernel
theorem dX3_putByte_5 : decode mX3_putByte.2.1 5 = .ok (.getfield 9, 3) := by decide +kernel
theorem dX3_putByte_8 : decode mX3_putByte.2.1 8 = .ok (.arraylength, 1) := by decide +kernel
theorem dX3_putByte_9 : decode mX3_putByte.2.1 9 = .ok (.if_icmp .ge 23, 3) := by decide +kernel
theorem dX3_putByte_12 : decode mX3_putByte.2.1 12 = .ok (.aload_n 0, 1) := by decide +kernel
theorem dX3_putByte_13 : decode mX3_putByte.2.1 13 = .ok (.getfield 9, 3) := by decide +kernel
theorem dX3_putByte_16 : decode mX3_putByte.2.1 16 = .ok (.aload_n 0, 1) := by decide +kernel
theorem dX3_putByte_17 : decode mX3_putByte.2.1 17 = .ok (.getfield 15, 3) := by decide +kernel
theorem dX3_putByte_20 : decode mX3_putByte.2.1 20 = .ok (.iload_n 1, 1) := by decide +kernel
theorem dX3_putByte_21 : decode mX3_putByte.2.1 21 = .ok (.iastore, 1) := by decide +kernel
theorem dX3_putByte_22 : decode mX3_putByte.2.1 22 = .ok (.aload_n 0, 1) := by decide +kernel
theorem dX3_putByte_23 : decode mX3_putByte.2.1 23 = .ok (.dup, 1) := by decide +kernel
theorem dX3_putByte_24 : decode mX3_putByte.2.1 24 = .ok (.getfield 15, 3) := by decide +kernel
theorem dX3_putByte_27 : decode mX3_putByte.2.1 27 = .ok (.iconst 1, 1) := by decide +kernel
theorem dX3_putByte_28 : decode mX3_putByte.2.1 28 = .ok (.iadd, 1) := by decide +kernel
theorem dX3_putByte_29 : decode mX3_putByte.2.1 29 = .ok (.putfield 15, 3) := by decide +kernel
theorem dX3_putByte_32 : decode mX3_putByte.2.1 32 = .ok (.return_, 1) := by decide +kernel
def mX4_init : String × ByteArray × Nat := (RX4, cX4_init, 1)
theorem dX4_init_0 : decode mX4_init.2.1 0 = .ok (.aload_n 0, 1) := by decide +kernel
theorem dX4_init_1 : decode mX4_init.2.1 1 = .ok (.invokespecial 3, 3) := by decide +kernel
theorem dX4_init_4 : decode mX4_init.2.1 4 = .ok (.aload_n 0, 1) := by decide +kernel
theorem dX4_init_5 : decode mX4_init.2.1 5 = .ok (.bipush 64, 2) := by decide +kernel
theorem dX4_init_7 : decode mX4_init.2.1 7 = .ok (.newarray .int, 2) := by decide +kernel
theorem dX4_init_9 : decode mX4_init.2.1 9 = .ok (.putfield 11, 3) := by decide +kernel
theorem dX4_init_12 : decode mX4_init.2.1 12 = .ok (.aload_n 0, 1) := by decide +kernel
theorem dX4_init_13 : decode mX4_init.2.1 13 = .ok (.bipush 7, 2) := by decide +kernel
theorem dX4_init_15 : decode mX4_init.2.1 15 = .ok (.newarray .int, 2) := by decide +kernel
theorem dX4_init_17 : decode mX4_init.2.1 17 = .ok (.putfield 15, 3) := by decide +kernel
theorem dX4_init_20 : decode mX4_init.2.1 20 = .ok (.aload_n 0, 1) := by decide +kernel
theorem dX4_init_21 : decode mX4_init.2.1 21 = .ok (.sipush 448, 3) := by decide +kernel
theorem dX4_init_24 : decode mX4_init.2.1 24 = .ok (.newarray .int, 2) := by decide +kernel
theorem dX4_init_26 : decode mX4_init.2.1 26 = .ok (.putfield 18, 3) := by decide +kernel
theorem dX4_init_29 : decode mX4_init.2.1 29 = .ok (.aload_n 0, 1) := by decide +kernel
theorem dX4_init_30 : decode mX4_init.2.1 30 = .ok (.sipush 625, 3) := by decide +kernel
theorem dX4_init_33 : decode mX4_init.2.1 33 = .ok (.newarray .int, 2) := by decide +kernel
theorem dX4_init_35 : decode mX4_init.2.1 35 = .ok (.putfield 21, 3) := by decide +kernel
theorem dX4_init_38 : decode mX4_init.2.1 38 = .ok (.aload_n 0, 1) := by decide +kernel
theorem dX4_init_39 : decode mX4_init.2.1 39 = .ok (.bipush 37, 2) := by decide +kernel
theorem dX4_init_41 : decode mX4_init.2.1 41 = .ok (.newarray .int, 2) := by decide +kernel
theorem dX4_init_43 : decode mX4_init.2.1 43 = .ok (.putfield 24, 3) := by decide +kernel
theorem dX4_init_46 : decode mX4_init.2.1 46 = .ok (.return_, 1) := by decide +kernel
def mX4_countsOf : String × ByteArray × Nat := (RX4, cX4_countsOf, 5)
theorem dX4_countsOf_0 : decode mX4_countsOf.2.1 0 = .ok (.iconst 1, 1) := by decide +kernel
theorem dX4_countsOf_1 : decode mX4_countsOf.2.1 1 = .ok (.aload_n 1, 1) := by decide +kernel
theorem dX4_countsOf_2 : decode mX4_countsOf.2.1 2 = .ok (.getfield 27, 3) := by decide +kernel
theorem dX4_countsOf_5 : decode mX4_countsOf.2.1 5 = .ok (.ishl, 1) := by decide +kernel
theorem dX4_countsOf_6 : decode mX4_countsOf.2.1 6 = .ok (.istore_n 2, 1) := by decide +kernel
theorem dX4_countsOf_7 : decode mX4_countsOf.2.1 7 = .ok (.aload_n 0, 1) := by decide +kernel
theorem dX4_countsOf_8 : decode mX4_countsOf.2.1 8 = .ok (.getfield 11, 3) := by decide +kernel
theorem dX4_countsOf_11 : decode mX4_countsOf.2.1 11 = .ok (.iconst 0, 1) := by decide +kernel
theorem dX4_countsOf_12 : decode mX4_countsOf.2.1 12 = .ok (.invokestatic 33, 3) := by decide +kernel
theorem dX4_countsOf_15 : decode mX4_countsOf.2.1 15 = .ok (.aload_n 0, 1) := by decide +kernel
theorem dX4_countsOf_16 : decode mX4_countsOf.2.1 16 = .ok (.getfield 11, 3) := by decide +kernel
theorem dX4_countsOf_19 : decode mX4_countsOf.2.1 19 = .ok (.iconst 0, 1) := by decide +kernel
theorem dX4_countsOf_20 : decode mX4_countsOf.2.1 20 = .ok (.iconst 1, 1) := by decide +kernel
theorem dX4_countsOf_21 : decode mX4_countsOf.2.1 21 = .ok (.iastore, 1) := by decide +kernel
theorem dX4_countsOf_22 : decode mX4_countsOf.2.1 22 = .ok (.iconst 0, 1) := by decide +kernel
theorem dX4_countsOf_23 : decode mX4_countsOf.2.1 23 = .ok (.istore_n 3, 1) := by decide +kernel
theorem dX4_countsOf_24 : decode mX4_countsOf.2.1 24 = .ok (.iload_n 3, 1) := by decide +kernel
theorem dX4_countsOf_25 : decode mX4_countsOf.2.1 25 = .ok (.aload_n 1, 1) := by decide +kernel
theorem dX4_countsOf_26 : decode mX4_countsOf.2.1 26 = .ok (.getfield 27, 3) := by decide +kernel
theorem dX4_countsOf_29 : decode mX4_countsOf.2.1 29 = .ok (.if_icmp .ge 43, 3) := by decide +kernel
theorem dX4_countsOf_32 : decode mX4_countsOf.2.1 32 = .ok (.iload_n 2, 1) := by decide +kernel
theorem dX4_countsOf_33 : decode mX4_countsOf.2.1 33 = .ok (.iconst 1, 1) := by decide +kernel
theorem dX4_countsOf_34 : decode mX4_countsOf.2.1 34 = .ok (.isub, 1) := by decide +kernel
theorem dX4_countsOf_35 : decode mX4_countsOf.2.1 35 = .ok (.istore 4, 2) := by decide +kernel
theorem dX4_countsOf_37 : decode mX4_countsOf.2.1 37 = .ok (.iload 4, 2) := by decide +kernel
theorem dX4_countsOf_39 : decode mX4_countsOf.2.1 39 = .ok (.ifCond .lt 27, 3) := by decide +kernel
theorem dX4_countsOf_42 : decode mX4_countsOf.2.1 42 = .ok (.aload_n 0, 1) := by decide +kernel
theorem dX4_countsOf_43 : decode mX4_countsOf.2.1 43 = .ok (.getfield 11, 3) := by decide +kernel
theorem dX4_countsOf_46 : decode mX4_countsOf.2.1 46 = .ok (.iload 4, 2) := by decide +kernel
theorem dX4_countsOf_48 : decode mX4_countsOf.2.1 48 = .ok (.iaload, 1) := by decide +kernel
theorem dX4_countsOf_49 : decode mX4_countsOf.2.1 49 = .ok (.ifCond .eq 11, 3) := by decide +kernel
theorem dX4_countsOf_52 : decode mX4_countsOf.2.1 52 = .ok (.aload_n 0, 1) := by decide +kernel
theorem dX4_countsOf_53 : decode mX4_countsOf.2.1 53 = .ok (.aload_n 1, 1) := by decide +kernel
theorem dX4_countsOf_54 : decode mX4_countsOf.2.1 54 = .ok (.iload_n 3, 1) := by decide +kernel
theorem dX4_countsOf_55 : decode mX4_countsOf.2.1 55 = .ok (.iload 4, 2) := by decide +kernel
theorem dX4_countsOf_57 : decode mX4_countsOf.2.1 57 = .ok (.invokevirtual 39, 3) := by decide +kernel
theorem dX4_countsOf_60 : decode mX4_countsOf.2.1 60 = .ok (.iinc 4 (-1), 3) := by decide +kernel
theorem dX4_countsOf_63 : decode mX4_countsOf.2.1 63 = .ok (.goto (-26), 3) := by decide +kernel
theorem dX4_countsOf_66 : decode mX4_countsOf.2.1 66 = .ok (.iinc 3 1, 3) := by decide +kernel
theorem dX4_countsOf_69 : decode mX4_countsOf.2.1 69 = .ok (.goto (-45), 3) := by decide +kernel
theorem dX4_countsOf_72 : decode mX4_countsOf.2.1 72 = .ok (.aload_n 0, 1) := by decide +kernel
theorem dX4_countsOf_73 : decode mX4_countsOf.2.1 73 = .ok (.getfield 15, 3) := by decide +kernel
theorem dX4_countsOf_76 : decode mX4_countsOf.2.1 76 = .ok (.iconst 0, 1) := by decide +kernel
theorem dX4_countsOf_77 : decode mX4_countsOf.2.1 77 = .ok (.invokestatic 33, 3) := by decide +kernel
theorem dX4_countsOf_80 : decode mX4_countsOf.2.1 80 = .ok (.iconst 0, 1) := by decide +kernel
theorem dX4_countsOf_81 : decode mX4_countsOf.2.1 81 = .ok (.istore_n 3, 1) := by decide +kernel
theorem dX4_countsOf_82 : decode mX4_countsOf.2.1 82 = .ok (.iload_n 3, 1) := by decide +kernel
theorem dX4_countsOf_83 : decode mX4_countsOf.2.1 83 = .ok (.iload_n 2, 1) := by decide +kernel
theorem dX4_countsOf_84 : decode mX4_countsOf.2.1 84 = .ok (.if_icmp .ge 27, 3) := by decide +kernel
theorem dX4_countsOf_87 : decode mX4_countsOf.2.1 87 = .ok (.aload_n 0, 1) := by decide +kernel
theorem dX4_countsOf_88 : decode mX4_countsOf.2.1 88 = .ok (.getfield 15, 3) := by decide +kernel
theorem dX4_countsOf_91 : decode mX4_countsOf.2.1 91 = .ok (.iload_n 3, 1) := by decide +kernel
theorem dX4_countsOf_92 : decode mX4_countsOf.2.1 92 = .ok (.invokestatic 43, 3) := by decide +kernel
theorem dX4_countsOf_95 : decode mX4_countsOf.2.1 95 = .ok (.dup2, 1) := by decide +kernel
theorem dX4_countsOf_96 : decode mX4_countsOf.2.1 96 = .ok (.iaload, 1) := by decide +kernel
theorem dX4_countsOf_97 : decode mX4_countsOf.2.1 97 = .ok (.aload_n 0, 1) := by decide +kernel
theorem dX4_countsOf_98 : decode mX4_countsOf.2.1 98 = .ok (.getfield 11, 3) := by decide +kernel
theorem dX4_countsOf_101 : decode mX4_countsOf.2.1 101 = .ok (.iload_n 3, 1) := by decide +kernel
theorem dX4_countsOf_102 : decode mX4_countsOf.2.1 102 = .ok (.iaload, 1) := by decide +kernel
theorem dX4_countsOf_103 : decode mX4_countsOf.2.1 103 = .ok (.iadd, 1) := by decide +kernel
theorem dX4_countsOf_104 : decode mX4_countsOf.2.1 104 = .ok (.iastore, 1) := by decide +kernel
theorem dX4_countsOf_105 : decode mX4_countsOf.2.1 105 = .ok (.iinc 3 1, 3) := by decide +kernel
theorem dX4_countsOf_108 : decode mX4_countsOf.2.1 108 = .ok (.goto (-26), 3) := by decide +kernel
theorem dX4_countsOf_111 : decode mX4_countsOf.2.1 111 = .ok (.aload_n 0, 1) := by decide +kernel
theorem dX4_countsOf_112 : decode mX4_countsOf.2.1 112 = .ok (.getfield 15, 3) := by decide +kernel
theorem dX4_countsOf_115 : decode mX4_countsOf.2.1 115 = .ok (.areturn, 1) := by decide +kernel
def mX4_placeOne : String × ByteArray × Nat := (RX4, cX4_placeOne, 6)
theorem dX4_placeOne_0 : decode mX4_placeOne.2.1 0 = .ok (.aload_n 1, 1) := by decide +kernel
theorem dX4_placeOne_1 : decode mX4_placeOne.2.1 1 = .ok (.getfield 49, 3) := by decide +kernel
theorem dX4_placeOne_4 : decode mX4_placeOne.2.1 4 = .ok (.iload_n 2, 1) := by decide +kernel
theorem dX4_placeOne_5 : decode mX4_placeOne.2.1 5 = .ok (.iaload, 1) := by decide +kernel
theorem dX4_placeOne_6 : decode mX4_placeOne.2.1 6 = .ok (.iload_n 3, 1) := by decide +kernel
theorem dX4_placeOne_7 : decode mX4_placeOne.2.1 7 = .ok (.iconst (-1), 1) := by decide +kernel
theorem dX4_placeOne_8 : decode mX4_placeOne.2.1 8 = .ok (.ixor, 1) := by decide +kernel
theorem dX4_placeOne_9 : decode mX4_placeOne.2.1 9 = .ok (.iand, 1) := by decide +kernel
theorem dX4_placeOne_10 : decode mX4_placeOne.2.1 10 = .ok (.istore 4, 2) := by decide +kernel
theorem dX4_placeOne_12 : decode mX4_placeOne.2.1 12 = .ok (.iconst 0, 1) := by decide +kernel
theorem dX4_placeOne_13 : decode mX4_placeOne.2.1 13 = .ok (.istore 5, 2) := by decide +kernel
theorem dX4_placeOne_15 : decode mX4_placeOne.2.1 15 = .ok (.iload 5, 2) := by decide +kernel
theorem dX4_placeOne_17 : decode mX4_placeOne.2.1 17 = .ok (.aload_n 1, 1) := by decide +kernel
theorem dX4_placeOne_18 : decode mX4_placeOne.2.1 18 = .ok (.getfield 27, 3) := by decide +kernel
theorem dX4_placeOne_21 : decode mX4_placeOne.2.1 21 = .ok (.if_icmp .ge 39, 3) := by decide +kernel
theorem dX4_placeOne_24 : decode mX4_placeOne.2.1 24 = .ok (.iload 4, 2) := by decide +kernel
theorem dX4_placeOne_26 : decode mX4_placeOne.2.1 26 = .ok (.iload 5, 2) := by decide +kernel
theorem dX4_placeOne_28 : decode mX4_placeOne.2.1 28 = .ok (.ishr, 1) := by decide +kernel
theorem dX4_placeOne_29 : decode mX4_placeOne.2.1 29 = .ok (.iconst 1, 1) := by decide +kernel
theorem dX4_placeOne_30 : decode mX4_placeOne.2.1 30 = .ok (.iand, 1) := by decide +kernel
theorem dX4_placeOne_31 : decode mX4_placeOne.2.1 31 = .ok (.ifCond .eq 23, 3) := by decide +kernel
theorem dX4_placeOne_34 : decode mX4_placeOne.2.1 34 = .ok (.aload_n 0, 1) := by decide +kernel
theorem dX4_placeOne_35 : decode mX4_placeOne.2.1 35 = .ok (.getfield 11, 3) := by decide +kernel
theorem dX4_placeOne_38 : decode mX4_placeOne.2.1 38 = .ok (.iload_n 3, 1) := by decide +kernel
theorem dX4_placeOne_39 : decode mX4_placeOne.2.1 39 = .ok (.iconst 1, 1) := by decide +kernel
theorem dX4_placeOne_40 : decode mX4_placeOne.2.1 40 = .ok (.iload 5, 2) := by decide +kernel
theorem dX4_placeOne_42 : decode mX4_placeOne.2.1 42 = .ok (.ishl, 1) := by decide +kernel
theorem dX4_placeOne_43 : decode mX4_placeOne.2.1 43 = .ok (.ior, 1) := by decide +kernel
theorem dX4_placeOne_44 : decode mX4_placeOne.2.1 44 = .ok (.dup2, 1) := by decide +kernel
theorem dX4_placeOne_45 : decode mX4_placeOne.2.1 45 = .ok (.iaload, 1) := by decide +kernel
theorem dX4_placeOne_46 : decode mX4_placeOne.2.1 46 = .ok (.aload_n 0, 1) := by decide +kernel
theorem dX4_placeOne_47 : decode mX4_placeOne.2.1 47 = .ok (.getfield 11, 3) := by decide +kernel
theorem dX4_placeOne_50 : decode mX4_placeOne.2.1 50 = .ok (.iload_n 3, 1) := by decide +kernel
theorem dX4_placeOne_51 : decode mX4_placeOne.2.1 51 = .ok (.iaload, 1) := by decide +kernel
theorem dX4_placeOne_52 : decode mX4_placeOne.2.1 52 = .ok (.iadd, 1) := by decide +kernel
theorem dX4_placeOne_53 : decode mX4_placeOne.2.1 53 = .ok (.iastore, 1) := by decide +kernel
theorem dX4_placeOne_54 : decode mX4_placeOne.2.1 54 = .ok (.iinc 5 1, 3) := by decide +kernel
theorem dX4_placeOne_57 : decode mX4_placeOne.2.1 57 = .ok (.goto (-42), 3) := by decide +kernel
theorem dX4_placeOne_60 : decode mX4_placeOne.2.1 60 = .ok (.return_, 1) := by decide +kernel
def mX4_hitsOf : String × ByteArray × Nat := (RX4, cX4_hitsOf, 7)
theorem dX4_hitsOf_0 : decode mX4_hitsOf.2.1 0 = .ok (.aload_n 0, 1) := by decide +kernel
theorem dX4_hitsOf_1 : decode mX4_hitsOf.2.1 1 = .ok (.aload_n 1, 1) := by decide +kernel
theorem dX4_hitsOf_2 : decode mX4_hitsOf.2.1 2 = .ok (.invokevirtual 52, 3) := by decide +kernel
theorem dX4_hitsOf_5 : decode mX4_hitsOf.2.1 5 = .ok (.pop, 1) := by decide +kernel
theorem dX4_hitsOf_6 : decode mX4_hitsOf.2.1 6 = .ok (.iconst 0, 1) := by decide +kernel
theorem dX4_hitsOf_7 : decode mX4_hitsOf.2.1 7 = .ok (.istore_n 3, 1) := by decide +kernel
theorem dX4_hitsOf_8 : decode mX4_hitsOf.2.1 8 = .ok (.iconst 1, 1) := by decide +kernel
theorem dX4_hitsOf_9 : decode mX4_hitsOf.2.1 9 = .ok (.istore 4, 2) := by decide +kernel
theorem dX4_hitsOf_11 : decode mX4_hitsOf.2.1 11 = .ok (.iload_n 2, 1) := by decide +kernel
theorem dX4_hitsOf_12 : decode mX4_hitsOf.2.1 12 = .ok (.istore 5, 2) := by decide +kernel
theorem dX4_hitsOf_14 : decode mX4_hitsOf.2.1 14 = .ok (.iload 5, 2) := by decide +kernel
theorem dX4_hitsOf_16 : decode mX4_hitsOf.2.1 16 = .ok (.aload_n 1, 1) := by decide +kernel
theorem dX4_hitsOf_17 : decode mX4_hitsOf.2.1 17 = .ok (.getfield 27, 3) := by decide +kernel
theorem dX4_hitsOf_20 : decode mX4_hitsOf.2.1 20 = .ok (.if_icmp .gt 69, 3) := by decide +kernel
theorem dX4_hitsOf_23 : decode mX4_hitsOf.2.1 23 = .ok (.iload 4, 2) := by decide +kernel
theorem dX4_hitsOf_25 : decode mX4_hitsOf.2.1 25 = .ok (.aload_n 0, 1) := by decide +kernel
theorem dX4_hitsOf_26 : decode mX4_hitsOf.2.1 26 = .ok (.getfield 15, 3) := by decide +kernel
theorem dX4_hitsOf_29 : decode mX4_hitsOf.2.1 29 = .ok (.iload 5, 2) := by decide +kernel
theorem dX4_hitsOf_31 : decode mX4_hitsOf.2.1 31 = .ok (.iaload, 1) := by decide +kernel
theorem dX4_hitsOf_32 : decode mX4_hitsOf.2.1 32 = .ok (.imul, 1) := by decide +kernel
theorem dX4_hitsOf_33 : decode mX4_hitsOf.2.1 33 = .ok (.getstatic 56, 3) := by decide +kernel
theorem dX4_hitsOf_36 : decode mX4_hitsOf.2.1 36 = .ok (.aload_n 1, 1) := by decide +kernel
theorem dX4_hitsOf_37 : decode mX4_hitsOf.2.1 37 = .ok (.getfield 27, 3) := by decide +kernel
theorem dX4_hitsOf_40 : decode mX4_hitsOf.2.1 40 = .ok (.iload 5, 2) := by decide +kernel
theorem dX4_hitsOf_42 : decode mX4_hitsOf.2.1 42 = .ok (.isub, 1) := by decide +kernel
theorem dX4_hitsOf_43 : decode mX4_hitsOf.2.1 43 = .ok (.iaload, 1) := by decide +kernel
theorem dX4_hitsOf_44 : decode mX4_hitsOf.2.1 44 = .ok (.imul, 1) := by decide +kernel
theorem dX4_hitsOf_45 : decode mX4_hitsOf.2.1 45 = .ok (.istore 6, 2) := by decide +kernel
theorem dX4_hitsOf_47 : decode mX4_hitsOf.2.1 47 = .ok (.iload_n 3, 1) := by decide +kernel
theorem dX4_hitsOf_48 : decode mX4_hitsOf.2.1 48 = .ok (.iload 5, 2) := by decide +kernel
theorem dX4_hitsOf_50 : decode mX4_hitsOf.2.1 50 = .ok (.iload_n 2, 1) := by decide +kernel
theorem dX4_hitsOf_51 : decode mX4_hitsOf.2.1 51 = .ok (.isub, 1) := by decide +kernel
theorem dX4_hitsOf_52 : decode mX4_hitsOf.2.1 52 = .ok (.iconst 2, 1) := by decide +kernel
theorem dX4_hitsOf_53 : decode mX4_hitsOf.2.1 53 = .ok (.irem, 1) := by decide +kernel
theorem dX4_hitsOf_54 : decode mX4_hitsOf.2.1 54 = .ok (.ifCond .ne 8, 3) := by decide +kernel
theorem dX4_hitsOf_57 : decode mX4_hitsOf.2.1 57 = .ok (.iload 6, 2) := by decide +kernel
theorem dX4_hitsOf_59 : decode mX4_hitsOf.2.1 59 = .ok (.goto 6, 3) := by decide +kernel
theorem dX4_hitsOf_62 : decode mX4_hitsOf.2.1 62 = .ok (.iload 6, 2) := by decide +kernel
theorem dX4_hitsOf_64 : decode mX4_hitsOf.2.1 64 = .ok (.ineg, 1) := by decide +kernel
theorem dX4_hitsOf_65 : decode mX4_hitsOf.2.1 65 = .ok (.iadd, 1) := by decide +kernel
theorem dX4_hitsOf_66 : decode mX4_hitsOf.2.1 66 = .ok (.istore_n 3, 1) := by decide +kernel
theorem dX4_hitsOf_67 : decode mX4_hitsOf.2.1 67 = .ok (.iload 4, 2) := by decide +kernel
theorem dX4_hitsOf_69 : decode mX4_hitsOf.2.1 69 = .ok (.iload 5, 2) := by decide +kernel
theorem dX4_hitsOf_71 : decode mX4_hitsOf.2.1 71 = .ok (.iconst 1, 1) := by decide +kernel
theorem dX4_hitsOf_72 : decode mX4_hitsOf.2.1 72 = .ok (.iadd, 1) := by decide +kernel
theorem dX4_hitsOf_73 : decode mX4_hitsOf.2.1 73 = .ok (.imul, 1) := by decide +kernel
theorem dX4_hitsOf_74 : decode mX4_hitsOf.2.1 74 = .ok (.iload 5, 2) := by decide +kernel
theorem dX4_hitsOf_76 : decode mX4_hitsOf.2.1 76 = .ok (.iconst 1, 1) := by decide +kernel
theorem dX4_hitsOf_77 : decode mX4_hitsOf.2.1 77 = .ok (.iadd, 1) := by decide +kernel
theorem dX4_hitsOf_78 : decode mX4_hitsOf.2.1 78 = .ok (.iload_n 2, 1) := by decide +kernel
theorem dX4_hitsOf_79 : decode mX4_hitsOf.2.1 79 = .ok (.isub, 1) := by decide +kernel
theorem dX4_hitsOf_80 : decode mX4_hitsOf.2.1 80 = .ok (.idiv, 1) := by decide +kernel
theorem dX4_hitsOf_81 : decode mX4_hitsOf.2.1 81 = .ok (.istore 4, 2) := by decide +kernel
theorem dX4_hitsOf_83 : decode mX4_hitsOf.2.1 83 = .ok (.iinc 5 1, 3) := by decide +kernel
theorem dX4_hitsOf_86 : decode mX4_hitsOf.2.1 86 = .ok (.goto (-72), 3) := by decide +kernel
theorem dX4_hitsOf_89 : decode mX4_hitsOf.2.1 89 = .ok (.iload_n 3, 1) := by decide +kernel
theorem dX4_hitsOf_90 : decode mX4_hitsOf.2.1 90 = .ok (.ireturn, 1) := by decide +kernel
def mX4_weighCheapest : String × ByteArray × Nat := (RX4, cX4_weighCheapest, 8)
theorem dX4_weighCheapest_0 : decode mX4_weighCheapest.2.1 0 = .ok (.iconst 1, 1) := by decide +kernel
theorem dX4_weighCheapest_1 : decode mX4_weighCheapest.2.1 1 = .ok (.aload_n 1, 1) := by decide +kernel
theorem dX4_weighCheapest_2 : decode mX4_weighCheapest.2.1 2 = .ok (.getfield 27, 3) := by decide +kernel
theorem dX4_weighCheapest_5 : decode mX4_weighCheapest.2.1 5 = .ok (.ishl, 1) := by decide +kernel
theorem dX4_weighCheapest_6 : decode mX4_weighCheapest.2.1 6 = .ok (.istore 4, 2) := by decide +kernel
theorem dX4_weighCheapest_8 : decode mX4_weighCheapest.2.1 8 = .ok (.aload_n 1, 1) := by decide +kernel
theorem dX4_weighCheapest_9 : decode mX4_weighCheapest.2.1 9 = .ok (.getfield 27, 3) := by decide +kernel
theorem dX4_weighCheapest_12 : decode mX4_weighCheapest.2.1 12 = .ok (.bipush 64, 2) := by decide +kernel
theorem dX4_weighCheapest_14 : decode mX4_weighCheapest.2.1 14 = .ok (.imul, 1) := by decide +kernel
theorem dX4_weighCheapest_15 : decode mX4_weighCheapest.2.1 15 = .ok (.istore 5, 2) := by decide +kernel
theorem dX4_weighCheapest_17 : decode mX4_weighCheapest.2.1 17 = .ok (.iconst 0, 1) := by decide +kernel
theorem dX4_weighCheapest_18 : decode mX4_weighCheapest.2.1 18 = .ok (.istore 6, 2) := by decide +kernel
theorem dX4_weighCheapest_20 : decode mX4_weighCheapest.2.1 20 = .ok (.iload 6, 2) := by decide +kernel
theorem dX4_weighCheapest_22 : decode mX4_weighCheapest.2.1 22 = .ok (.iload 4, 2) := by decide +kernel
theorem dX4_weighCheapest_24 : decode mX4_weighCheapest.2.1 24 = .ok (.if_icmp .ge 35, 3) := by decide +kernel
theorem dX4_weighCheapest_27 : decode mX4_weighCheapest.2.1 27 = .ok (.aload_n 0, 1) := by decide +kernel
theorem dX4_weighCheapest_28 : decode mX4_weighCheapest.2.1 28 = .ok (.getfield 18, 3) := by decide +kernel
theorem dX4_weighCheapest_31 : decode mX4_weighCheapest.2.1 31 = .ok (.iload 5, 2) := by decide +kernel
theorem dX4_weighCheapest_33 : decode mX4_weighCheapest.2.1 33 = .ok (.iload 6, 2) := by decide +kernel
theorem dX4_weighCheapest_35 : decode mX4_weighCheapest.2.1 35 = .ok (.iadd, 1) := by decide +kernel
theorem dX4_weighCheapest_36 : decode mX4_weighCheapest.2.1 36 = .ok (.iload 6, 2) := by decide +kernel
theorem dX4_weighCheapest_38 : decode mX4_weighCheapest.2.1 38 = .ok (.invokestatic 43, 3) := by decide +kernel
theorem dX4_weighCheapest_41 : decode mX4_weighCheapest.2.1 41 = .ok (.iload_n 3, 1) := by decide +kernel
theorem dX4_weighCheapest_42 : decode mX4_weighCheapest.2.1 42 = .ok (.if_icmp .ne 7, 3) := by decide +kernel
theorem dX4_weighCheapest_45 : decode mX4_weighCheapest.2.1 45 = .ok (.iconst 0, 1) := by decide +kernel
theorem dX4_weighCheapest_46 : decode mX4_weighCheapest.2.1 46 = .ok (.goto 6, 3) := by decide +kernel
theorem dX4_weighCheapest_49 : decode mX4_weighCheapest.2.1 49 = .ok (.sipush 1000, 3) := by decide +kernel
theorem dX4_weighCheapest_52 : decode mX4_weighCheapest.2.1 52 = .ok (.iastore, 1) := by decide +kernel
theorem dX4_weighCheapest_53 : decode mX4_weighCheapest.2.1 53 = .ok (.iinc 6 1, 3) := by decide +kernel
theorem dX4_weighCheapest_56 : decode mX4_weighCheapest.2.1 56 = .ok (.goto (-36), 3) := by decide +kernel
theorem dX4_weighCheapest_59 : decode mX4_weighCheapest.2.1 59 = .ok (.aload_n 1, 1) := by decide +kernel
theorem dX4_weighCheapest_60 : decode mX4_weighCheapest.2.1 60 = .ok (.getfield 27, 3) := by decide +kernel
theorem dX4_weighCheapest_63 : decode mX4_weighCheapest.2.1 63 = .ok (.iconst 1, 1) := by decide +kernel
theorem dX4_weighCheapest_64 : decode mX4_weighCheapest.2.1 64 = .ok (.isub, 1) := by decide +kernel
theorem dX4_weighCheapest_65 : decode mX4_weighCheapest.2.1 65 = .ok (.istore 6, 2) := by decide +kernel
theorem dX4_weighCheapest_67 : decode mX4_weighCheapest.2.1 67 = .ok (.iload 6, 2) := by decide +kernel
theorem dX4_weighCheapest_69 : decode mX4_weighCheapest.2.1 69 = .ok (.ifCond .lt 48, 3) := by decide +kernel
theorem dX4_weighCheapest_72 : decode mX4_weighCheapest.2.1 72 = .ok (.iconst 0, 1) := by decide +kernel
theorem dX4_weighCheapest_73 : decode mX4_weighCheapest.2.1 73 = .ok (.istore 7, 2) := by decide +kernel
theorem dX4_weighCheapest_75 : decode mX4_weighCheapest.2.1 75 = .ok (.iload 7, 2) := by decide +kernel
theorem dX4_weighCheapest_77 : decode mX4_weighCheapest.2.1 77 = .ok (.iload 4, 2) := by decide +kernel
theorem dX4_weighCheapest_79 : decode mX4_weighCheapest.2.1 79 = .ok (.if_icmp .ge 32, 3) := by decide +kernel
theorem dX4_weighCheapest_82 : decode mX4_weighCheapest.2.1 82 = .ok (.aload_n 0, 1) := by decide +kernel
theorem dX4_weighCheapest_83 : decode mX4_weighCheapest.2.1 83 = .ok (.getfield 18, 3) := by decide +kernel
theorem dX4_weighCheapest_86 : decode mX4_weighCheapest.2.1 86 = .ok (.iload 6, 2) := by decide +kernel
theorem dX4_weighCheapest_88 : decode mX4_weighCheapest.2.1 88 = .ok (.bipush 64, 2) := by decide +kernel
theorem dX4_weighCheapest_90 : decode mX4_weighCheapest.2.1 90 = .ok (.imul, 1) := by decide +kernel
theorem dX4_weighCheapest_91 : decode mX4_weighCheapest.2.1 91 = .ok (.iload 7, 2) := by decide +kernel
theorem dX4_weighCheapest_93 : decode mX4_weighCheapest.2.1 93 = .ok (.iadd, 1) := by decide +kernel
theorem dX4_weighCheapest_94 : decode mX4_weighCheapest.2.1 94 = .ok (.aload_n 0, 1) := by decide +kernel
theorem dX4_weighCheapest_95 : decode mX4_weighCheapest.2.1 95 = .ok (.aload_n 1, 1) := by decide +kernel
theorem dX4_weighCheapest_96 : decode mX4_weighCheapest.2.1 96 = .ok (.aload_n 2, 1) := by decide +kernel
theorem dX4_weighCheapest_97 : decode mX4_weighCheapest.2.1 97 = .ok (.iload 6, 2) := by decide +kernel
theorem dX4_weighCheapest_99 : decode mX4_weighCheapest.2.1 99 = .ok (.iload 7, 2) := by decide +kernel
theorem dX4_weighCheapest_101 : decode mX4_weighCheapest.2.1 101 = .ok (.invokevirtual 59, 3) := by decide +kernel
theorem dX4_weighCheapest_104 : decode mX4_weighCheapest.2.1 104 = .ok (.iastore, 1) := by decide +kernel
theorem dX4_weighCheapest_105 : decode mX4_weighCheapest.2.1 105 = .ok (.iinc 7 1, 3) := by decide +kernel
theorem dX4_weighCheapest_108 : decode mX4_weighCheapest.2.1 108 = .ok (.goto (-33), 3) := by decide +kernel
theorem dX4_weighCheapest_111 : decode mX4_weighCheapest.2.1 111 = .ok (.iinc 6 (-1), 3) := by decide +kernel
theorem dX4_weighCheapest_114 : decode mX4_weighCheapest.2.1 114 = .ok (.goto (-47), 3) := by decide +kernel
theorem dX4_weighCheapest_117 : decode mX4_weighCheapest.2.1 117 = .ok (.aload_n 0, 1) := by decide +kernel
theorem dX4_weighCheapest_118 : decode mX4_weighCheapest.2.1 118 = .ok (.getfield 18, 3) := by decide +kernel
theorem dX4_weighCheapest_121 : decode mX4_weighCheapest.2.1 121 = .ok (.iconst 0, 1) := by decide +kernel
theorem dX4_weighCheapest_122 : decode mX4_weighCheapest.2.1 122 = .ok (.iaload, 1) := by decide +kernel
theorem dX4_weighCheapest_123 : decode mX4_weighCheapest.2.1 123 = .ok (.ireturn, 1) := by decide +kernel
def mX4_leastFrom : String × ByteArray × Nat := (RX4, cX4_leastFrom, 7)
theorem dX4_leastFrom_0 : decode mX4_leastFrom.2.1 0 = .ok (.aload_n 0, 1) := by decide +kernel
theorem dX4_leastFrom_1 : decode mX4_leastFrom.2.1 1 = .ok (.getfield 18, 3) := by decide +kernel
theorem dX4_leastFrom_4 : decode mX4_leastFrom.2.1 4 = .ok (.iload_n 3, 1) := by decide +kernel
theorem dX4_leastFrom_5 : decode mX4_leastFrom.2.1 5 = .ok (.iconst 1, 1) := by decide +kernel
theorem dX4_leastFrom_6 : decode mX4_leastFrom.2.1 6 = .ok (.iadd, 1) := by decide +kernel
theorem dX4_leastFrom_7 : decode mX4_leastFrom.2.1 7 = .ok (.bipush 64, 2) := by decide +kernel
theorem dX4_leastFrom_9 : decode mX4_leastFrom.2.1 9 = .ok (.imul, 1) := by decide +kernel
theorem dX4_leastFrom_10 : decode mX4_leastFrom.2.1 10 = .ok (.iload 4, 2) := by decide +kernel
theorem dX4_leastFrom_12 : decode mX4_leastFrom.2.1 12 = .ok (.iadd, 1) := by decide +kernel
theorem dX4_leastFrom_13 : decode mX4_leastFrom.2.1 13 = .ok (.iaload, 1) := by decide +kernel
theorem dX4_leastFrom_14 : decode mX4_leastFrom.2.1 14 = .ok (.istore 5, 2) := by decide +kernel
theorem dX4_leastFrom_16 : decode mX4_leastFrom.2.1 16 = .ok (.iconst 0, 1) := by decide +kernel
theorem dX4_leastFrom_17 : decode mX4_leastFrom.2.1 17 = .ok (.istore 6, 2) := by decide +kernel
theorem dX4_leastFrom_19 : decode mX4_leastFrom.2.1 19 = .ok (.iload 6, 2) := by decide +kernel
theorem dX4_leastFrom_21 : decode mX4_leastFrom.2.1 21 = .ok (.aload_n 1, 1) := by decide +kernel
theorem dX4_leastFrom_22 : decode mX4_leastFrom.2.1 22 = .ok (.getfield 27, 3) := by decide +kernel
theorem dX4_leastFrom_25 : decode mX4_leastFrom.2.1 25 = .ok (.if_icmp .ge 46, 3) := by decide +kernel
theorem dX4_leastFrom_28 : decode mX4_leastFrom.2.1 28 = .ok (.aload_n 1, 1) := by decide +kernel
theorem dX4_leastFrom_29 : decode mX4_leastFrom.2.1 29 = .ok (.iload_n 3, 1) := by decide +kernel
theorem dX4_leastFrom_30 : decode mX4_leastFrom.2.1 30 = .ok (.iload 6, 2) := by decide +kernel
theorem dX4_leastFrom_32 : decode mX4_leastFrom.2.1 32 = .ok (.invokevirtual 63, 3) := by decide +kernel
theorem dX4_leastFrom_35 : decode mX4_leastFrom.2.1 35 = .ok (.ifCond .eq 30, 3) := by decide +kernel
theorem dX4_leastFrom_38 : decode mX4_leastFrom.2.1 38 = .ok (.iload 4, 2) := by decide +kernel
theorem dX4_leastFrom_40 : decode mX4_leastFrom.2.1 40 = .ok (.iload 6, 2) := by decide +kernel
theorem dX4_leastFrom_42 : decode mX4_leastFrom.2.1 42 = .ok (.ishr, 1) := by decide +kernel
theorem dX4_leastFrom_43 : decode mX4_leastFrom.2.1 43 = .ok (.iconst 1, 1) := by decide +kernel
theorem dX4_leastFrom_44 : decode mX4_leastFrom.2.1 44 = .ok (.iand, 1) := by decide +kernel
theorem dX4_leastFrom_45 : decode mX4_leastFrom.2.1 45 = .ok (.ifCond .ne 20, 3) := by decide +kernel
theorem dX4_leastFrom_48 : decode mX4_leastFrom.2.1 48 = .ok (.iload 5, 2) := by decide +kernel
theorem dX4_leastFrom_50 : decode mX4_leastFrom.2.1 50 = .ok (.aload_n 0, 1) := by decide +kernel
theorem dX4_leastFrom_51 : decode mX4_leastFrom.2.1 51 = .ok (.aload_n 2, 1) := by decide +kernel
theorem dX4_leastFrom_52 : decode mX4_leastFrom.2.1 52 = .ok (.iload_n 3, 1) := by decide +kernel
theorem dX4_leastFrom_53 : decode mX4_leastFrom.2.1 53 = .ok (.iload 6, 2) := by decide +kernel
theorem dX4_leastFrom_55 : decode mX4_leastFrom.2.1 55 = .ok (.iload 4, 2) := by decide +kernel
theorem dX4_leastFrom_57 : decode mX4_leastFrom.2.1 57 = .ok (.invokevirtual 67, 3) := by decide +kernel
theorem dX4_leastFrom_60 : decode mX4_leastFrom.2.1 60 = .ok (.invokestatic 71, 3) := by decide +kernel
theorem dX4_leastFrom_63 : decode mX4_leastFrom.2.1 63 = .ok (.istore 5, 2) := by decide +kernel
theorem dX4_leastFrom_65 : decode mX4_leastFrom.2.1 65 = .ok (.iinc 6 1, 3) := by decide +kernel
theorem dX4_leastFrom_68 : decode mX4_leastFrom.2.1 68 = .ok (.goto (-49), 3) := by decide +kernel
theorem dX4_leastFrom_71 : decode mX4_leastFrom.2.1 71 = .ok (.iload 5, 2) := by decide +kernel
theorem dX4_leastFrom_73 : decode mX4_leastFrom.2.1 73 = .ok (.ireturn, 1) := by decide +kernel
def mX4_leastWith : String × ByteArray × Nat := (RX4, cX4_leastWith, 5)
theorem dX4_leastWith_0 : decode mX4_leastWith.2.1 0 = .ok (.aload_n 1, 1) := by decide +kernel
theorem dX4_leastWith_1 : decode mX4_leastWith.2.1 1 = .ok (.iload_n 2, 1) := by decide +kernel
theorem dX4_leastWith_2 : decode mX4_leastWith.2.1 2 = .ok (.bipush 6, 2) := by decide +kernel
theorem dX4_leastWith_4 : decode mX4_leastWith.2.1 4 = .ok (.imul, 1) := by decide +kernel
theorem dX4_leastWith_5 : decode mX4_leastWith.2.1 5 = .ok (.iload_n 3, 1) := by decide +kernel
theorem dX4_leastWith_6 : decode mX4_leastWith.2.1 6 = .ok (.iadd, 1) := by decide +kernel
theorem dX4_leastWith_7 : decode mX4_leastWith.2.1 7 = .ok (.iaload, 1) := by decide +kernel
theorem dX4_leastWith_8 : decode mX4_leastWith.2.1 8 = .ok (.aload_n 0, 1) := by decide +kernel
theorem dX4_leastWith_9 : decode mX4_leastWith.2.1 9 = .ok (.getfield 18, 3) := by decide +kernel
theorem dX4_leastWith_12 : decode mX4_leastWith.2.1 12 = .ok (.iload_n 2, 1) := by decide +kernel
theorem dX4_leastWith_13 : decode mX4_leastWith.2.1 13 = .ok (.iconst 1, 1) := by decide +kernel
theorem dX4_leastWith_14 : decode mX4_leastWith.2.1 14 = .ok (.iadd, 1) := by decide +kernel
theorem dX4_leastWith_15 : decode mX4_leastWith.2.1 15 = .ok (.bipush 64, 2) := by decide +kernel
theorem dX4_leastWith_17 : decode mX4_leastWith.2.1 17 = .ok (.imul, 1) := by decide +kernel
theorem dX4_leastWith_18 : decode mX4_leastWith.2.1 18 = .ok (.iload 4, 2) := by decide +kernel
theorem dX4_leastWith_20 : decode mX4_leastWith.2.1 20 = .ok (.iconst 1, 1) := by decide +kernel
theorem dX4_leastWith_21 : decode mX4_leastWith.2.1 21 = .ok (.iload_n 3, 1) := by decide +kernel
theorem dX4_leastWith_22 : decode mX4_leastWith.2.1 22 = .ok (.ishl, 1) := by decide +kernel
theorem dX4_leastWith_23 : decode mX4_leastWith.2.1 23 = .ok (.ior, 1) := by decide +kernel
theorem dX4_leastWith_24 : decode mX4_leastWith.2.1 24 = .ok (.iadd, 1) := by decide +kernel
theorem dX4_leastWith_25 : decode mX4_leastWith.2.1 25 = .ok (.iaload, 1) := by decide +kernel
theorem dX4_leastWith_26 : decode mX4_leastWith.2.1 26 = .ok (.iadd, 1) := by decide +kernel
theorem dX4_leastWith_27 : decode mX4_leastWith.2.1 27 = .ok (.ireturn, 1) := by decide +kernel
def mX4_cheapestColumn : String × ByteArray × Nat := (RX4, cX4_cheapestColumn, 7)
theorem dX4_cheapestColumn_0 : decode mX4_cheapestColumn.2.1 0 = .ok (.iconst 0, 1) := by decide +kernel
theorem dX4_cheapestColumn_1 : decode mX4_cheapestColumn.2.1 1 = .ok (.istore 4, 2) := by decide +kernel
theorem dX4_cheapestColumn_3 : decode mX4_cheapestColumn.2.1 3 = .ok (.iconst (-1), 1) := by decide +kernel
theorem dX4_cheapestColumn_4 : decode mX4_cheapestColumn.2.1 4 = .ok (.istore 5, 2) := by decide +kernel
theorem dX4_cheapestColumn_6 : decode mX4_cheapestColumn.2.1 6 = .ok (.iconst 0, 1) := by decide +kernel
theorem dX4_cheapestColumn_7 : decode mX4_cheapestColumn.2.1 7 = .ok (.istore 6, 2) := by decide +kernel
theorem dX4_cheapestColumn_9 : decode mX4_cheapestColumn.2.1 9 = .ok (.iload 6, 2) := by decide +kernel
theorem dX4_cheapestColumn_11 : decode mX4_cheapestColumn.2.1 11 = .ok (.iload_n 3, 1) := by decide +kernel
theorem dX4_cheapestColumn_12 : decode mX4_cheapestColumn.2.1 12 = .ok (.if_icmp .gt 48, 3) := by decide +kernel
theorem dX4_cheapestColumn_15 : decode mX4_cheapestColumn.2.1 15 = .ok (.iload 6, 2) := by decide +kernel
theorem dX4_cheapestColumn_17 : decode mX4_cheapestColumn.2.1 17 = .ok (.aload_n 1, 1) := by decide +kernel
theorem dX4_cheapestColumn_18 : decode mX4_cheapestColumn.2.1 18 = .ok (.getfield 27, 3) := by decide +kernel
theorem dX4_cheapestColumn_21 : decode mX4_cheapestColumn.2.1 21 = .ok (.if_icmp .ge 39, 3) := by decide +kernel
theorem dX4_cheapestColumn_24 : decode mX4_cheapestColumn.2.1 24 = .ok (.aload_n 0, 1) := by decide +kernel
theorem dX4_cheapestColumn_25 : decode mX4_cheapestColumn.2.1 25 = .ok (.aload_n 1, 1) := by decide +kernel
theorem dX4_cheapestColumn_26 : decode mX4_cheapestColumn.2.1 26 = .ok (.aload_n 2, 1) := by decide +kernel
theorem dX4_cheapestColumn_27 : decode mX4_cheapestColumn.2.1 27 = .ok (.iload 6, 2) := by decide +kernel
theorem dX4_cheapestColumn_29 : decode mX4_cheapestColumn.2.1 29 = .ok (.iload 4, 2) := by decide +kernel
theorem dX4_cheapestColumn_31 : decode mX4_cheapestColumn.2.1 31 = .ok (.invokevirtual 77, 3) := by decide +kernel
theorem dX4_cheapestColumn_34 : decode mX4_cheapestColumn.2.1 34 = .ok (.istore 5, 2) := by decide +kernel
theorem dX4_cheapestColumn_36 : decode mX4_cheapestColumn.2.1 36 = .ok (.iload 4, 2) := by decide +kernel
theorem dX4_cheapestColumn_38 : decode mX4_cheapestColumn.2.1 38 = .ok (.iload 5, 2) := by decide +kernel
theorem dX4_cheapestColumn_40 : decode mX4_cheapestColumn.2.1 40 = .ok (.ifCond .lt 10, 3) := by decide +kernel
theorem dX4_cheapestColumn_43 : decode mX4_cheapestColumn.2.1 43 = .ok (.iconst 1, 1) := by decide +kernel
theorem dX4_cheapestColumn_44 : decode mX4_cheapestColumn.2.1 44 = .ok (.iload 5, 2) := by decide +kernel
theorem dX4_cheapestColumn_46 : decode mX4_cheapestColumn.2.1 46 = .ok (.ishl, 1) := by decide +kernel
theorem dX4_cheapestColumn_47 : decode mX4_cheapestColumn.2.1 47 = .ok (.goto 4, 3) := by decide +kernel
theorem dX4_cheapestColumn_50 : decode mX4_cheapestColumn.2.1 50 = .ok (.iconst 0, 1) := by decide +kernel
theorem dX4_cheapestColumn_51 : decode mX4_cheapestColumn.2.1 51 = .ok (.ior, 1) := by decide +kernel
theorem dX4_cheapestColumn_52 : decode mX4_cheapestColumn.2.1 52 = .ok (.istore 4, 2) := by decide +kernel
theorem dX4_cheapestColumn_54 : decode mX4_cheapestColumn.2.1 54 = .ok (.iinc 6 1, 3) := by decide +kernel
theorem dX4_cheapestColumn_57 : decode mX4_cheapestColumn.2.1 57 = .ok (.goto (-48), 3) := by decide +kernel
theorem dX4_cheapestColumn_60 : decode mX4_cheapestColumn.2.1 60 = .ok (.iload 5, 2) := by decide +kernel
theorem dX4_cheapestColumn_62 : decode mX4_cheapestColumn.2.1 62 = .ok (.ireturn, 1) := by decide +kernel
def mX4_columnOfLeast : String × ByteArray × Nat := (RX4, cX4_columnOfLeast, 6)
theorem dX4_columnOfLeast_0 : decode mX4_columnOfLeast.2.1 0 = .ok (.iconst 0, 1) := by decide +kernel
theorem dX4_columnOfLeast_1 : decode mX4_columnOfLeast.2.1 1 = .ok (.istore 5, 2) := by decide +kernel
theorem dX4_columnOfLeast_3 : decode mX4_columnOfLeast.2.1 3 = .ok (.iload 5, 2) := by decide +kernel
theorem dX4_columnOfLeast_5 : decode mX4_columnOfLeast.2.1 5 = .ok (.aload_n 1, 1) := by decide +kernel
theorem dX4_columnOfLeast_6 : decode mX4_columnOfLeast.2.1 6 = .ok (.getfield 27, 3) := by decide +kernel
theorem dX4_columnOfLeast_9 : decode mX4_columnOfLeast.2.1 9 = .ok (.if_icmp .ge 57, 3) := by decide +kernel
theorem dX4_columnOfLeast_12 : decode mX4_columnOfLeast.2.1 12 = .ok (.aload_n 1, 1) := by decide +kernel
theorem dX4_columnOfLeast_13 : decode mX4_columnOfLeast.2.1 13 = .ok (.iload_n 3, 1) := by decide +kernel
theorem dX4_columnOfLeast_14 : decode mX4_columnOfLeast.2.1 14 = .ok (.iload 5, 2) := by decide +kernel
theorem dX4_columnOfLeast_16 : decode mX4_columnOfLeast.2.1 16 = .ok (.invokevirtual 63, 3) := by decide +kernel
theorem dX4_columnOfLeast_19 : decode mX4_columnOfLeast.2.1 19 = .ok (.ifCond .eq 41, 3) := by decide +kernel
theorem dX4_columnOfLeast_22 : decode mX4_columnOfLeast.2.1 22 = .ok (.iload 4, 2) := by decide +kernel
theorem dX4_columnOfLeast_24 : decode mX4_columnOfLeast.2.1 24 = .ok (.iload 5, 2) := by decide +kernel
theorem dX4_columnOfLeast_26 : decode mX4_columnOfLeast.2.1 26 = .ok (.ishr, 1) := by decide +kernel
theorem dX4_columnOfLeast_27 : decode mX4_columnOfLeast.2.1 27 = .ok (.iconst 1, 1) := by decide +kernel
theorem dX4_columnOfLeast_28 : decode mX4_columnOfLeast.2.1 28 = .ok (.iand, 1) := by decide +kernel
theorem dX4_columnOfLeast_29 : decode mX4_columnOfLeast.2.1 29 = .ok (.ifCond .ne 31, 3) := by decide +kernel
theorem dX4_columnOfLeast_32 : decode mX4_columnOfLeast.2.1 32 = .ok (.aload_n 0, 1) := by decide +kernel
theorem dX4_columnOfLeast_33 : decode mX4_columnOfLeast.2.1 33 = .ok (.aload_n 2, 1) := by decide +kernel
theorem dX4_columnOfLeast_34 : decode mX4_columnOfLeast.2.1 34 = .ok (.iload_n 3, 1) := by decide +kernel
theorem dX4_columnOfLeast_35 : decode mX4_columnOfLeast.2.1 35 = .ok (.iload 5, 2) := by decide +kernel
theorem dX4_columnOfLeast_37 : decode mX4_columnOfLeast.2.1 37 = .ok (.iload 4, 2) := by decide +kernel
theorem dX4_columnOfLeast_39 : decode mX4_columnOfLeast.2.1 39 = .ok (.invokevirtual 67, 3) := by decide +kernel
theorem dX4_columnOfLeast_42 : decode mX4_columnOfLeast.2.1 42 = .ok (.aload_n 0, 1) := by decide +kernel
theorem dX4_columnOfLeast_43 : decode mX4_columnOfLeast.2.1 43 = .ok (.getfield 18, 3) := by decide +kernel
theorem dX4_columnOfLeast_46 : decode mX4_columnOfLeast.2.1 46 = .ok (.iload_n 3, 1) := by decide +kernel
theorem dX4_columnOfLeast_47 : decode mX4_columnOfLeast.2.1 47 = .ok (.bipush 64, 2) := by decide +kernel
theorem dX4_columnOfLeast_49 : decode mX4_columnOfLeast.2.1 49 = .ok (.imul, 1) := by decide +kernel
theorem dX4_columnOfLeast_50 : decode mX4_columnOfLeast.2.1 50 = .ok (.iload 4, 2) := by decide +kernel
theorem dX4_columnOfLeast_52 : decode mX4_columnOfLeast.2.1 52 = .ok (.iadd, 1) := by decide +kernel
theorem dX4_columnOfLeast_53 : decode mX4_columnOfLeast.2.1 53 = .ok (.iaload, 1) := by decide +kernel
theorem dX4_columnOfLeast_54 : decode mX4_columnOfLeast.2.1 54 = .ok (.if_icmp .ne 6, 3) := by decide +kernel
theorem dX4_columnOfLeast_57 : decode mX4_columnOfLeast.2.1 57 = .ok (.iload 5, 2) := by decide +kernel
theorem dX4_columnOfLeast_59 : decode mX4_columnOfLeast.2.1 59 = .ok (.ireturn, 1) := by decide +kernel
theorem dX4_columnOfLeast_60 : decode mX4_columnOfLeast.2.1 60 = .ok (.iinc 5 1, 3) := by decide +kernel
theorem dX4_columnOfLeast_63 : decode mX4_columnOfLeast.2.1 63 = .ok (.goto (-60), 3) := by decide +kernel
theorem dX4_columnOfLeast_66 : decode mX4_columnOfLeast.2.1 66 = .ok (.iconst (-1), 1) := by decide +kernel
theorem dX4_columnOfLeast_67 : decode mX4_columnOfLeast.2.1 67 = .ok (.ireturn, 1) := by decide +kernel
def mX4_listedStand : String × ByteArray × Nat := (RX4, cX4_listedStand, 9)
theorem dX4_listedStand_0 : decode mX4_listedStand.2.1 0 = .ok (.aload_n 0, 1) := by decide +kernel
theorem dX4_listedStand_1 : decode mX4_listedStand.2.1 1 = .ok (.aload_n 1, 1) := by decide +kernel
theorem dX4_listedStand_2 : decode mX4_listedStand.2.1 2 = .ok (.aload_n 2, 1) := by decide +kernel
theorem dX4_listedStand_3 : decode mX4_listedStand.2.1 3 = .ok (.iload_n 3, 1) := by decide +kernel
theorem dX4_listedStand_4 : decode mX4_listedStand.2.1 4 = .ok (.invokevirtual 80, 3) := by decide +kernel
theorem dX4_listedStand_7 : decode mX4_listedStand.2.1 7 = .ok (.istore 5, 2) := by decide +kernel
theorem dX4_listedStand_9 : decode mX4_listedStand.2.1 9 = .ok (.iload 4, 2) := by decide +kernel
theorem dX4_listedStand_11 : decode mX4_listedStand.2.1 11 = .ok (.istore 6, 2) := by decide +kernel
theorem dX4_listedStand_13 : decode mX4_listedStand.2.1 13 = .ok (.iconst 0, 1) := by decide +kernel
theorem dX4_listedStand_14 : decode mX4_listedStand.2.1 14 = .ok (.istore 7, 2) := by decide +kernel
theorem dX4_listedStand_16 : decode mX4_listedStand.2.1 16 = .ok (.iload 7, 2) := by decide +kernel
theorem dX4_listedStand_18 : decode mX4_listedStand.2.1 18 = .ok (.aload_n 0, 1) := by decide +kernel
theorem dX4_listedStand_19 : decode mX4_listedStand.2.1 19 = .ok (.getfield 24, 3) := by decide +kernel
theorem dX4_listedStand_22 : decode mX4_listedStand.2.1 22 = .ok (.arraylength, 1) := by decide +kernel
theorem dX4_listedStand_23 : decode mX4_listedStand.2.1 23 = .ok (.if_icmp .ge 33, 3) := by decide +kernel
theorem dX4_listedStand_26 : decode mX4_listedStand.2.1 26 = .ok (.iload 6, 2) := by decide +kernel
theorem dX4_listedStand_28 : decode mX4_listedStand.2.1 28 = .ok (.aload_n 0, 1) := by decide +kernel
theorem dX4_listedStand_29 : decode mX4_listedStand.2.1 29 = .ok (.getfield 24, 3) := by decide +kernel
theorem dX4_listedStand_32 : decode mX4_listedStand.2.1 32 = .ok (.iload 7, 2) := by decide +kernel
theorem dX4_listedStand_34 : decode mX4_listedStand.2.1 34 = .ok (.iaload, 1) := by decide +kernel
theorem dX4_listedStand_35 : decode mX4_listedStand.2.1 35 = .ok (.if_icmp .lt 21, 3) := by decide +kernel
theorem dX4_listedStand_38 : decode mX4_listedStand.2.1 38 = .ok (.iload 6, 2) := by decide +kernel
theorem dX4_listedStand_40 : decode mX4_listedStand.2.1 40 = .ok (.aload_n 0, 1) := by decide +kernel
theorem dX4_listedStand_41 : decode mX4_listedStand.2.1 41 = .ok (.getfield 24, 3) := by decide +kernel
theorem dX4_listedStand_44 : decode mX4_listedStand.2.1 44 = .ok (.iload 7, 2) := by decide +kernel
theorem dX4_listedStand_46 : decode mX4_listedStand.2.1 46 = .ok (.iaload, 1) := by decide +kernel
theorem dX4_listedStand_47 : decode mX4_listedStand.2.1 47 = .ok (.isub, 1) := by decide +kernel
theorem dX4_listedStand_48 : decode mX4_listedStand.2.1 48 = .ok (.istore 6, 2) := by decide +kernel
theorem dX4_listedStand_50 : decode mX4_listedStand.2.1 50 = .ok (.iinc 7 1, 3) := by decide +kernel
theorem dX4_listedStand_53 : decode mX4_listedStand.2.1 53 = .ok (.goto (-37), 3) := by decide +kernel
theorem dX4_listedStand_56 : decode mX4_listedStand.2.1 56 = .ok (.iload 7, 2) := by decide +kernel
theorem dX4_listedStand_58 : decode mX4_listedStand.2.1 58 = .ok (.aload_n 0, 1) := by decide +kernel
theorem dX4_listedStand_59 : decode mX4_listedStand.2.1 59 = .ok (.getfield 24, 3) := by decide +kernel
theorem dX4_listedStand_62 : decode mX4_listedStand.2.1 62 = .ok (.arraylength, 1) := by decide +kernel
theorem dX4_listedStand_63 : decode mX4_listedStand.2.1 63 = .ok (.if_icmp .lt 5, 3) := by decide +kernel
theorem dX4_listedStand_66 : decode mX4_listedStand.2.1 66 = .ok (.iconst (-1), 1) := by decide +kernel
theorem dX4_listedStand_67 : decode mX4_listedStand.2.1 67 = .ok (.ireturn, 1) := by decide +kernel
theorem dX4_listedStand_68 : decode mX4_listedStand.2.1 68 = .ok (.iconst 0, 1) := by decide +kernel
theorem dX4_listedStand_69 : decode mX4_listedStand.2.1 69 = .ok (.istore 8, 2) := by decide +kernel
theorem dX4_listedStand_71 : decode mX4_listedStand.2.1 71 = .ok (.iload 8, 2) := by decide +kernel
theorem dX4_listedStand_73 : decode mX4_listedStand.2.1 73 = .ok (.iload 5, 2) := by decide +kernel
theorem dX4_listedStand_75 : decode mX4_listedStand.2.1 75 = .ok (.if_icmp .ge 32, 3) := by decide +kernel
theorem dX4_listedStand_78 : decode mX4_listedStand.2.1 78 = .ok (.aload_n 0, 1) := by decide +kernel
theorem dX4_listedStand_79 : decode mX4_listedStand.2.1 79 = .ok (.getfield 21, 3) := by decide +kernel
theorem dX4_listedStand_82 : decode mX4_listedStand.2.1 82 = .ok (.iload 8, 2) := by decide +kernel
theorem dX4_listedStand_84 : decode mX4_listedStand.2.1 84 = .ok (.iaload, 1) := by decide +kernel
theorem dX4_listedStand_85 : decode mX4_listedStand.2.1 85 = .ok (.iload 7, 2) := by decide +kernel
theorem dX4_listedStand_87 : decode mX4_listedStand.2.1 87 = .ok (.if_icmp .ne 14, 3) := by decide +kernel
theorem dX4_listedStand_90 : decode mX4_listedStand.2.1 90 = .ok (.iload 6, 2) := by decide +kernel
theorem dX4_listedStand_92 : decode mX4_listedStand.2.1 92 = .ok (.ifCond .ne 6, 3) := by decide +kernel
theorem dX4_listedStand_95 : decode mX4_listedStand.2.1 95 = .ok (.iload 8, 2) := by decide +kernel
theorem dX4_listedStand_97 : decode mX4_listedStand.2.1 97 = .ok (.ireturn, 1) := by decide +kernel
theorem dX4_listedStand_98 : decode mX4_listedStand.2.1 98 = .ok (.iinc 6 (-1), 3) := by decide +kernel
theorem dX4_listedStand_101 : decode mX4_listedStand.2.1 101 = .ok (.iinc 8 1, 3) := by decide +kernel
theorem dX4_listedStand_104 : decode mX4_listedStand.2.1 104 = .ok (.goto (-33), 3) := by decide +kernel
theorem dX4_listedStand_107 : decode mX4_listedStand.2.1 107 = .ok (.iconst (-1), 1) := by decide +kernel
theorem dX4_listedStand_108 : decode mX4_listedStand.2.1 108 = .ok (.ireturn, 1) := by decide +kernel
def mX4_listedWeight : String × ByteArray × Nat := (RX4, cX4_listedWeight, 2)
theorem dX4_listedWeight_0 : decode mX4_listedWeight.2.1 0 = .ok (.iload_n 1, 1) := by decide +kernel
theorem dX4_listedWeight_1 : decode mX4_listedWeight.2.1 1 = .ok (.ifCond .lt 19, 3) := by decide +kernel
theorem dX4_listedWeight_4 : decode mX4_listedWeight.2.1 4 = .ok (.iload_n 1, 1) := by decide +kernel
theorem dX4_listedWeight_5 : decode mX4_listedWeight.2.1 5 = .ok (.sipush 625, 3) := by decide +kernel
theorem dX4_listedWeight_8 : decode mX4_listedWeight.2.1 8 = .ok (.if_icmp .ge 12, 3) := by decide +kernel
theorem dX4_listedWeight_11 : decode mX4_listedWeight.2.1 11 = .ok (.aload_n 0, 1) := by decide +kernel
theorem dX4_listedWeight_12 : decode mX4_listedWeight.2.1 12 = .ok (.getfield 21, 3) := by decide +kernel
theorem dX4_listedWeight_15 : decode mX4_listedWeight.2.1 15 = .ok (.iload_n 1, 1) := by decide +kernel
theorem dX4_listedWeight_16 : decode mX4_listedWeight.2.1 16 = .ok (.iaload, 1) := by decide +kernel
theorem dX4_listedWeight_17 : decode mX4_listedWeight.2.1 17 = .ok (.goto 4, 3) := by decide +kernel
theorem dX4_listedWeight_20 : decode mX4_listedWeight.2.1 20 = .ok (.iconst (-1), 1) := by decide +kernel
theorem dX4_listedWeight_21 : decode mX4_listedWeight.2.1 21 = .ok (.ireturn, 1) := by decide +kernel
def mX4_weighStands : String × ByteArray × Nat := (RX4, cX4_weighStands, 7)
theorem dX4_weighStands_0 : decode mX4_weighStands.2.1 0 = .ok (.iconst 1, 1) := by decide +kernel
theorem dX4_weighStands_1 : decode mX4_weighStands.2.1 1 = .ok (.istore 4, 2) := by decide +kernel
theorem dX4_weighStands_3 : decode mX4_weighStands.2.1 3 = .ok (.iconst 0, 1) := by decide +kernel
theorem dX4_weighStands_4 : decode mX4_weighStands.2.1 4 = .ok (.istore 5, 2) := by decide +kernel
theorem dX4_weighStands_6 : decode mX4_weighStands.2.1 6 = .ok (.iload 5, 2) := by decide +kernel
theorem dX4_weighStands_8 : decode mX4_weighStands.2.1 8 = .ok (.aload_n 1, 1) := by decide +kernel
theorem dX4_weighStands_9 : decode mX4_weighStands.2.1 9 = .ok (.getfield 27, 3) := by decide +kernel
theorem dX4_weighStands_12 : decode mX4_weighStands.2.1 12 = .ok (.if_icmp .ge 26, 3) := by decide +kernel
theorem dX4_weighStands_15 : decode mX4_weighStands.2.1 15 = .ok (.iload 5, 2) := by decide +kernel
theorem dX4_weighStands_17 : decode mX4_weighStands.2.1 17 = .ok (.iconst 4, 1) := by decide +kernel
theorem dX4_weighStands_18 : decode mX4_weighStands.2.1 18 = .ok (.if_icmp .ge 20, 3) := by decide +kernel
theorem dX4_weighStands_21 : decode mX4_weighStands.2.1 21 = .ok (.iload 4, 2) := by decide +kernel
theorem dX4_weighStands_23 : decode mX4_weighStands.2.1 23 = .ok (.aload_n 1, 1) := by decide +kernel
theorem dX4_weighStands_24 : decode mX4_weighStands.2.1 24 = .ok (.getfield 27, 3) := by decide +kernel
theorem dX4_weighStands_27 : decode mX4_weighStands.2.1 27 = .ok (.iconst 1, 1) := by decide +kernel
theorem dX4_weighStands_28 : decode mX4_weighStands.2.1 28 = .ok (.iadd, 1) := by decide +kernel
theorem dX4_weighStands_29 : decode mX4_weighStands.2.1 29 = .ok (.imul, 1) := by decide +kernel
theorem dX4_weighStands_30 : decode mX4_weighStands.2.1 30 = .ok (.istore 4, 2) := by decide +kernel
theorem dX4_weighStands_32 : decode mX4_weighStands.2.1 32 = .ok (.iinc 5 1, 3) := by decide +kernel
theorem dX4_weighStands_35 : decode mX4_weighStands.2.1 35 = .ok (.goto (-29), 3) := by decide +kernel
theorem dX4_weighStands_38 : decode mX4_weighStands.2.1 38 = .ok (.aload_n 0, 1) := by decide +kernel
theorem dX4_weighStands_39 : decode mX4_weighStands.2.1 39 = .ok (.getfield 24, 3) := by decide +kernel
theorem dX4_weighStands_42 : decode mX4_weighStands.2.1 42 = .ok (.iconst 0, 1) := by decide +kernel
theorem dX4_weighStands_43 : decode mX4_weighStands.2.1 43 = .ok (.invokestatic 33, 3) := by decide +kernel
theorem dX4_weighStands_46 : decode mX4_weighStands.2.1 46 = .ok (.iconst 0, 1) := by decide +kernel
theorem dX4_weighStands_47 : decode mX4_weighStands.2.1 47 = .ok (.istore 5, 2) := by decide +kernel
theorem dX4_weighStands_49 : decode mX4_weighStands.2.1 49 = .ok (.iload 5, 2) := by decide +kernel
theorem dX4_weighStands_51 : decode mX4_weighStands.2.1 51 = .ok (.iload 4, 2) := by decide +kernel
theorem dX4_weighStands_53 : decode mX4_weighStands.2.1 53 = .ok (.if_icmp .ge 44, 3) := by decide +kernel
theorem dX4_weighStands_56 : decode mX4_weighStands.2.1 56 = .ok (.aload_n 1, 1) := by decide +kernel
theorem dX4_weighStands_57 : decode mX4_weighStands.2.1 57 = .ok (.aload_n 2, 1) := by decide +kernel
theorem dX4_weighStands_58 : decode mX4_weighStands.2.1 58 = .ok (.iload 5, 2) := by decide +kernel
theorem dX4_weighStands_60 : decode mX4_weighStands.2.1 60 = .ok (.iload_n 3, 1) := by decide +kernel
theorem dX4_weighStands_61 : decode mX4_weighStands.2.1 61 = .ok (.invokestatic 84, 3) := by decide +kernel
theorem dX4_weighStands_64 : decode mX4_weighStands.2.1 64 = .ok (.istore 6, 2) := by decide +kernel
theorem dX4_weighStands_66 : decode mX4_weighStands.2.1 66 = .ok (.aload_n 0, 1) := by decide +kernel
theorem dX4_weighStands_67 : decode mX4_weighStands.2.1 67 = .ok (.getfield 21, 3) := by decide +kernel
theorem dX4_weighStands_70 : decode mX4_weighStands.2.1 70 = .ok (.iload 5, 2) := by decide +kernel
theorem dX4_weighStands_72 : decode mX4_weighStands.2.1 72 = .ok (.iload 6, 2) := by decide +kernel
theorem dX4_weighStands_74 : decode mX4_weighStands.2.1 74 = .ok (.iastore, 1) := by decide +kernel
theorem dX4_weighStands_75 : decode mX4_weighStands.2.1 75 = .ok (.iload 6, 2) := by decide +kernel
theorem dX4_weighStands_77 : decode mX4_weighStands.2.1 77 = .ok (.ifCond .lt 14, 3) := by decide +kernel
theorem dX4_weighStands_80 : decode mX4_weighStands.2.1 80 = .ok (.aload_n 0, 1) := by decide +kernel
theorem dX4_weighStands_81 : decode mX4_weighStands.2.1 81 = .ok (.getfield 24, 3) := by decide +kernel
theorem dX4_weighStands_84 : decode mX4_weighStands.2.1 84 = .ok (.iload 6, 2) := by decide +kernel
theorem dX4_weighStands_86 : decode mX4_weighStands.2.1 86 = .ok (.dup2, 1) := by decide +kernel
theorem dX4_weighStands_87 : decode mX4_weighStands.2.1 87 = .ok (.iaload, 1) := by decide +kernel
theorem dX4_weighStands_88 : decode mX4_weighStands.2.1 88 = .ok (.iconst 1, 1) := by decide +kernel
theorem dX4_weighStands_89 : decode mX4_weighStands.2.1 89 = .ok (.iadd, 1) := by decide +kernel
theorem dX4_weighStands_90 : decode mX4_weighStands.2.1 90 = .ok (.iastore, 1) := by decide +kernel
theorem dX4_weighStands_91 : decode mX4_weighStands.2.1 91 = .ok (.iinc 5 1, 3) := by decide +kernel
theorem dX4_weighStands_94 : decode mX4_weighStands.2.1 94 = .ok (.goto (-45), 3) := by decide +kernel
theorem dX4_weighStands_97 : decode mX4_weighStands.2.1 97 = .ok (.iload 4, 2) := by decide +kernel
theorem dX4_weighStands_99 : decode mX4_weighStands.2.1 99 = .ok (.ireturn, 1) := by decide +kernel
def mX4_weightOfStand : String × ByteArray × Nat := (RX4, cX4_weightOfStand, 9)
theorem dX4_weightOfStand_0 : decode mX4_weightOfStand.2.1 0 = .ok (.iload_n 2, 1) := by decide +kernel
theorem dX4_weightOfStand_1 : decode mX4_weightOfStand.2.1 1 = .ok (.istore 4, 2) := by decide +kernel
theorem dX4_weightOfStand_3 : decode mX4_weightOfStand.2.1 3 = .ok (.iconst 0, 1) := by decide +kernel
theorem dX4_weightOfStand_4 : decode mX4_weightOfStand.2.1 4 = .ok (.istore 5, 2) := by decide +kernel
theorem dX4_weightOfStand_6 : decode mX4_weightOfStand.2.1 6 = .ok (.iconst 0, 1) := by decide +kernel
theorem dX4_weightOfStand_7 : decode mX4_weightOfStand.2.1 7 = .ok (.istore 6, 2) := by decide +kernel
theorem dX4_weightOfStand_9 : decode mX4_weightOfStand.2.1 9 = .ok (.aload_n 0, 1) := by decide +kernel
theorem dX4_weightOfStand_10 : decode mX4_weightOfStand.2.1 10 = .ok (.getfield 27, 3) := by decide +kernel
theorem dX4_weightOfStand_13 : decode mX4_weightOfStand.2.1 13 = .ok (.iconst 1, 1) := by decide +kernel
theorem dX4_weightOfStand_14 : decode mX4_weightOfStand.2.1 14 = .ok (.isub, 1) := by decide +kernel
theorem dX4_weightOfStand_15 : decode mX4_weightOfStand.2.1 15 = .ok (.istore 7, 2) := by decide +kernel
theorem dX4_weightOfStand_17 : decode mX4_weightOfStand.2.1 17 = .ok (.iload 7, 2) := by decide +kernel
theorem dX4_weightOfStand_19 : decode mX4_weightOfStand.2.1 19 = .ok (.ifCond .lt 90, 3) := by decide +kernel
theorem dX4_weightOfStand_22 : decode mX4_weightOfStand.2.1 22 = .ok (.iload 4, 2) := by decide +kernel
theorem dX4_weightOfStand_24 : decode mX4_weightOfStand.2.1 24 = .ok (.aload_n 0, 1) := by decide +kernel
theorem dX4_weightOfStand_25 : decode mX4_weightOfStand.2.1 25 = .ok (.getfield 27, 3) := by decide +kernel
theorem dX4_weightOfStand_28 : decode mX4_weightOfStand.2.1 28 = .ok (.iconst 1, 1) := by decide +kernel
theorem dX4_weightOfStand_29 : decode mX4_weightOfStand.2.1 29 = .ok (.iadd, 1) := by decide +kernel
theorem dX4_weightOfStand_30 : decode mX4_weightOfStand.2.1 30 = .ok (.irem, 1) := by decide +kernel
theorem dX4_weightOfStand_31 : decode mX4_weightOfStand.2.1 31 = .ok (.istore 8, 2) := by decide +kernel
theorem dX4_weightOfStand_33 : decode mX4_weightOfStand.2.1 33 = .ok (.iload 4, 2) := by decide +kernel
theorem dX4_weightOfStand_35 : decode mX4_weightOfStand.2.1 35 = .ok (.aload_n 0, 1) := by decide +kernel
theorem dX4_weightOfStand_36 : decode mX4_weightOfStand.2.1 36 = .ok (.getfield 27, 3) := by decide +kernel
theorem dX4_weightOfStand_39 : decode mX4_weightOfStand.2.1 39 = .ok (.iconst 1, 1) := by decide +kernel
theorem dX4_weightOfStand_40 : decode mX4_weightOfStand.2.1 40 = .ok (.iadd, 1) := by decide +kernel
theorem dX4_weightOfStand_41 : decode mX4_weightOfStand.2.1 41 = .ok (.idiv, 1) := by decide +kernel
theorem dX4_weightOfStand_42 : decode mX4_weightOfStand.2.1 42 = .ok (.istore 4, 2) := by decide +kernel
theorem dX4_weightOfStand_44 : decode mX4_weightOfStand.2.1 44 = .ok (.iload 8, 2) := by decide +kernel
theorem dX4_weightOfStand_46 : decode mX4_weightOfStand.2.1 46 = .ok (.aload_n 0, 1) := by decide +kernel
theorem dX4_weightOfStand_47 : decode mX4_weightOfStand.2.1 47 = .ok (.getfield 27, 3) := by decide +kernel
theorem dX4_weightOfStand_50 : decode mX4_weightOfStand.2.1 50 = .ok (.if_icmp .ne 6, 3) := by decide +kernel
theorem dX4_weightOfStand_53 : decode mX4_weightOfStand.2.1 53 = .ok (.goto 50, 3) := by decide +kernel
theorem dX4_weightOfStand_56 : decode mX4_weightOfStand.2.1 56 = .ok (.aload_n 0, 1) := by decide +kernel
theorem dX4_weightOfStand_57 : decode mX4_weightOfStand.2.1 57 = .ok (.iload 7, 2) := by decide +kernel
theorem dX4_weightOfStand_59 : decode mX4_weightOfStand.2.1 59 = .ok (.iload 8, 2) := by decide +kernel
theorem dX4_weightOfStand_61 : decode mX4_weightOfStand.2.1 61 = .ok (.invokevirtual 63, 3) := by decide +kernel
theorem dX4_weightOfStand_64 : decode mX4_weightOfStand.2.1 64 = .ok (.ifCond .eq 13, 3) := by decide +kernel
theorem dX4_weightOfStand_67 : decode mX4_weightOfStand.2.1 67 = .ok (.iload 5, 2) := by decide +kernel
theorem dX4_weightOfStand_69 : decode mX4_weightOfStand.2.1 69 = .ok (.iload 8, 2) := by decide +kernel
theorem dX4_weightOfStand_71 : decode mX4_weightOfStand.2.1 71 = .ok (.ishr, 1) := by decide +kernel
theorem dX4_weightOfStand_72 : decode mX4_weightOfStand.2.1 72 = .ok (.iconst 1, 1) := by decide +kernel
theorem dX4_weightOfStand_73 : decode mX4_weightOfStand.2.1 73 = .ok (.iand, 1) := by decide +kernel
theorem dX4_weightOfStand_74 : decode mX4_weightOfStand.2.1 74 = .ok (.ifCond .eq 5, 3) := by decide +kernel
theorem dX4_weightOfStand_77 : decode mX4_weightOfStand.2.1 77 = .ok (.iconst (-1), 1) := by decide +kernel
theorem dX4_weightOfStand_78 : decode mX4_weightOfStand.2.1 78 = .ok (.ireturn, 1) := by decide +kernel
theorem dX4_weightOfStand_79 : decode mX4_weightOfStand.2.1 79 = .ok (.iload 5, 2) := by decide +kernel
theorem dX4_weightOfStand_81 : decode mX4_weightOfStand.2.1 81 = .ok (.iconst 1, 1) := by decide +kernel
theorem dX4_weightOfStand_82 : decode mX4_weightOfStand.2.1 82 = .ok (.iload 8, 2) := by decide +kernel
theorem dX4_weightOfStand_84 : decode mX4_weightOfStand.2.1 84 = .ok (.ishl, 1) := by decide +kernel
theorem dX4_weightOfStand_85 : decode mX4_weightOfStand.2.1 85 = .ok (.ior, 1) := by decide +kernel
theorem dX4_weightOfStand_86 : decode mX4_weightOfStand.2.1 86 = .ok (.istore 5, 2) := by decide +kernel
theorem dX4_weightOfStand_88 : decode mX4_weightOfStand.2.1 88 = .ok (.iload 6, 2) := by decide +kernel
theorem dX4_weightOfStand_90 : decode mX4_weightOfStand.2.1 90 = .ok (.aload_n 1, 1) := by decide +kernel
theorem dX4_weightOfStand_91 : decode mX4_weightOfStand.2.1 91 = .ok (.iload 7, 2) := by decide +kernel
theorem dX4_weightOfStand_93 : decode mX4_weightOfStand.2.1 93 = .ok (.bipush 6, 2) := by decide +kernel
theorem dX4_weightOfStand_95 : decode mX4_weightOfStand.2.1 95 = .ok (.imul, 1) := by decide +kernel
theorem dX4_weightOfStand_96 : decode mX4_weightOfStand.2.1 96 = .ok (.iload 8, 2) := by decide +kernel
theorem dX4_weightOfStand_98 : decode mX4_weightOfStand.2.1 98 = .ok (.iadd, 1) := by decide +kernel
theorem dX4_weightOfStand_99 : decode mX4_weightOfStand.2.1 99 = .ok (.iaload, 1) := by decide +kernel
theorem dX4_weightOfStand_100 : decode mX4_weightOfStand.2.1 100 = .ok (.iadd, 1) := by decide +kernel
theorem dX4_weightOfStand_101 : decode mX4_weightOfStand.2.1 101 = .ok (.istore 6, 2) := by decide +kernel
theorem dX4_weightOfStand_103 : decode mX4_weightOfStand.2.1 103 = .ok (.iinc 7 (-1), 3) := by decide +kernel
theorem dX4_weightOfStand_106 : decode mX4_weightOfStand.2.1 106 = .ok (.goto (-89), 3) := by decide +kernel
theorem dX4_weightOfStand_109 : decode mX4_weightOfStand.2.1 109 = .ok (.iload 5, 2) := by decide +kernel
theorem dX4_weightOfStand_111 : decode mX4_weightOfStand.2.1 111 = .ok (.invokestatic 43, 3) := by decide +kernel
theorem dX4_weightOfStand_114 : decode mX4_weightOfStand.2.1 114 = .ok (.iload_n 3, 1) := by decide +kernel
theorem dX4_weightOfStand_115 : decode mX4_weightOfStand.2.1 115 = .ok (.if_icmp .ne 8, 3) := by decide +kernel
theorem dX4_weightOfStand_118 : decode mX4_weightOfStand.2.1 118 = .ok (.iload 6, 2) := by decide +kernel
theorem dX4_weightOfStand_120 : decode mX4_weightOfStand.2.1 120 = .ok (.goto 4, 3) := by decide +kernel
theorem dX4_weightOfStand_123 : decode mX4_weightOfStand.2.1 123 = .ok (.iconst (-1), 1) := by decide +kernel
theorem dX4_weightOfStand_124 : decode mX4_weightOfStand.2.1 124 = .ok (.ireturn, 1) := by decide +kernel
def mX4_columnInStand : String × ByteArray × Nat := (RX4, cX4_columnInStand, 5)
theorem dX4_columnInStand_0 : decode mX4_columnInStand.2.1 0 = .ok (.iload_n 0, 1) := by decide +kernel
theorem dX4_columnInStand_1 : decode mX4_columnInStand.2.1 1 = .ok (.istore_n 3, 1) := by decide +kernel
theorem dX4_columnInStand_2 : decode mX4_columnInStand.2.1 2 = .ok (.iload_n 1, 1) := by decide +kernel
theorem dX4_columnInStand_3 : decode mX4_columnInStand.2.1 3 = .ok (.iconst 1, 1) := by decide +kernel
theorem dX4_columnInStand_4 : decode mX4_columnInStand.2.1 4 = .ok (.isub, 1) := by decide +kernel
theorem dX4_columnInStand_5 : decode mX4_columnInStand.2.1 5 = .ok (.istore 4, 2) := by decide +kernel
theorem dX4_columnInStand_7 : decode mX4_columnInStand.2.1 7 = .ok (.iload 4, 2) := by decide +kernel
theorem dX4_columnInStand_9 : decode mX4_columnInStand.2.1 9 = .ok (.iload_n 2, 1) := by decide +kernel
theorem dX4_columnInStand_10 : decode mX4_columnInStand.2.1 10 = .ok (.if_icmp .le 15, 3) := by decide +kernel
theorem dX4_columnInStand_13 : decode mX4_columnInStand.2.1 13 = .ok (.iload_n 3, 1) := by decide +kernel
theorem dX4_columnInStand_14 : decode mX4_columnInStand.2.1 14 = .ok (.iload_n 1, 1) := by decide +kernel
theorem dX4_columnInStand_15 : decode mX4_columnInStand.2.1 15 = .ok (.iconst 1, 1) := by decide +kernel
theorem dX4_columnInStand_16 : decode mX4_columnInStand.2.1 16 = .ok (.iadd, 1) := by decide +kernel
theorem dX4_columnInStand_17 : decode mX4_columnInStand.2.1 17 = .ok (.idiv, 1) := by decide +kernel
theorem dX4_columnInStand_18 : decode mX4_columnInStand.2.1 18 = .ok (.istore_n 3, 1) := by decide +kernel
theorem dX4_columnInStand_19 : decode mX4_columnInStand.2.1 19 = .ok (.iinc 4 (-1), 3) := by decide +kernel
theorem dX4_columnInStand_22 : decode mX4_columnInStand.2.1 22 = .ok (.goto (-15), 3) := by decide +kernel
theorem dX4_columnInStand_25 : decode mX4_columnInStand.2.1 25 = .ok (.iload_n 3, 1) := by decide +kernel
theorem dX4_columnInStand_26 : decode mX4_columnInStand.2.1 26 = .ok (.iload_n 1, 1) := by decide +kernel
theorem dX4_columnInStand_27 : decode mX4_columnInStand.2.1 27 = .ok (.iconst 1, 1) := by decide +kernel
theorem dX4_columnInStand_28 : decode mX4_columnInStand.2.1 28 = .ok (.iadd, 1) := by decide +kernel
theorem dX4_columnInStand_29 : decode mX4_columnInStand.2.1 29 = .ok (.irem, 1) := by decide +kernel
theorem dX4_columnInStand_30 : decode mX4_columnInStand.2.1 30 = .ok (.istore 4, 2) := by decide +kernel
theorem dX4_columnInStand_32 : decode mX4_columnInStand.2.1 32 = .ok (.iload 4, 2) := by decide +kernel
theorem dX4_columnInStand_34 : decode mX4_columnInStand.2.1 34 = .ok (.iload_n 1, 1) := by decide +kernel
theorem dX4_columnInStand_35 : decode mX4_columnInStand.2.1 35 = .ok (.if_icmp .ne 7, 3) := by decide +kernel
theorem dX4_columnInStand_38 : decode mX4_columnInStand.2.1 38 = .ok (.iconst (-1), 1) := by decide +kernel
theorem dX4_columnInStand_39 : decode mX4_columnInStand.2.1 39 = .ok (.goto 5, 3) := by decide +kernel
theorem dX4_columnInStand_42 : decode mX4_columnInStand.2.1 42 = .ok (.iload 4, 2) := by decide +kernel
theorem dX4_columnInStand_44 : decode mX4_columnInStand.2.1 44 = .ok (.ireturn, 1) := by decide +kernel
def mX4_drawLots : String × ByteArray × Nat := (RX4, cX4_drawLots, 13)
theorem dX4_drawLots_0 : decode mX4_drawLots.2.1 0 = .ok (.iload_n 3, 1) := by decide +kernel
theorem dX4_drawLots_1 : decode mX4_drawLots.2.1 1 = .ok (.istore 5, 2) := by decide +kernel
theorem dX4_drawLots_3 : decode mX4_drawLots.2.1 3 = .ok (.iconst 0, 1) := by decide +kernel
theorem dX4_drawLots_4 : decode mX4_drawLots.2.1 4 = .ok (.istore 6, 2) := by decide +kernel
theorem dX4_drawLots_6 : decode mX4_drawLots.2.1 6 = .ok (.iconst 0, 1) := by decide +kernel
theorem dX4_drawLots_7 : decode mX4_drawLots.2.1 7 = .ok (.istore 7, 2) := by decide +kernel
theorem dX4_drawLots_9 : decode mX4_drawLots.2.1 9 = .ok (.iconst 0, 1) := by decide +kernel
theorem dX4_drawLots_10 : decode mX4_drawLots.2.1 10 = .ok (.istore 8, 2) := by decide +kernel
theorem dX4_drawLots_12 : decode mX4_drawLots.2.1 12 = .ok (.iload 8, 2) := by decide +kernel
theorem dX4_drawLots_14 : decode mX4_drawLots.2.1 14 = .ok (.iload_n 2, 1) := by decide +kernel
theorem dX4_drawLots_15 : decode mX4_drawLots.2.1 15 = .ok (.if_icmp .ge 122, 3) := by decide +kernel
theorem dX4_drawLots_18 : decode mX4_drawLots.2.1 18 = .ok (.iconst 1, 1) := by decide +kernel
theorem dX4_drawLots_19 : decode mX4_drawLots.2.1 19 = .ok (.aload_n 1, 1) := by decide +kernel
theorem dX4_drawLots_20 : decode mX4_drawLots.2.1 20 = .ok (.getfield 27, 3) := by decide +kernel
theorem dX4_drawLots_23 : decode mX4_drawLots.2.1 23 = .ok (.ishl, 1) := by decide +kernel
theorem dX4_drawLots_24 : decode mX4_drawLots.2.1 24 = .ok (.iconst 1, 1) := by decide +kernel
theorem dX4_drawLots_25 : decode mX4_drawLots.2.1 25 = .ok (.isub, 1) := by decide +kernel
theorem dX4_drawLots_26 : decode mX4_drawLots.2.1 26 = .ok (.istore 9, 2) := by decide +kernel
theorem dX4_drawLots_28 : decode mX4_drawLots.2.1 28 = .ok (.iload 7, 2) := by decide +kernel
theorem dX4_drawLots_30 : decode mX4_drawLots.2.1 30 = .ok (.istore 10, 2) := by decide +kernel
theorem dX4_drawLots_32 : decode mX4_drawLots.2.1 32 = .ok (.iconst 0, 1) := by decide +kernel
theorem dX4_drawLots_33 : decode mX4_drawLots.2.1 33 = .ok (.istore 11, 2) := by decide +kernel
theorem dX4_drawLots_35 : decode mX4_drawLots.2.1 35 = .ok (.iload 11, 2) := by decide +kernel
theorem dX4_drawLots_37 : decode mX4_drawLots.2.1 37 = .ok (.aload_n 1, 1) := by decide +kernel
theorem dX4_drawLots_38 : decode mX4_drawLots.2.1 38 = .ok (.getfield 27, 3) := by decide +kernel
theorem dX4_drawLots_41 : decode mX4_drawLots.2.1 41 = .ok (.if_icmp .ge 73, 3) := by decide +kernel
theorem dX4_drawLots_44 : decode mX4_drawLots.2.1 44 = .ok (.iload 5, 2) := by decide +kernel
theorem dX4_drawLots_46 : decode mX4_drawLots.2.1 46 = .ok (.ldc 87, 2) := by decide +kernel
theorem dX4_drawLots_48 : decode mX4_drawLots.2.1 48 = .ok (.imul, 1) := by decide +kernel
theorem dX4_drawLots_49 : decode mX4_drawLots.2.1 49 = .ok (.sipush 12345, 3) := by decide +kernel
theorem dX4_drawLots_52 : decode mX4_drawLots.2.1 52 = .ok (.iadd, 1) := by decide +kernel
theorem dX4_drawLots_53 : decode mX4_drawLots.2.1 53 = .ok (.istore 5, 2) := by decide +kernel
theorem dX4_drawLots_55 : decode mX4_drawLots.2.1 55 = .ok (.iload 9, 2) := by decide +kernel
theorem dX4_drawLots_57 : decode mX4_drawLots.2.1 57 = .ok (.iload 5, 2) := by decide +kernel
theorem dX4_drawLots_59 : decode mX4_drawLots.2.1 59 = .ok (.ldc 88, 2) := by decide +kernel
theorem dX4_drawLots_61 : decode mX4_drawLots.2.1 61 = .ok (.iand, 1) := by decide +kernel
theorem dX4_drawLots_62 : decode mX4_drawLots.2.1 62 = .ok (.ldc 89, 2) := by decide +kernel
theorem dX4_drawLots_64 : decode mX4_drawLots.2.1 64 = .ok (.idiv, 1) := by decide +kernel
theorem dX4_drawLots_65 : decode mX4_drawLots.2.1 65 = .ok (.aload_n 1, 1) := by decide +kernel
theorem dX4_drawLots_66 : decode mX4_drawLots.2.1 66 = .ok (.getfield 27, 3) := by decide +kernel
theorem dX4_drawLots_69 : decode mX4_drawLots.2.1 69 = .ok (.iload 11, 2) := by decide +kernel
theorem dX4_drawLots_71 : decode mX4_drawLots.2.1 71 = .ok (.isub, 1) := by decide +kernel
theorem dX4_drawLots_72 : decode mX4_drawLots.2.1 72 = .ok (.irem, 1) := by decide +kernel
theorem dX4_drawLots_73 : decode mX4_drawLots.2.1 73 = .ok (.invokestatic 90, 3) := by decide +kernel
theorem dX4_drawLots_76 : decode mX4_drawLots.2.1 76 = .ok (.istore 12, 2) := by decide +kernel
theorem dX4_drawLots_78 : decode mX4_drawLots.2.1 78 = .ok (.iload 9, 2) := by decide +kernel
theorem dX4_drawLots_80 : decode mX4_drawLots.2.1 80 = .ok (.iload 12, 2) := by decide +kernel
theorem dX4_drawLots_82 : decode mX4_drawLots.2.1 82 = .ok (.ixor, 1) := by decide +kernel
theorem dX4_drawLots_83 : decode mX4_drawLots.2.1 83 = .ok (.istore 9, 2) := by decide +kernel
theorem dX4_drawLots_85 : decode mX4_drawLots.2.1 85 = .ok (.iload 7, 2) := by decide +kernel
theorem dX4_drawLots_87 : decode mX4_drawLots.2.1 87 = .ok (.aload_n 1, 1) := by decide +kernel
theorem dX4_drawLots_88 : decode mX4_drawLots.2.1 88 = .ok (.getfield 49, 3) := by decide +kernel
theorem dX4_drawLots_91 : decode mX4_drawLots.2.1 91 = .ok (.iload 11, 2) := by decide +kernel
theorem dX4_drawLots_93 : decode mX4_drawLots.2.1 93 = .ok (.iaload, 1) := by decide +kernel
theorem dX4_drawLots_94 : decode mX4_drawLots.2.1 94 = .ok (.iload 12, 2) := by decide +kernel
theorem dX4_drawLots_96 : decode mX4_drawLots.2.1 96 = .ok (.iand, 1) := by decide +kernel
theorem dX4_drawLots_97 : decode mX4_drawLots.2.1 97 = .ok (.ifCond .eq 7, 3) := by decide +kernel
theorem dX4_drawLots_100 : decode mX4_drawLots.2.1 100 = .ok (.iconst 1, 1) := by decide +kernel
theorem dX4_drawLots_101 : decode mX4_drawLots.2.1 101 = .ok (.goto 4, 3) := by decide +kernel
theorem dX4_drawLots_104 : decode mX4_drawLots.2.1 104 = .ok (.iconst 0, 1) := by decide +kernel
theorem dX4_drawLots_105 : decode mX4_drawLots.2.1 105 = .ok (.iadd, 1) := by decide +kernel
theorem dX4_drawLots_106 : decode mX4_drawLots.2.1 106 = .ok (.istore 7, 2) := by decide +kernel
theorem dX4_drawLots_108 : decode mX4_drawLots.2.1 108 = .ok (.iinc 11 1, 3) := by decide +kernel
theorem dX4_drawLots_111 : decode mX4_drawLots.2.1 111 = .ok (.goto (-76), 3) := by decide +kernel
theorem dX4_drawLots_114 : decode mX4_drawLots.2.1 114 = .ok (.iload 6, 2) := by decide +kernel
theorem dX4_drawLots_116 : decode mX4_drawLots.2.1 116 = .ok (.iload 7, 2) := by decide +kernel
theorem dX4_drawLots_118 : decode mX4_drawLots.2.1 118 = .ok (.iload 10, 2) := by decide +kernel
theorem dX4_drawLots_120 : decode mX4_drawLots.2.1 120 = .ok (.if_icmp .ne 7, 3) := by decide +kernel
theorem dX4_drawLots_123 : decode mX4_drawLots.2.1 123 = .ok (.iconst 1, 1) := by decide +kernel
theorem dX4_drawLots_124 : decode mX4_drawLots.2.1 124 = .ok (.goto 4, 3) := by decide +kernel
theorem dX4_drawLots_127 : decode mX4_drawLots.2.1 127 = .ok (.iconst 0, 1) := by decide +kernel
theorem dX4_drawLots_128 : decode mX4_drawLots.2.1 128 = .ok (.iadd, 1) := by decide +kernel
theorem dX4_drawLots_129 : decode mX4_drawLots.2.1 129 = .ok (.istore 6, 2) := by decide +kernel
theorem dX4_drawLots_131 : decode mX4_drawLots.2.1 131 = .ok (.iinc 8 1, 3) := by decide +kernel
theorem dX4_drawLots_134 : decode mX4_drawLots.2.1 134 = .ok (.goto (-122), 3) := by decide +kernel
theorem dX4_drawLots_137 : decode mX4_drawLots.2.1 137 = .ok (.iload 4, 2) := by decide +kernel
theorem dX4_drawLots_139 : decode mX4_drawLots.2.1 139 = .ok (.ifCond .eq 8, 3) := by decide +kernel
theorem dX4_drawLots_142 : decode mX4_drawLots.2.1 142 = .ok (.iload 6, 2) := by decide +kernel
theorem dX4_drawLots_144 : decode mX4_drawLots.2.1 144 = .ok (.goto 5, 3) := by decide +kernel
theorem dX4_drawLots_147 : decode mX4_drawLots.2.1 147 = .ok (.iload 7, 2) := by decide +kernel
theorem dX4_drawLots_149 : decode mX4_drawLots.2.1 149 = .ok (.ireturn, 1) := by decide +kernel
def mX4_bitNumbered : String × ByteArray × Nat := (RX4, cX4_bitNumbered, 4)
theorem dX4_bitNumbered_0 : decode mX4_bitNumbered.2.1 0 = .ok (.iload_n 0, 1) := by decide +kernel
theorem dX4_bitNumbered_1 : decode mX4_bitNumbered.2.1 1 = .ok (.istore_n 2, 1) := by decide +kernel
theorem dX4_bitNumbered_2 : decode mX4_bitNumbered.2.1 2 = .ok (.iconst 0, 1) := by decide +kernel
theorem dX4_bitNumbered_3 : decode mX4_bitNumbered.2.1 3 = .ok (.istore_n 3, 1) := by decide +kernel
theorem dX4_bitNumbered_4 : decode mX4_bitNumbered.2.1 4 = .ok (.iload_n 3, 1) := by decide +kernel
theorem dX4_bitNumbered_5 : decode mX4_bitNumbered.2.1 5 = .ok (.iload_n 1, 1) := by decide +kernel
theorem dX4_bitNumbered_6 : decode mX4_bitNumbered.2.1 6 = .ok (.if_icmp .ge 15, 3) := by decide +kernel
theorem dX4_bitNumbered_9 : decode mX4_bitNumbered.2.1 9 = .ok (.iload_n 2, 1) := by decide +kernel
theorem dX4_bitNumbered_10 : decode mX4_bitNumbered.2.1 10 = .ok (.iload_n 2, 1) := by decide +kernel
theorem dX4_bitNumbered_11 : decode mX4_bitNumbered.2.1 11 = .ok (.iconst 1, 1) := by decide +kernel
theorem dX4_bitNumbered_12 : decode mX4_bitNumbered.2.1 12 = .ok (.isub, 1) := by decide +kernel
theorem dX4_bitNumbered_13 : decode mX4_bitNumbered.2.1 13 = .ok (.iand, 1) := by decide +kernel
theorem dX4_bitNumbered_14 : decode mX4_bitNumbered.2.1 14 = .ok (.istore_n 2, 1) := by decide +kernel
theorem dX4_bitNumbered_15 : decode mX4_bitNumbered.2.1 15 = .ok (.iinc 3 1, 3) := by decide +kernel
theorem dX4_bitNumbered_18 : decode mX4_bitNumbered.2.1 18 = .ok (.goto (-14), 3) := by decide +kernel
theorem dX4_bitNumbered_21 : decode mX4_bitNumbered.2.1 21 = .ok (.iload_n 2, 1) := by decide +kernel
theorem dX4_bitNumbered_22 : decode mX4_bitNumbered.2.1 22 = .ok (.iload_n 2, 1) := by decide +kernel
theorem dX4_bitNumbered_23 : decode mX4_bitNumbered.2.1 23 = .ok (.ineg, 1) := by decide +kernel
theorem dX4_bitNumbered_24 : decode mX4_bitNumbered.2.1 24 = .ok (.iand, 1) := by decide +kernel
theorem dX4_bitNumbered_25 : decode mX4_bitNumbered.2.1 25 = .ok (.ireturn, 1) := by decide +kernel
def mX5_init : String × ByteArray × Nat := (RX5, cX5_init, 2)
theorem dX5_init_0 : decode mX5_init.2.1 0 = .ok (.aload_n 0, 1) := by decide +kernel
theorem dX5_init_1 : decode mX5_init.2.1 1 = .ok (.invokespecial 3, 3) := by decide +kernel
theorem dX5_init_4 : decode mX5_init.2.1 4 = .ok (.aload_n 0, 1) := by decide +kernel
theorem dX5_init_5 : decode mX5_init.2.1 5 = .ok (.bipush 6, 2) := by decide +kernel
theorem dX5_init_7 : decode mX5_init.2.1 7 = .ok (.anewarray 9, 3) := by decide +kernel
theorem dX5_init_10 : decode mX5_init.2.1 10 = .ok (.putfield 11, 3) := by decide +kernel
theorem dX5_init_13 : decode mX5_init.2.1 13 = .ok (.aload_n 0, 1) := by decide +kernel
theorem dX5_init_14 : decode mX5_init.2.1 14 = .ok (.new 17, 3) := by decide +kernel
theorem dX5_init_17 : decode mX5_init.2.1 17 = .ok (.dup, 1) := by decide +kernel
theorem dX5_init_18 : decode mX5_init.2.1 18 = .ok (.invokespecial 19, 3) := by decide +kernel
theorem dX5_init_21 : decode mX5_init.2.1 21 = .ok (.putfield 20, 3) := by decide +kernel
theorem dX5_init_24 : decode mX5_init.2.1 24 = .ok (.aload_n 0, 1) := by decide +kernel
theorem dX5_init_25 : decode mX5_init.2.1 25 = .ok (.bipush 6, 2) := by decide +kernel
theorem dX5_init_27 : decode mX5_init.2.1 27 = .ok (.anewarray 24, 3) := by decide +kernel
theorem dX5_init_30 : decode mX5_init.2.1 30 = .ok (.putfield 26, 3) := by decide +kernel
theorem dX5_init_33 : decode mX5_init.2.1 33 = .ok (.aload_n 0, 1) := by decide +kernel
theorem dX5_init_34 : decode mX5_init.2.1 34 = .ok (.bipush 36, 2) := by decide +kernel
theorem dX5_init_36 : decode mX5_init.2.1 36 = .ok (.newarray .int, 2) := by decide +kernel
theorem dX5_init_38 : decode mX5_init.2.1 38 = .ok (.putfield 30, 3) := by decide +kernel
theorem dX5_init_41 : decode mX5_init.2.1 41 = .ok (.aload_n 0, 1) := by decide +kernel
theorem dX5_init_42 : decode mX5_init.2.1 42 = .ok (.iconst 4, 1) := by decide +kernel
theorem dX5_init_43 : decode mX5_init.2.1 43 = .ok (.newarray .int, 2) := by decide +kernel
theorem dX5_init_45 : decode mX5_init.2.1 45 = .ok (.putfield 34, 3) := by decide +kernel
theorem dX5_init_48 : decode mX5_init.2.1 48 = .ok (.aload_n 0, 1) := by decide +kernel
theorem dX5_init_49 : decode mX5_init.2.1 49 = .ok (.iconst 4, 1) := by decide +kernel
theorem dX5_init_50 : decode mX5_init.2.1 50 = .ok (.newarray .int, 2) := by decide +kernel
theorem dX5_init_52 : decode mX5_init.2.1 52 = .ok (.putfield 37, 3) := by decide +kernel
theorem dX5_init_55 : decode mX5_init.2.1 55 = .ok (.iconst 0, 1) := by decide +kernel
theorem dX5_init_56 : decode mX5_init.2.1 56 = .ok (.istore_n 1, 1) := by decide +kernel
theorem dX5_init_57 : decode mX5_init.2.1 57 = .ok (.iload_n 1, 1) := by decide +kernel
theorem dX5_init_58 : decode mX5_init.2.1 58 = .ok (.bipush 6, 2) := by decide +kernel
theorem dX5_init_60 : decode mX5_init.2.1 60 = .ok (.if_icmp .ge 35, 3) := by decide +kernel
theorem dX5_init_63 : decode mX5_init.2.1 63 = .ok (.aload_n 0, 1) := by decide +kernel
theorem dX5_init_64 : decode mX5_init.2.1 64 = .ok (.getfield 11, 3) := by decide +kernel
theorem dX5_init_67 : decode mX5_init.2.1 67 = .ok (.iload_n 1, 1) := by decide +kernel
theorem dX5_init_68 : decode mX5_init.2.1 68 = .ok (.new 9, 3) := by decide +kernel
theorem dX5_init_71 : decode mX5_init.2.1 71 = .ok (.dup, 1) := by decide +kernel
theorem dX5_init_72 : decode mX5_init.2.1 72 = .ok (.invokespecial 40, 3) := by decide +kernel
theorem dX5_init_75 : decode mX5_init.2.1 75 = .ok (.aastore, 1) := by decide +kernel
theorem dX5_init_76 : decode mX5_init.2.1 76 = .ok (.aload_n 0, 1) := by decide +kernel
theorem dX5_init_77 : decode mX5_init.2.1 77 = .ok (.getfield 26, 3) := by decide +kernel
theorem dX5_init_80 : decode mX5_init.2.1 80 = .ok (.iload_n 1, 1) := by decide +kernel
theorem dX5_init_81 : decode mX5_init.2.1 81 = .ok (.new 24, 3) := by decide +kernel
theorem dX5_init_84 : decode mX5_init.2.1 84 = .ok (.dup, 1) := by decide +kernel
theorem dX5_init_85 : decode mX5_init.2.1 85 = .ok (.invokespecial 41, 3) := by decide +kernel
theorem dX5_init_88 : decode mX5_init.2.1 88 = .ok (.aastore, 1) := by decide +kernel
theorem dX5_init_89 : decode mX5_init.2.1 89 = .ok (.iinc 1 1, 3) := by decide +kernel
theorem dX5_init_92 : decode mX5_init.2.1 92 = .ok (.goto (-35), 3) := by decide +kernel
theorem dX5_init_95 : decode mX5_init.2.1 95 = .ok (.aload_n 0, 1) := by decide +kernel
theorem dX5_init_96 : decode mX5_init.2.1 96 = .ok (.getfield 30, 3) := by decide +kernel
theorem dX5_init_99 : decode mX5_init.2.1 99 = .ok (.iconst 1, 1) := by decide +kernel
theorem dX5_init_100 : decode mX5_init.2.1 100 = .ok (.invokestatic 42, 3) := by decide +kernel
theorem dX5_init_103 : decode mX5_init.2.1 103 = .ok (.return_, 1) := by decide +kernel
def mX5_becomeLike : String × ByteArray × Nat := (RX5, cX5_becomeLike, 3)
theorem dX5_becomeLike_0 : decode mX5_becomeLike.2.1 0 = .ok (.iconst 0, 1) := by decide +kernel
theorem dX5_becomeLike_1 : decode mX5_becomeLike.2.1 1 = .ok (.istore_n 2, 1) := by decide +kernel
theorem dX5_becomeLike_2 : decode mX5_becomeLike.2.1 2 = .ok (.iload_n 2, 1) := by decide +kernel
theorem dX5_becomeLike_3 : decode mX5_becomeLike.2.1 3 = .ok (.bipush 6, 2) := by decide +kernel
theorem dX5_becomeLike_5 : decode mX5_becomeLike.2.1 5 = .ok (.if_icmp .ge 51, 3) := by decide +kernel
theorem dX5_becomeLike_8 : decode mX5_becomeLike.2.1 8 = .ok (.aload_n 0, 1) := by decide +kernel
theorem dX5_becomeLike_9 : decode mX5_becomeLike.2.1 9 = .ok (.getfield 11, 3) := by decide +kernel
theorem dX5_becomeLike_12 : decode mX5_becomeLike.2.1 12 = .ok (.iload_n 2, 1) := by decide +kernel
theorem dX5_becomeLike_13 : decode mX5_becomeLike.2.1 13 = .ok (.aaload, 1) := by decide +kernel
theorem dX5_becomeLike_14 : decode mX5_becomeLike.2.1 14 = .ok (.aload_n 1, 1) := by decide +kernel
theorem dX5_becomeLike_15 : decode mX5_becomeLike.2.1 15 = .ok (.getfield 11, 3) := by decide +kernel
theorem dX5_becomeLike_18 : decode mX5_becomeLike.2.1 18 = .ok (.iload_n 2, 1) := by decide +kernel
theorem dX5_becomeLike_19 : decode mX5_becomeLike.2.1 19 = .ok (.aaload, 1) := by decide +kernel
theorem dX5_becomeLike_20 : decode mX5_becomeLike.2.1 20 = .ok (.getfield 48, 3) := by decide +kernel
theorem dX5_becomeLike_23 : decode mX5_becomeLike.2.1 23 = .ok (.aload_n 1, 1) := by decide +kernel
theorem dX5_becomeLike_24 : decode mX5_becomeLike.2.1 24 = .ok (.getfield 11, 3) := by decide +kernel
theorem dX5_becomeLike_27 : decode mX5_becomeLike.2.1 27 = .ok (.iload_n 2, 1) := by decide +kernel
theorem dX5_becomeLike_28 : decode mX5_becomeLike.2.1 28 = .ok (.aaload, 1) := by decide +kernel
theorem dX5_becomeLike_29 : decode mX5_becomeLike.2.1 29 = .ok (.getfield 51, 3) := by decide +kernel
theorem dX5_becomeLike_32 : decode mX5_becomeLike.2.1 32 = .ok (.invokevirtual 55, 3) := by decide +kernel
theorem dX5_becomeLike_35 : decode mX5_becomeLike.2.1 35 = .ok (.aload_n 0, 1) := by decide +kernel
theorem dX5_becomeLike_36 : decode mX5_becomeLike.2.1 36 = .ok (.getfield 26, 3) := by decide +kernel
theorem dX5_becomeLike_39 : decode mX5_becomeLike.2.1 39 = .ok (.iload_n 2, 1) := by decide +kernel
theorem dX5_becomeLike_40 : decode mX5_becomeLike.2.1 40 = .ok (.aaload, 1) := by decide +kernel
theorem dX5_becomeLike_41 : decode mX5_becomeLike.2.1 41 = .ok (.aload_n 1, 1) := by decide +kernel
theorem dX5_becomeLike_42 : decode mX5_becomeLike.2.1 42 = .ok (.getfield 26, 3) := by decide +kernel
theorem dX5_becomeLike_45 : decode mX5_becomeLike.2.1 45 = .ok (.iload_n 2, 1) := by decide +kernel
theorem dX5_becomeLike_46 : decode mX5_becomeLike.2.1 46 = .ok (.aaload, 1) := by decide +kernel
theorem dX5_becomeLike_47 : decode mX5_becomeLike.2.1 47 = .ok (.invokevirtual 58, 3) := by decide +kernel
theorem dX5_becomeLike_50 : decode mX5_becomeLike.2.1 50 = .ok (.iinc 2 1, 3) := by decide +kernel
theorem dX5_becomeLike_53 : decode mX5_becomeLike.2.1 53 = .ok (.goto (-51), 3) := by decide +kernel
theorem dX5_becomeLike_56 : decode mX5_becomeLike.2.1 56 = .ok (.aload_n 0, 1) := by decide +kernel
theorem dX5_becomeLike_57 : decode mX5_becomeLike.2.1 57 = .ok (.getfield 20, 3) := by decide +kernel
theorem dX5_becomeLike_60 : decode mX5_becomeLike.2.1 60 = .ok (.aload_n 1, 1) := by decide +kernel
theorem dX5_becomeLike_61 : decode mX5_becomeLike.2.1 61 = .ok (.getfield 20, 3) := by decide +kernel
theorem dX5_becomeLike_64 : decode mX5_becomeLike.2.1 64 = .ok (.invokevirtual 62, 3) := by decide +kernel
theorem dX5_becomeLike_67 : decode mX5_becomeLike.2.1 67 = .ok (.aload_n 1, 1) := by decide +kernel
theorem dX5_becomeLike_68 : decode mX5_becomeLike.2.1 68 = .ok (.getfield 30, 3) := by decide +kernel
theorem dX5_becomeLike_71 : decode mX5_becomeLike.2.1 71 = .ok (.iconst 0, 1) := by decide +kernel
theorem dX5_becomeLike_72 : decode mX5_becomeLike.2.1 72 = .ok (.aload_n 0, 1) := by decide +kernel
theorem dX5_becomeLike_73 : decode mX5_becomeLike.2.1 73 = .ok (.getfield 30, 3) := by decide +kernel
theorem dX5_becomeLike_76 : decode mX5_becomeLike.2.1 76 = .ok (.iconst 0, 1) := by decide +kernel
theorem dX5_becomeLike_77 : decode mX5_becomeLike.2.1 77 = .ok (.aload_n 0, 1) := by decide +kernel
theorem dX5_becomeLike_78 : decode mX5_becomeLike.2.1 78 = .ok (.getfield 30, 3) := by decide +kernel
theorem dX5_becomeLike_81 : decode mX5_becomeLike.2.1 81 = .ok (.arraylength, 1) := by decide +kernel
theorem dX5_becomeLike_82 : decode mX5_becomeLike.2.1 82 = .ok (.invokestatic 65, 3) := by decide +kernel
theorem dX5_becomeLike_85 : decode mX5_becomeLike.2.1 85 = .ok (.aload_n 1, 1) := by decide +kernel
theorem dX5_becomeLike_86 : decode mX5_becomeLike.2.1 86 = .ok (.getfield 34, 3) := by decide +kernel
theorem dX5_becomeLike_89 : decode mX5_becomeLike.2.1 89 = .ok (.iconst 0, 1) := by decide +kernel
theorem dX5_becomeLike_90 : decode mX5_becomeLike.2.1 90 = .ok (.aload_n 0, 1) := by decide +kernel
theorem dX5_becomeLike_91 : decode mX5_becomeLike.2.1 91 = .ok (.getfield 34, 3) := by decide +kernel
theorem dX5_becomeLike_94 : decode mX5_becomeLike.2.1 94 = .ok (.iconst 0, 1) := by decide +kernel
theorem dX5_becomeLike_95 : decode mX5_becomeLike.2.1 95 = .ok (.iconst 4, 1) := by decide +kernel
theorem dX5_becomeLike_96 : decode mX5_becomeLike.2.1 96 = .ok (.invokestatic 65, 3) := by decide +kernel
theorem dX5_becomeLike_99 : decode mX5_becomeLike.2.1 99 = .ok (.aload_n 1, 1) := by decide +kernel
theorem dX5_becomeLike_100 : decode mX5_becomeLike.2.1 100 = .ok (.getfield 37, 3) := by decide +kernel
theorem dX5_becomeLike_103 : decode mX5_becomeLike.2.1 103 = .ok (.iconst 0, 1) := by decide +kernel
theorem dX5_becomeLike_104 : decode mX5_becomeLike.2.1 104 = .ok (.aload_n 0, 1) := by decide +kernel
theorem dX5_becomeLike_105 : decode mX5_becomeLike.2.1 105 = .ok (.getfield 37, 3) := by decide +kernel
theorem dX5_becomeLike_108 : decode mX5_becomeLike.2.1 108 = .ok (.iconst 0, 1) := by decide +kernel
theorem dX5_becomeLike_109 : decode mX5_becomeLike.2.1 109 = .ok (.iconst 4, 1) := by decide +kernel
theorem dX5_becomeLike_110 : decode mX5_becomeLike.2.1 110 = .ok (.invokestatic 65, 3) := by decide +kernel
theorem dX5_becomeLike_113 : decode mX5_becomeLike.2.1 113 = .ok (.aload_n 0, 1) := by decide +kernel
theorem dX5_becomeLike_114 : decode mX5_becomeLike.2.1 114 = .ok (.aload_n 1, 1) := by decide +kernel
theorem dX5_becomeLike_115 : decode mX5_becomeLike.2.1 115 = .ok (.getfield 71, 3) := by decide +kernel
theorem dX5_becomeLike_118 : decode mX5_becomeLike.2.1 118 = .ok (.putfield 71, 3) := by decide +kernel
theorem dX5_becomeLike_121 : decode mX5_becomeLike.2.1 121 = .ok (.return_, 1) := by decide +kernel
def mX5_allLetters : String × ByteArray × Nat := (RX5, cX5_allLetters, 3)
theorem dX5_allLetters_0 : decode mX5_allLetters.2.1 0 = .ok (.iconst 0, 1) := by decide +kernel
theorem dX5_allLetters_1 : decode mX5_allLetters.2.1 1 = .ok (.istore_n 1, 1) := by decide +kernel
theorem dX5_allLetters_2 : decode mX5_allLetters.2.1 2 = .ok (.iconst 0, 1) := by decide +kernel
theorem dX5_allLetters_3 : decode mX5_allLetters.2.1 3 = .ok (.istore_n 2, 1) := by decide +kernel
theorem dX5_allLetters_4 : decode mX5_allLetters.2.1 4 = .ok (.iload_n 2, 1) := by decide +kernel
theorem dX5_allLetters_5 : decode mX5_allLetters.2.1 5 = .ok (.bipush 6, 2) := by decide +kernel
theorem dX5_allLetters_7 : decode mX5_allLetters.2.1 7 = .ok (.if_icmp .ge 21, 3) := by decide +kernel
theorem dX5_allLetters_10 : decode mX5_allLetters.2.1 10 = .ok (.iload_n 1, 1) := by decide +kernel
theorem dX5_allLetters_11 : decode mX5_allLetters.2.1 11 = .ok (.aload_n 0, 1) := by decide +kernel
theorem dX5_allLetters_12 : decode mX5_allLetters.2.1 12 = .ok (.getfield 11, 3) := by decide +kernel
theorem dX5_allLetters_15 : decode mX5_allLetters.2.1 15 = .ok (.iload_n 2, 1) := by decide +kernel
theorem dX5_allLetters_16 : decode mX5_allLetters.2.1 16 = .ok (.aaload, 1) := by decide +kernel
theorem dX5_allLetters_17 : decode mX5_allLetters.2.1 17 = .ok (.getfield 51, 3) := by decide +kernel
theorem dX5_allLetters_20 : decode mX5_allLetters.2.1 20 = .ok (.iadd, 1) := by decide +kernel
theorem dX5_allLetters_21 : decode mX5_allLetters.2.1 21 = .ok (.istore_n 1, 1) := by decide +kernel
theorem dX5_allLetters_22 : decode mX5_allLetters.2.1 22 = .ok (.iinc 2 1, 3) := by decide +kernel
theorem dX5_allLetters_25 : decode mX5_allLetters.2.1 25 = .ok (.goto (-21), 3) := by decide +kernel
theorem dX5_allLetters_28 : decode mX5_allLetters.2.1 28 = .ok (.iload_n 1, 1) := by decide +kernel
theorem dX5_allLetters_29 : decode mX5_allLetters.2.1 29 = .ok (.ireturn, 1) := by decide +kernel
def mX5_allCells : String × ByteArray × Nat := (RX5, cX5_allCells, 3)
theorem dX5_allCells_0 : decode mX5_allCells.2.1 0 = .ok (.iconst 0, 1) := by decide +kernel
theorem dX5_allCells_1 : decode mX5_allCells.2.1 1 = .ok (.istore_n 1, 1) := by decide +kernel
theorem dX5_allCells_2 : decode mX5_allCells.2.1 2 = .ok (.iconst 0, 1) := by decide +kernel
theorem dX5_allCells_3 : decode mX5_allCells.2.1 3 = .ok (.istore_n 2, 1) := by decide +kernel
theorem dX5_allCells_4 : decode mX5_allCells.2.1 4 = .ok (.iload_n 2, 1) := by decide +kernel
theorem dX5_allCells_5 : decode mX5_allCells.2.1 5 = .ok (.bipush 6, 2) := by decide +kernel
theorem dX5_allCells_7 : decode mX5_allCells.2.1 7 = .ok (.if_icmp .ge 21, 3) := by decide +kernel
theorem dX5_allCells_10 : decode mX5_allCells.2.1 10 = .ok (.iload_n 1, 1) := by decide +kernel
theorem dX5_allCells_11 : decode mX5_allCells.2.1 11 = .ok (.aload_n 0, 1) := by decide +kernel
theorem dX5_allCells_12 : decode mX5_allCells.2.1 12 = .ok (.getfield 26, 3) := by decide +kernel
theorem dX5_allCells_15 : decode mX5_allCells.2.1 15 = .ok (.iload_n 2, 1) := by decide +kernel
theorem dX5_allCells_16 : decode mX5_allCells.2.1 16 = .ok (.aaload, 1) := by decide +kernel
theorem dX5_allCells_17 : decode mX5_allCells.2.1 17 = .ok (.invokevirtual 74, 3) := by decide +kernel
theorem dX5_allCells_20 : decode mX5_allCells.2.1 20 = .ok (.iadd, 1) := by decide +kernel
theorem dX5_allCells_21 : decode mX5_allCells.2.1 21 = .ok (.istore_n 1, 1) := by decide +kernel
theorem dX5_allCells_22 : decode mX5_allCells.2.1 22 = .ok (.iinc 2 1, 3) := by decide +kernel
theorem dX5_allCells_25 : decode mX5_allCells.2.1 25 = .ok (.goto (-21), 3) := by decide +kernel
theorem dX5_allCells_28 : decode mX5_allCells.2.1 28 = .ok (.iload_n 1, 1) := by decide +kernel
theorem dX5_allCells_29 : decode mX5_allCells.2.1 29 = .ok (.ireturn, 1) := by decide +kernel
def mX5_agreesWithSeen : String × ByteArray × Nat := (RX5, cX5_agreesWithSeen, 4)
theorem dX5_agreesWithSeen_0 : decode mX5_agreesWithSeen.2.1 0 = .ok (.iconst 0, 1) := by decide +kernel
theorem dX5_agreesWithSeen_1 : decode mX5_agreesWithSeen.2.1 1 = .ok (.istore_n 3, 1) := by decide +kernel
theorem dX5_agreesWithSeen_2 : decode mX5_agreesWithSeen.2.1 2 = .ok (.iload_n 3, 1) := by decide +kernel
theorem dX5_agreesWithSeen_3 : decode mX5_agreesWithSeen.2.1 3 = .ok (.aload_n 0, 1) := by decide +kernel
theorem dX5_agreesWithSeen_4 : decode mX5_agreesWithSeen.2.1 4 = .ok (.getfield 71, 3) := by decide +kernel
theorem dX5_agreesWithSeen_7 : decode mX5_agreesWithSeen.2.1 7 = .ok (.if_icmp .ge 35, 3) := by decide +kernel
theorem dX5_agreesWithSeen_10 : decode mX5_agreesWithSeen.2.1 10 = .ok (.iload_n 3, 1) := by decide +kernel
theorem dX5_agreesWithSeen_11 : decode mX5_agreesWithSeen.2.1 11 = .ok (.iconst 4, 1) := by decide +kernel
theorem dX5_agreesWithSeen_12 : decode mX5_agreesWithSeen.2.1 12 = .ok (.if_icmp .ge 30, 3) := by decide +kernel
theorem dX5_agreesWithSeen_15 : decode mX5_agreesWithSeen.2.1 15 = .ok (.lload_n 1, 1) := by decide +kernel
theorem dX5_agreesWithSeen_16 : decode mX5_agreesWithSeen.2.1 16 = .ok (.aload_n 0, 1) := by decide +kernel
theorem dX5_agreesWithSeen_17 : decode mX5_agreesWithSeen.2.1 17 = .ok (.getfield 34, 3) := by decide +kernel
theorem dX5_agreesWithSeen_20 : decode mX5_agreesWithSeen.2.1 20 = .ok (.iload_n 3, 1) := by decide +kernel
theorem dX5_agreesWithSeen_21 : decode mX5_agreesWithSeen.2.1 21 = .ok (.iaload, 1) := by decide +kernel
theorem dX5_agreesWithSeen_22 : decode mX5_agreesWithSeen.2.1 22 = .ok (.invokestatic 78, 3) := by decide +kernel
theorem dX5_agreesWithSeen_25 : decode mX5_agreesWithSeen.2.1 25 = .ok (.aload_n 0, 1) := by decide +kernel
theorem dX5_agreesWithSeen_26 : decode mX5_agreesWithSeen.2.1 26 = .ok (.getfield 37, 3) := by decide +kernel
theorem dX5_agreesWithSeen_29 : decode mX5_agreesWithSeen.2.1 29 = .ok (.iload_n 3, 1) := by decide +kernel
theorem dX5_agreesWithSeen_30 : decode mX5_agreesWithSeen.2.1 30 = .ok (.iaload, 1) := by decide +kernel
theorem dX5_agreesWithSeen_31 : decode mX5_agreesWithSeen.2.1 31 = .ok (.if_icmp .eq 5, 3) := by decide +kernel
theorem dX5_agreesWithSeen_34 : decode mX5_agreesWithSeen.2.1 34 = .ok (.iconst 0, 1) := by decide +kernel
theorem dX5_agreesWithSeen_35 : decode mX5_agreesWithSeen.2.1 35 = .ok (.ireturn, 1) := by decide +kernel
theorem dX5_agreesWithSeen_36 : decode mX5_agreesWithSeen.2.1 36 = .ok (.iinc 3 1, 3) := by decide +kernel
theorem dX5_agreesWithSeen_39 : decode mX5_agreesWithSeen.2.1 39 = .ok (.goto (-37), 3) := by decide +kernel
theorem dX5_agreesWithSeen_42 : decode mX5_agreesWithSeen.2.1 42 = .ok (.iconst 1, 1) := by decide +kernel
theorem dX5_agreesWithSeen_43 : decode mX5_agreesWithSeen.2.1 43 = .ok (.ireturn, 1) := by decide +kernel
def mX6_init : String × ByteArray × Nat := (RX6, cX6_init, 1)
theorem dX6_init_0 : decode mX6_init.2.1 0 = .ok (.aload_n 0, 1) := by decide +kernel
theorem dX6_init_1 : decode mX6_init.2.1 1 = .ok (.invokespecial 3, 3) := by decide +kernel
theorem dX6_init_4 : decode mX6_init.2.1 4 = .ok (.aload_n 0, 1) := by decide +kernel
theorem dX6_init_5 : decode mX6_init.2.1 5 = .ok (.sipush 169, 3) := by decide +kernel
theorem dX6_init_8 : decode mX6_init.2.1 8 = .ok (.newarray .long, 2) := by decide +kernel
theorem dX6_init_10 : decode mX6_init.2.1 10 = .ok (.putfield 11, 3) := by decide +kernel
theorem dX6_init_13 : decode mX6_init.2.1 13 = .ok (.aload_n 0, 1) := by decide +kernel
theorem dX6_init_14 : decode mX6_init.2.1 14 = .ok (.sipush 169, 3) := by decide +kernel
theorem dX6_init_17 : decode mX6_init.2.1 17 = .ok (.newarray .long, 2) := by decide +kernel
theorem dX6_init_19 : decode mX6_init.2.1 19 = .ok (.putfield 15, 3) := by decide +kernel
theorem dX6_init_22 : decode mX6_init.2.1 22 = .ok (.return_, 1) := by decide +kernel
def mX6_at : String × ByteArray × Nat := (RX6, cX6_at, 3)
theorem dX6_at_0 : decode mX6_at.2.1 0 = .ok (.iload_n 1, 1) := by decide +kernel
theorem dX6_at_1 : decode mX6_at.2.1 1 = .ok (.ifCond .lt 33, 3) := by decide +kernel
theorem dX6_at_4 : decode mX6_at.2.1 4 = .ok (.iload_n 1, 1) := by decide +kernel
theorem dX6_at_5 : decode mX6_at.2.1 5 = .ok (.bipush 13, 2) := by decide +kernel
theorem dX6_at_7 : decode mX6_at.2.1 7 = .ok (.if_icmp .ge 27, 3) := by decide +kernel
theorem dX6_at_10 : decode mX6_at.2.1 10 = .ok (.iload_n 2, 1) := by decide +kernel
theorem dX6_at_11 : decode mX6_at.2.1 11 = .ok (.ifCond .lt 23, 3) := by decide +kernel
theorem dX6_at_14 : decode mX6_at.2.1 14 = .ok (.iload_n 2, 1) := by decide +kernel
theorem dX6_at_15 : decode mX6_at.2.1 15 = .ok (.bipush 13, 2) := by decide +kernel
theorem dX6_at_17 : decode mX6_at.2.1 17 = .ok (.if_icmp .ge 17, 3) := by decide +kernel
theorem dX6_at_20 : decode mX6_at.2.1 20 = .ok (.aload_n 0, 1) := by decide +kernel
theorem dX6_at_21 : decode mX6_at.2.1 21 = .ok (.getfield 11, 3) := by decide +kernel
theorem dX6_at_24 : decode mX6_at.2.1 24 = .ok (.iload_n 1, 1) := by decide +kernel
theorem dX6_at_25 : decode mX6_at.2.1 25 = .ok (.bipush 13, 2) := by decide +kernel
theorem dX6_at_27 : decode mX6_at.2.1 27 = .ok (.imul, 1) := by decide +kernel
theorem dX6_at_28 : decode mX6_at.2.1 28 = .ok (.iload_n 2, 1) := by decide +kernel
theorem dX6_at_29 : decode mX6_at.2.1 29 = .ok (.iadd, 1) := by decide +kernel
theorem dX6_at_30 : decode mX6_at.2.1 30 = .ok (.laload, 1) := by decide +kernel
theorem dX6_at_31 : decode mX6_at.2.1 31 = .ok (.goto 4, 3) := by decide +kernel
theorem dX6_at_34 : decode mX6_at.2.1 34 = .ok (.lconst 0, 1) := by decide +kernel
theorem dX6_at_35 : decode mX6_at.2.1 35 = .ok (.lreturn, 1) := by decide +kernel
def mX6_notZero : String × ByteArray × Nat := (RX6, cX6_notZero, 3)
theorem dX6_notZero_0 : decode mX6_notZero.2.1 0 = .ok (.iconst 0, 1) := by decide +kernel
theorem dX6_notZero_1 : decode mX6_notZero.2.1 1 = .ok (.istore_n 1, 1) := by decide +kernel
theorem dX6_notZero_2 : decode mX6_notZero.2.1 2 = .ok (.iconst 0, 1) := by decide +kernel
theorem dX6_notZero_3 : decode mX6_notZero.2.1 3 = .ok (.istore_n 2, 1) := by decide +kernel
theorem dX6_notZero_4 : decode mX6_notZero.2.1 4 = .ok (.iload_n 2, 1) := by decide +kernel
theorem dX6_notZero_5 : decode mX6_notZero.2.1 5 = .ok (.aload_n 0, 1) := by decide +kernel
theorem dX6_notZero_6 : decode mX6_notZero.2.1 6 = .ok (.getfield 11, 3) := by decide +kernel
theorem dX6_notZero_9 : decode mX6_notZero.2.1 9 = .ok (.arraylength, 1) := by decide +kernel
theorem dX6_notZero_10 : decode mX6_notZero.2.1 10 = .ok (.if_icmp .ge 23, 3) := by decide +kernel
theorem dX6_notZero_13 : decode mX6_notZero.2.1 13 = .ok (.aload_n 0, 1) := by decide +kernel
theorem dX6_notZero_14 : decode mX6_notZero.2.1 14 = .ok (.getfield 11, 3) := by decide +kernel
theorem dX6_notZero_17 : decode mX6_notZero.2.1 17 = .ok (.iload_n 2, 1) := by decide +kernel
theorem dX6_notZero_18 : decode mX6_notZero.2.1 18 = .ok (.laload, 1) := by decide +kernel
theorem dX6_notZero_19 : decode mX6_notZero.2.1 19 = .ok (.lconst 0, 1) := by decide +kernel
theorem dX6_notZero_20 : decode mX6_notZero.2.1 20 = .ok (.lcmp, 1) := by decide +kernel
theorem dX6_notZero_21 : decode mX6_notZero.2.1 21 = .ok (.ifCond .eq 6, 3) := by decide +kernel
theorem dX6_notZero_24 : decode mX6_notZero.2.1 24 = .ok (.iinc 1 1, 3) := by decide +kernel
theorem dX6_notZero_27 : decode mX6_notZero.2.1 27 = .ok (.iinc 2 1, 3) := by decide +kernel
theorem dX6_notZero_30 : decode mX6_notZero.2.1 30 = .ok (.goto (-26), 3) := by decide +kernel
theorem dX6_notZero_33 : decode mX6_notZero.2.1 33 = .ok (.iload_n 1, 1) := by decide +kernel
theorem dX6_notZero_34 : decode mX6_notZero.2.1 34 = .ok (.ireturn, 1) := by decide +kernel
def mX6_wipe : String × ByteArray × Nat := (RX6, cX6_wipe, 1)
theorem dX6_wipe_0 : decode mX6_wipe.2.1 0 = .ok (.aload_n 0, 1) := by decide +kernel
theorem dX6_wipe_1 : decode mX6_wipe.2.1 1 = .ok (.getfield 11, 3) := by decide +kernel
theorem dX6_wipe_4 : decode mX6_wipe.2.1 4 = .ok (.lconst 0, 1) := by decide +kernel
theorem dX6_wipe_5 : decode mX6_wipe.2.1 5 = .ok (.invokestatic 18, 3) := by decide +kernel
theorem dX6_wipe_8 : decode mX6_wipe.2.1 8 = .ok (.return_, 1) := by decide +kernel
def mX6_becomeLike : String × ByteArray × Nat := (RX6, cX6_becomeLike, 2)
theorem dX6_becomeLike_0 : decode mX6_becomeLike.2.1 0 = .ok (.aload_n 1, 1) := by decide +kernel
theorem dX6_becomeLike_1 : decode mX6_becomeLike.2.1 1 = .ok (.getfield 11, 3) := by decide +kernel
theorem dX6_becomeLike_4 : decode mX6_becomeLike.2.1 4 = .ok (.iconst 0, 1) := by decide +kernel
theorem dX6_becomeLike_5 : decode mX6_becomeLike.2.1 5 = .ok (.aload_n 0, 1) := by decide +kernel
theorem dX6_becomeLike_6 : decode mX6_becomeLike.2.1 6 = .ok (.getfield 11, 3) := by decide +kernel
theorem dX6_becomeLike_9 : decode mX6_becomeLike.2.1 9 = .ok (.iconst 0, 1) := by decide +kernel
theorem dX6_becomeLike_10 : decode mX6_becomeLike.2.1 10 = .ok (.aload_n 0, 1) := by decide +kernel
theorem dX6_becomeLike_11 : decode mX6_becomeLike.2.1 11 = .ok (.getfield 11, 3) := by decide +kernel
theorem dX6_becomeLike_14 : decode mX6_becomeLike.2.1 14 = .ok (.arraylength, 1) := by decide +kernel
theorem dX6_becomeLike_15 : decode mX6_becomeLike.2.1 15 = .ok (.invokestatic 24, 3) := by decide +kernel
theorem dX6_becomeLike_18 : decode mX6_becomeLike.2.1 18 = .ok (.return_, 1) := by decide +kernel
def mX6_isBeyond : String × ByteArray × Nat := (RX6, cX6_isBeyond, 2)
theorem dX6_isBeyond_0 : decode mX6_isBeyond.2.1 0 = .ok (.lload_n 0, 1) := by decide +kernel
theorem dX6_isBeyond_1 : decode mX6_isBeyond.2.1 1 = .ok (.ldc2_w 30, 3) := by decide +kernel
theorem dX6_isBeyond_4 : decode mX6_isBeyond.2.1 4 = .ok (.lcmp, 1) := by decide +kernel
theorem dX6_isBeyond_5 : decode mX6_isBeyond.2.1 5 = .ok (.ifCond .gt 11, 3) := by decide +kernel
theorem dX6_isBeyond_8 : decode mX6_isBeyond.2.1 8 = .ok (.lload_n 0, 1) := by decide +kernel
theorem dX6_isBeyond_9 : decode mX6_isBeyond.2.1 9 = .ok (.ldc2_w 32, 3) := by decide +kernel
theorem dX6_isBeyond_12 : decode mX6_isBeyond.2.1 12 = .ok (.lcmp, 1) := by decide +kernel
theorem dX6_isBeyond_13 : decode mX6_isBeyond.2.1 13 = .ok (.ifCond .ge 7, 3) := by decide +kernel
theorem dX6_isBeyond_16 : decode mX6_isBeyond.2.1 16 = .ok (.iconst 1, 1) := by decide +kernel
theorem dX6_isBeyond_17 : decode mX6_isBeyond.2.1 17 = .ok (.goto 4, 3) := by decide +kernel
theorem dX6_isBeyond_20 : decode mX6_isBeyond.2.1 20 = .ok (.iconst 0, 1) := by decide +kernel
theorem dX6_isBeyond_21 : decode mX6_isBeyond.2.1 21 = .ok (.ireturn, 1) := by decide +kernel
def mX6_begin : String × ByteArray × Nat := (RX6, cX6_begin, 1)
theorem dX6_begin_0 : decode mX6_begin.2.1 0 = .ok (.aload_n 0, 1) := by decide +kernel
theorem dX6_begin_1 : decode mX6_begin.2.1 1 = .ok (.getfield 11, 3) := by decide +kernel
theorem dX6_begin_4 : decode mX6_begin.2.1 4 = .ok (.iconst 0, 1) := by decide +kernel
theorem dX6_begin_5 : decode mX6_begin.2.1 5 = .ok (.aload_n 0, 1) := by decide +kernel
theorem dX6_begin_6 : decode mX6_begin.2.1 6 = .ok (.getfield 15, 3) := by decide +kernel
theorem dX6_begin_9 : decode mX6_begin.2.1 9 = .ok (.iconst 0, 1) := by decide +kernel
theorem dX6_begin_10 : decode mX6_begin.2.1 10 = .ok (.aload_n 0, 1) := by decide +kernel
theorem dX6_begin_11 : decode mX6_begin.2.1 11 = .ok (.getfield 11, 3) := by decide +kernel
theorem dX6_begin_14 : decode mX6_begin.2.1 14 = .ok (.arraylength, 1) := by decide +kernel
theorem dX6_begin_15 : decode mX6_begin.2.1 15 = .ok (.invokestatic 24, 3) := by decide +kernel
theorem dX6_begin_18 : decode mX6_begin.2.1 18 = .ok (.return_, 1) := by decide +kernel
def mX6_settle : String × ByteArray × Nat := (RX6, cX6_settle, 1)
theorem dX6_settle_0 : decode mX6_settle.2.1 0 = .ok (.aload_n 0, 1) := by decide +kernel
theorem dX6_settle_1 : decode mX6_settle.2.1 1 = .ok (.getfield 15, 3) := by decide +kernel
theorem dX6_settle_4 : decode mX6_settle.2.1 4 = .ok (.iconst 0, 1) := by decide +kernel
theorem dX6_settle_5 : decode mX6_settle.2.1 5 = .ok (.aload_n 0, 1) := by decide +kernel
theorem dX6_settle_6 : decode mX6_settle.2.1 6 = .ok (.getfield 11, 3) := by decide +kernel
theorem dX6_settle_9 : decode mX6_settle.2.1 9 = .ok (.iconst 0, 1) := by decide +kernel
theorem dX6_settle_10 : decode mX6_settle.2.1 10 = .ok (.aload_n 0, 1) := by decide +kernel
theorem dX6_settle_11 : decode mX6_settle.2.1 11 = .ok (.getfield 11, 3) := by decide +kernel
theorem dX6_settle_14 : decode mX6_settle.2.1 14 = .ok (.arraylength, 1) := by decide +kernel
theorem dX6_settle_15 : decode mX6_settle.2.1 15 = .ok (.invokestatic 24, 3) := by decide +kernel
theorem dX6_settle_18 : decode mX6_settle.2.1 18 = .ok (.return_, 1) := by decide +kernel
def mX6_take : String × ByteArray × Nat := (RX6, cX6_take, 8)
theorem dX6_take_0 : decode mX6_take.2.1 0 = .ok (.aload_n 0, 1) := by decide +kernel
theorem dX6_take_1 : decode mX6_take.2.1 1 = .ok (.invokevirtual 34, 3) := by decide +kernel
theorem dX6_take_4 : decode mX6_take.2.1 4 = .ok (.iload_n 2, 1) := by decide +kernel
theorem dX6_take_5 : decode mX6_take.2.1 5 = .ok (.iload_n 3, 1) := by decide +kernel
theorem dX6_take_6 : decode mX6_take.2.1 6 = .ok (.invokestatic 37, 3) := by decide +kernel
theorem dX6_take_9 : decode mX6_take.2.1 9 = .ok (.istore 5, 2) := by decide +kernel
theorem dX6_take_11 : decode mX6_take.2.1 11 = .ok (.iconst 0, 1) := by decide +kernel
theorem dX6_take_12 : decode mX6_take.2.1 12 = .ok (.istore 6, 2) := by decide +kernel
theorem dX6_take_14 : decode mX6_take.2.1 14 = .ok (.iload 6, 2) := by decide +kernel
theorem dX6_take_16 : decode mX6_take.2.1 16 = .ok (.iload 5, 2) := by decide +kernel
theorem dX6_take_18 : decode mX6_take.2.1 18 = .ok (.if_icmp .gt 56, 3) := by decide +kernel
theorem dX6_take_21 : decode mX6_take.2.1 21 = .ok (.iload_n 2, 1) := by decide +kernel
theorem dX6_take_22 : decode mX6_take.2.1 22 = .ok (.iload 6, 2) := by decide +kernel
theorem dX6_take_24 : decode mX6_take.2.1 24 = .ok (.isub, 1) := by decide +kernel
theorem dX6_take_25 : decode mX6_take.2.1 25 = .ok (.bipush 13, 2) := by decide +kernel
theorem dX6_take_27 : decode mX6_take.2.1 27 = .ok (.imul, 1) := by decide +kernel
theorem dX6_take_28 : decode mX6_take.2.1 28 = .ok (.iload_n 3, 1) := by decide +kernel
theorem dX6_take_29 : decode mX6_take.2.1 29 = .ok (.iadd, 1) := by decide +kernel
theorem dX6_take_30 : decode mX6_take.2.1 30 = .ok (.iload 6, 2) := by decide +kernel
theorem dX6_take_32 : decode mX6_take.2.1 32 = .ok (.isub, 1) := by decide +kernel
theorem dX6_take_33 : decode mX6_take.2.1 33 = .ok (.istore 7, 2) := by decide +kernel
theorem dX6_take_35 : decode mX6_take.2.1 35 = .ok (.aload_n 0, 1) := by decide +kernel
theorem dX6_take_36 : decode mX6_take.2.1 36 = .ok (.getfield 15, 3) := by decide +kernel
theorem dX6_take_39 : decode mX6_take.2.1 39 = .ok (.iload 7, 2) := by decide +kernel
theorem dX6_take_41 : decode mX6_take.2.1 41 = .ok (.dup2, 1) := by decide +kernel
theorem dX6_take_42 : decode mX6_take.2.1 42 = .ok (.laload, 1) := by decide +kernel
theorem dX6_take_43 : decode mX6_take.2.1 43 = .ok (.iload 4, 2) := by decide +kernel
theorem dX6_take_45 : decode mX6_take.2.1 45 = .ok (.i2l, 1) := by decide +kernel
theorem dX6_take_46 : decode mX6_take.2.1 46 = .ok (.aload_n 1, 1) := by decide +kernel
theorem dX6_take_47 : decode mX6_take.2.1 47 = .ok (.iload 6, 2) := by decide +kernel
theorem dX6_take_49 : decode mX6_take.2.1 49 = .ok (.laload, 1) := by decide +kernel
theorem dX6_take_50 : decode mX6_take.2.1 50 = .ok (.lmul, 1) := by decide +kernel
theorem dX6_take_51 : decode mX6_take.2.1 51 = .ok (.ladd, 1) := by decide +kernel
theorem dX6_take_52 : decode mX6_take.2.1 52 = .ok (.lastore, 1) := by decide +kernel
theorem dX6_take_53 : decode mX6_take.2.1 53 = .ok (.aload_n 0, 1) := by decide +kernel
theorem dX6_take_54 : decode mX6_take.2.1 54 = .ok (.getfield 15, 3) := by decide +kernel
theorem dX6_take_57 : decode mX6_take.2.1 57 = .ok (.iload 7, 2) := by decide +kernel
theorem dX6_take_59 : decode mX6_take.2.1 59 = .ok (.laload, 1) := by decide +kernel
theorem dX6_take_60 : decode mX6_take.2.1 60 = .ok (.invokestatic 43, 3) := by decide +kernel
theorem dX6_take_63 : decode mX6_take.2.1 63 = .ok (.ifCond .eq 5, 3) := by decide +kernel
theorem dX6_take_66 : decode mX6_take.2.1 66 = .ok (.iconst 0, 1) := by decide +kernel
theorem dX6_take_67 : decode mX6_take.2.1 67 = .ok (.ireturn, 1) := by decide +kernel
theorem dX6_take_68 : decode mX6_take.2.1 68 = .ok (.iinc 6 1, 3) := by decide +kernel
theorem dX6_take_71 : decode mX6_take.2.1 71 = .ok (.goto (-57), 3) := by decide +kernel
theorem dX6_take_74 : decode mX6_take.2.1 74 = .ok (.aload_n 0, 1) := by decide +kernel
theorem dX6_take_75 : decode mX6_take.2.1 75 = .ok (.invokevirtual 47, 3) := by decide +kernel
theorem dX6_take_78 : decode mX6_take.2.1 78 = .ok (.iconst 1, 1) := by decide +kernel
theorem dX6_take_79 : decode mX6_take.2.1 79 = .ok (.ireturn, 1) := by decide +kernel
def mX6_multiply : String × ByteArray × Nat := (RX6, cX6_multiply, 4)
theorem dX6_multiply_0 : decode mX6_multiply.2.1 0 = .ok (.aload_n 0, 1) := by decide +kernel
theorem dX6_multiply_1 : decode mX6_multiply.2.1 1 = .ok (.invokevirtual 34, 3) := by decide +kernel
theorem dX6_multiply_4 : decode mX6_multiply.2.1 4 = .ok (.iconst 0, 1) := by decide +kernel
theorem dX6_multiply_5 : decode mX6_multiply.2.1 5 = .ok (.istore_n 2, 1) := by decide +kernel
theorem dX6_multiply_6 : decode mX6_multiply.2.1 6 = .ok (.iload_n 2, 1) := by decide +kernel
theorem dX6_multiply_7 : decode mX6_multiply.2.1 7 = .ok (.aload_n 1, 1) := by decide +kernel
theorem dX6_multiply_8 : decode mX6_multiply.2.1 8 = .ok (.getfield 50, 3) := by decide +kernel
theorem dX6_multiply_11 : decode mX6_multiply.2.1 11 = .ok (.if_icmp .ge 36, 3) := by decide +kernel
theorem dX6_multiply_14 : decode mX6_multiply.2.1 14 = .ok (.aload_n 1, 1) := by decide +kernel
theorem dX6_multiply_15 : decode mX6_multiply.2.1 15 = .ok (.getfield 56, 3) := by decide +kernel
theorem dX6_multiply_18 : decode mX6_multiply.2.1 18 = .ok (.iload_n 2, 1) := by decide +kernel
theorem dX6_multiply_19 : decode mX6_multiply.2.1 19 = .ok (.iaload, 1) := by decide +kernel
theorem dX6_multiply_20 : decode mX6_multiply.2.1 20 = .ok (.ifCond .ne 10, 3) := by decide +kernel
theorem dX6_multiply_23 : decode mX6_multiply.2.1 23 = .ok (.aload_n 0, 1) := by decide +kernel
theorem dX6_multiply_24 : decode mX6_multiply.2.1 24 = .ok (.invokevirtual 60, 3) := by decide +kernel
theorem dX6_multiply_27 : decode mX6_multiply.2.1 27 = .ok (.goto 7, 3) := by decide +kernel
theorem dX6_multiply_30 : decode mX6_multiply.2.1 30 = .ok (.aload_n 0, 1) := by decide +kernel
theorem dX6_multiply_31 : decode mX6_multiply.2.1 31 = .ok (.invokevirtual 64, 3) := by decide +kernel
theorem dX6_multiply_34 : decode mX6_multiply.2.1 34 = .ok (.istore_n 3, 1) := by decide +kernel
theorem dX6_multiply_35 : decode mX6_multiply.2.1 35 = .ok (.iload_n 3, 1) := by decide +kernel
theorem dX6_multiply_36 : decode mX6_multiply.2.1 36 = .ok (.ifCond .ne 5, 3) := by decide +kernel
theorem dX6_multiply_39 : decode mX6_multiply.2.1 39 = .ok (.iconst 0, 1) := by decide +kernel
theorem dX6_multiply_40 : decode mX6_multiply.2.1 40 = .ok (.ireturn, 1) := by decide +kernel
theorem dX6_multiply_41 : decode mX6_multiply.2.1 41 = .ok (.iinc 2 1, 3) := by decide +kernel
theorem dX6_multiply_44 : decode mX6_multiply.2.1 44 = .ok (.goto (-38), 3) := by decide +kernel
theorem dX6_multiply_47 : decode mX6_multiply.2.1 47 = .ok (.aload_n 0, 1) := by decide +kernel
theorem dX6_multiply_48 : decode mX6_multiply.2.1 48 = .ok (.invokevirtual 47, 3) := by decide +kernel
theorem dX6_multiply_51 : decode mX6_multiply.2.1 51 = .ok (.iconst 1, 1) := by decide +kernel
theorem dX6_multiply_52 : decode mX6_multiply.2.1 52 = .ok (.ireturn, 1) := by decide +kernel
def mX6_comingByUp : String × ByteArray × Nat := (RX6, cX6_comingByUp, 7)
theorem dX6_comingByUp_0 : decode mX6_comingByUp.2.1 0 = .ok (.iconst 0, 1) := by decide +kernel
theorem dX6_comingByUp_1 : decode mX6_comingByUp.2.1 1 = .ok (.istore_n 1, 1) := by decide +kernel
theorem dX6_comingByUp_2 : decode mX6_comingByUp.2.1 2 = .ok (.iload_n 1, 1) := by decide +kernel
theorem dX6_comingByUp_3 : decode mX6_comingByUp.2.1 3 = .ok (.bipush 13, 2) := by decide +kernel
theorem dX6_comingByUp_5 : decode mX6_comingByUp.2.1 5 = .ok (.if_icmp .ge 26, 3) := by decide +kernel
theorem dX6_comingByUp_8 : decode mX6_comingByUp.2.1 8 = .ok (.aload_n 0, 1) := by decide +kernel
theorem dX6_comingByUp_9 : decode mX6_comingByUp.2.1 9 = .ok (.getfield 15, 3) := by decide +kernel
theorem dX6_comingByUp_12 : decode mX6_comingByUp.2.1 12 = .ok (.sipush 156, 3) := by decide +kernel
theorem dX6_comingByUp_15 : decode mX6_comingByUp.2.1 15 = .ok (.iload_n 1, 1) := by decide +kernel
theorem dX6_comingByUp_16 : decode mX6_comingByUp.2.1 16 = .ok (.iadd, 1) := by decide +kernel
theorem dX6_comingByUp_17 : decode mX6_comingByUp.2.1 17 = .ok (.laload, 1) := by decide +kernel
theorem dX6_comingByUp_18 : decode mX6_comingByUp.2.1 18 = .ok (.lconst 0, 1) := by decide +kernel
theorem dX6_comingByUp_19 : decode mX6_comingByUp.2.1 19 = .ok (.lcmp, 1) := by decide +kernel
theorem dX6_comingByUp_20 : decode mX6_comingByUp.2.1 20 = .ok (.ifCond .eq 5, 3) := by decide +kernel
theorem dX6_comingByUp_23 : decode mX6_comingByUp.2.1 23 = .ok (.iconst 0, 1) := by decide +kernel
theorem dX6_comingByUp_24 : decode mX6_comingByUp.2.1 24 = .ok (.ireturn, 1) := by decide +kernel
theorem dX6_comingByUp_25 : decode mX6_comingByUp.2.1 25 = .ok (.iinc 1 1, 3) := by decide +kernel
theorem dX6_comingByUp_28 : decode mX6_comingByUp.2.1 28 = .ok (.goto (-26), 3) := by decide +kernel
theorem dX6_comingByUp_31 : decode mX6_comingByUp.2.1 31 = .ok (.bipush 12, 2) := by decide +kernel
theorem dX6_comingByUp_33 : decode mX6_comingByUp.2.1 33 = .ok (.istore_n 1, 1) := by decide +kernel
theorem dX6_comingByUp_34 : decode mX6_comingByUp.2.1 34 = .ok (.iload_n 1, 1) := by decide +kernel
theorem dX6_comingByUp_35 : decode mX6_comingByUp.2.1 35 = .ok (.ifCond .lt 102, 3) := by decide +kernel
theorem dX6_comingByUp_38 : decode mX6_comingByUp.2.1 38 = .ok (.iconst 0, 1) := by decide +kernel
theorem dX6_comingByUp_39 : decode mX6_comingByUp.2.1 39 = .ok (.istore_n 2, 1) := by decide +kernel
theorem dX6_comingByUp_40 : decode mX6_comingByUp.2.1 40 = .ok (.iload_n 2, 1) := by decide +kernel
theorem dX6_comingByUp_41 : decode mX6_comingByUp.2.1 41 = .ok (.bipush 13, 2) := by decide +kernel
theorem dX6_comingByUp_43 : decode mX6_comingByUp.2.1 43 = .ok (.if_icmp .ge 88, 3) := by decide +kernel
theorem dX6_comingByUp_46 : decode mX6_comingByUp.2.1 46 = .ok (.iload_n 1, 1) := by decide +kernel
theorem dX6_comingByUp_47 : decode mX6_comingByUp.2.1 47 = .ok (.ifCond .le 19, 3) := by decide +kernel
theorem dX6_comingByUp_50 : decode mX6_comingByUp.2.1 50 = .ok (.aload_n 0, 1) := by decide +kernel
theorem dX6_comingByUp_51 : decode mX6_comingByUp.2.1 51 = .ok (.getfield 15, 3) := by decide +kernel
theorem dX6_comingByUp_54 : decode mX6_comingByUp.2.1 54 = .ok (.iload_n 1, 1) := by decide +kernel
theorem dX6_comingByUp_55 : decode mX6_comingByUp.2.1 55 = .ok (.iconst 1, 1) := by decide +kernel
theorem dX6_comingByUp_56 : decode mX6_comingByUp.2.1 56 = .ok (.isub, 1) := by decide +kernel
theorem dX6_comingByUp_57 : decode mX6_comingByUp.2.1 57 = .ok (.bipush 13, 2) := by decide +kernel
theorem dX6_comingByUp_59 : decode mX6_comingByUp.2.1 59 = .ok (.imul, 1) := by decide +kernel
theorem dX6_comingByUp_60 : decode mX6_comingByUp.2.1 60 = .ok (.iload_n 2, 1) := by decide +kernel
theorem dX6_comingByUp_61 : decode mX6_comingByUp.2.1 61 = .ok (.iadd, 1) := by decide +kernel
theorem dX6_comingByUp_62 : decode mX6_comingByUp.2.1 62 = .ok (.laload, 1) := by decide +kernel
theorem dX6_comingByUp_63 : decode mX6_comingByUp.2.1 63 = .ok (.goto 4, 3) := by decide +kernel
theorem dX6_comingByUp_66 : decode mX6_comingByUp.2.1 66 = .ok (.lconst 0, 1) := by decide +kernel
theorem dX6_comingByUp_67 : decode mX6_comingByUp.2.1 67 = .ok (.lstore_n 3, 1) := by decide +kernel
theorem dX6_comingByUp_68 : decode mX6_comingByUp.2.1 68 = .ok (.iload_n 2, 1) := by decide +kernel
theorem dX6_comingByUp_69 : decode mX6_comingByUp.2.1 69 = .ok (.bipush 12, 2) := by decide +kernel
theorem dX6_comingByUp_71 : decode mX6_comingByUp.2.1 71 = .ok (.if_icmp .ge 24, 3) := by decide +kernel
theorem dX6_comingByUp_74 : decode mX6_comingByUp.2.1 74 = .ok (.iload_n 2, 1) := by decide +kernel
theorem dX6_comingByUp_75 : decode mX6_comingByUp.2.1 75 = .ok (.iconst 1, 1) := by decide +kernel
theorem dX6_comingByUp_76 : decode mX6_comingByUp.2.1 76 = .ok (.iadd, 1) := by decide +kernel
theorem dX6_comingByUp_77 : decode mX6_comingByUp.2.1 77 = .ok (.i2l, 1) := by decide +kernel
theorem dX6_comingByUp_78 : decode mX6_comingByUp.2.1 78 = .ok (.aload_n 0, 1) := by decide +kernel
theorem dX6_comingByUp_79 : decode mX6_comingByUp.2.1 79 = .ok (.getfield 15, 3) := by decide +kernel
theorem dX6_comingByUp_82 : decode mX6_comingByUp.2.1 82 = .ok (.iload_n 1, 1) := by decide +kernel
theorem dX6_comingByUp_83 : decode mX6_comingByUp.2.1 83 = .ok (.bipush 13, 2) := by decide +kernel
theorem dX6_comingByUp_85 : decode mX6_comingByUp.2.1 85 = .ok (.imul, 1) := by decide +kernel
theorem dX6_comingByUp_86 : decode mX6_comingByUp.2.1 86 = .ok (.iload_n 2, 1) := by decide +kernel
theorem dX6_comingByUp_87 : decode mX6_comingByUp.2.1 87 = .ok (.iadd, 1) := by decide +kernel
theorem dX6_comingByUp_88 : decode mX6_comingByUp.2.1 88 = .ok (.iconst 1, 1) := by decide +kernel
theorem dX6_comingByUp_89 : decode mX6_comingByUp.2.1 89 = .ok (.iadd, 1) := by decide +kernel
theorem dX6_comingByUp_90 : decode mX6_comingByUp.2.1 90 = .ok (.laload, 1) := by decide +kernel
theorem dX6_comingByUp_91 : decode mX6_comingByUp.2.1 91 = .ok (.lmul, 1) := by decide +kernel
theorem dX6_comingByUp_92 : decode mX6_comingByUp.2.1 92 = .ok (.goto 4, 3) := by decide +kernel
theorem dX6_comingByUp_95 : decode mX6_comingByUp.2.1 95 = .ok (.lconst 0, 1) := by decide +kernel
theorem dX6_comingByUp_96 : decode mX6_comingByUp.2.1 96 = .ok (.lstore 5, 2) := by decide +kernel
theorem dX6_comingByUp_98 : decode mX6_comingByUp.2.1 98 = .ok (.aload_n 0, 1) := by decide +kernel
theorem dX6_comingByUp_99 : decode mX6_comingByUp.2.1 99 = .ok (.getfield 15, 3) := by decide +kernel
theorem dX6_comingByUp_102 : decode mX6_comingByUp.2.1 102 = .ok (.iload_n 1, 1) := by decide +kernel
theorem dX6_comingByUp_103 : decode mX6_comingByUp.2.1 103 = .ok (.bipush 13, 2) := by decide +kernel
theorem dX6_comingByUp_105 : decode mX6_comingByUp.2.1 105 = .ok (.imul, 1) := by decide +kernel
theorem dX6_comingByUp_106 : decode mX6_comingByUp.2.1 106 = .ok (.iload_n 2, 1) := by decide +kernel
theorem dX6_comingByUp_107 : decode mX6_comingByUp.2.1 107 = .ok (.iadd, 1) := by decide +kernel
theorem dX6_comingByUp_108 : decode mX6_comingByUp.2.1 108 = .ok (.lload_n 3, 1) := by decide +kernel
theorem dX6_comingByUp_109 : decode mX6_comingByUp.2.1 109 = .ok (.lload 5, 2) := by decide +kernel
theorem dX6_comingByUp_111 : decode mX6_comingByUp.2.1 111 = .ok (.ladd, 1) := by decide +kernel
theorem dX6_comingByUp_112 : decode mX6_comingByUp.2.1 112 = .ok (.lastore, 1) := by decide +kernel
theorem dX6_comingByUp_113 : decode mX6_comingByUp.2.1 113 = .ok (.lload_n 3, 1) := by decide +kernel
theorem dX6_comingByUp_114 : decode mX6_comingByUp.2.1 114 = .ok (.lload 5, 2) := by decide +kernel
theorem dX6_comingByUp_116 : decode mX6_comingByUp.2.1 116 = .ok (.ladd, 1) := by decide +kernel
theorem dX6_comingByUp_117 : decode mX6_comingByUp.2.1 117 = .ok (.invokestatic 43, 3) := by decide +kernel
theorem dX6_comingByUp_120 : decode mX6_comingByUp.2.1 120 = .ok (.ifCond .eq 5, 3) := by decide +kernel
theorem dX6_comingByUp_123 : decode mX6_comingByUp.2.1 123 = .ok (.iconst 0, 1) := by decide +kernel
theorem dX6_comingByUp_124 : decode mX6_comingByUp.2.1 124 = .ok (.ireturn, 1) := by decide +kernel
theorem dX6_comingByUp_125 : decode mX6_comingByUp.2.1 125 = .ok (.iinc 2 1, 3) := by decide +kernel
theorem dX6_comingByUp_128 : decode mX6_comingByUp.2.1 128 = .ok (.goto (-88), 3) := by decide +kernel
theorem dX6_comingByUp_131 : decode mX6_comingByUp.2.1 131 = .ok (.iinc 1 (-1), 3) := by decide +kernel
theorem dX6_comingByUp_134 : decode mX6_comingByUp.2.1 134 = .ok (.goto (-100), 3) := by decide +kernel
theorem dX6_comingByUp_137 : decode mX6_comingByUp.2.1 137 = .ok (.iconst 1, 1) := by decide +kernel
theorem dX6_comingByUp_138 : decode mX6_comingByUp.2.1 138 = .ok (.ireturn, 1) := by decide +kernel
def mX6_comingByDown : String × ByteArray × Nat := (RX6, cX6_comingByDown, 3)
theorem dX6_comingByDown_0 : decode mX6_comingByDown.2.1 0 = .ok (.iconst 0, 1) := by decide +kernel
theorem dX6_comingByDown_1 : decode mX6_comingByDown.2.1 1 = .ok (.istore_n 1, 1) := by decide +kernel
theorem dX6_comingByDown_2 : decode mX6_comingByDown.2.1 2 = .ok (.iload_n 1, 1) := by decide +kernel
theorem dX6_comingByDown_3 : decode mX6_comingByDown.2.1 3 = .ok (.bipush 13, 2) := by decide +kernel
theorem dX6_comingByDown_5 : decode mX6_comingByDown.2.1 5 = .ok (.if_icmp .ge 54, 3) := by decide +kernel
theorem dX6_comingByDown_8 : decode mX6_comingByDown.2.1 8 = .ok (.iload_n 1, 1) := by decide +kernel
theorem dX6_comingByDown_9 : decode mX6_comingByDown.2.1 9 = .ok (.bipush 13, 2) := by decide +kernel
theorem dX6_comingByDown_11 : decode mX6_comingByDown.2.1 11 = .ok (.imul, 1) := by decide +kernel
theorem dX6_comingByDown_12 : decode mX6_comingByDown.2.1 12 = .ok (.istore_n 2, 1) := by decide +kernel
theorem dX6_comingByDown_13 : decode mX6_comingByDown.2.1 13 = .ok (.aload_n 0, 1) := by decide +kernel
theorem dX6_comingByDown_14 : decode mX6_comingByDown.2.1 14 = .ok (.getfield 15, 3) := by decide +kernel
theorem dX6_comingByDown_17 : decode mX6_comingByDown.2.1 17 = .ok (.iload_n 2, 1) := by decide +kernel
theorem dX6_comingByDown_18 : decode mX6_comingByDown.2.1 18 = .ok (.bipush 12, 2) := by decide +kernel
theorem dX6_comingByDown_20 : decode mX6_comingByDown.2.1 20 = .ok (.iadd, 1) := by decide +kernel
theorem dX6_comingByDown_21 : decode mX6_comingByDown.2.1 21 = .ok (.laload, 1) := by decide +kernel
theorem dX6_comingByDown_22 : decode mX6_comingByDown.2.1 22 = .ok (.lconst 0, 1) := by decide +kernel
theorem dX6_comingByDown_23 : decode mX6_comingByDown.2.1 23 = .ok (.lcmp, 1) := by decide +kernel
theorem dX6_comingByDown_24 : decode mX6_comingByDown.2.1 24 = .ok (.ifCond .eq 5, 3) := by decide +kernel
theorem dX6_comingByDown_27 : decode mX6_comingByDown.2.1 27 = .ok (.iconst 0, 1) := by decide +kernel
theorem dX6_comingByDown_28 : decode mX6_comingByDown.2.1 28 = .ok (.ireturn, 1) := by decide +kernel
theorem dX6_comingByDown_29 : decode mX6_comingByDown.2.1 29 = .ok (.aload_n 0, 1) := by decide +kernel
theorem dX6_comingByDown_30 : decode mX6_comingByDown.2.1 30 = .ok (.getfield 15, 3) := by decide +kernel
theorem dX6_comingByDown_33 : decode mX6_comingByDown.2.1 33 = .ok (.iload_n 2, 1) := by decide +kernel
theorem dX6_comingByDown_34 : decode mX6_comingByDown.2.1 34 = .ok (.aload_n 0, 1) := by decide +kernel
theorem dX6_comingByDown_35 : decode mX6_comingByDown.2.1 35 = .ok (.getfield 15, 3) := by decide +kernel
theorem dX6_comingByDown_38 : decode mX6_comingByDown.2.1 38 = .ok (.iload_n 2, 1) := by decide +kernel
theorem dX6_comingByDown_39 : decode mX6_comingByDown.2.1 39 = .ok (.iconst 1, 1) := by decide +kernel
theorem dX6_comingByDown_40 : decode mX6_comingByDown.2.1 40 = .ok (.iadd, 1) := by decide +kernel
theorem dX6_comingByDown_41 : decode mX6_comingByDown.2.1 41 = .ok (.bipush 12, 2) := by decide +kernel
theorem dX6_comingByDown_43 : decode mX6_comingByDown.2.1 43 = .ok (.invokestatic 24, 3) := by decide +kernel
theorem dX6_comingByDown_46 : decode mX6_comingByDown.2.1 46 = .ok (.aload_n 0, 1) := by decide +kernel
theorem dX6_comingByDown_47 : decode mX6_comingByDown.2.1 47 = .ok (.getfield 15, 3) := by decide +kernel
theorem dX6_comingByDown_50 : decode mX6_comingByDown.2.1 50 = .ok (.iload_n 2, 1) := by decide +kernel
theorem dX6_comingByDown_51 : decode mX6_comingByDown.2.1 51 = .ok (.lconst 0, 1) := by decide +kernel
theorem dX6_comingByDown_52 : decode mX6_comingByDown.2.1 52 = .ok (.lastore, 1) := by decide +kernel
theorem dX6_comingByDown_53 : decode mX6_comingByDown.2.1 53 = .ok (.iinc 1 1, 3) := by decide +kernel
theorem dX6_comingByDown_56 : decode mX6_comingByDown.2.1 56 = .ok (.goto (-54), 3) := by decide +kernel
theorem dX6_comingByDown_59 : decode mX6_comingByDown.2.1 59 = .ok (.iconst 1, 1) := by decide +kernel
theorem dX6_comingByDown_60 : decode mX6_comingByDown.2.1 60 = .ok (.ireturn, 1) := by decide +kernel
def mX7_init : String × ByteArray × Nat := (RX7, cX7_init, 1)
theorem dX7_init_0 : decode mX7_init.2.1 0 = .ok (.aload_n 0, 1) := by decide +kernel
theorem dX7_init_1 : decode mX7_init.2.1 1 = .ok (.invokespecial 3, 3) := by decide +kernel
theorem dX7_init_4 : decode mX7_init.2.1 4 = .ok (.aload_n 0, 1) := by decide +kernel
theorem dX7_init_5 : decode mX7_init.2.1 5 = .ok (.iconst (-1), 1) := by decide +kernel
theorem dX7_init_6 : decode mX7_init.2.1 6 = .ok (.putfield 9, 3) := by decide +kernel
theorem dX7_init_9 : decode mX7_init.2.1 9 = .ok (.aload_n 0, 1) := by decide +kernel
theorem dX7_init_10 : decode mX7_init.2.1 10 = .ok (.bipush 60, 2) := by decide +kernel
theorem dX7_init_12 : decode mX7_init.2.1 12 = .ok (.newarray .long, 2) := by decide +kernel
theorem dX7_init_14 : decode mX7_init.2.1 14 = .ok (.putfield 15, 3) := by decide +kernel
theorem dX7_init_17 : decode mX7_init.2.1 17 = .ok (.return_, 1) := by decide +kernel
def mX7_become : String × ByteArray × Nat := (RX7, cX7_become, 3)
theorem dX7_become_0 : decode mX7_become.2.1 0 = .ok (.aload_n 0, 1) := by decide +kernel
theorem dX7_become_1 : decode mX7_become.2.1 1 = .ok (.iload_n 1, 1) := by decide +kernel
theorem dX7_become_2 : decode mX7_become.2.1 2 = .ok (.putfield 9, 3) := by decide +kernel
theorem dX7_become_5 : decode mX7_become.2.1 5 = .ok (.aload_n 0, 1) := by decide +kernel
theorem dX7_become_6 : decode mX7_become.2.1 6 = .ok (.iload_n 2, 1) := by decide +kernel
theorem dX7_become_7 : decode mX7_become.2.1 7 = .ok (.putfield 19, 3) := by decide +kernel
theorem dX7_become_10 : decode mX7_become.2.1 10 = .ok (.aload_n 0, 1) := by decide +kernel
theorem dX7_become_11 : decode mX7_become.2.1 11 = .ok (.getfield 15, 3) := by decide +kernel
theorem dX7_become_14 : decode mX7_become.2.1 14 = .ok (.lconst 0, 1) := by decide +kernel
theorem dX7_become_15 : decode mX7_become.2.1 15 = .ok (.invokestatic 22, 3) := by decide +kernel
theorem dX7_become_18 : decode mX7_become.2.1 18 = .ok (.return_, 1) := by decide +kernel
def mX7_hasPart : String × ByteArray × Nat := (RX7, cX7_hasPart, 3)
theorem dX7_hasPart_0 : decode mX7_hasPart.2.1 0 = .ok (.iload_n 2, 1) := by decide +kernel
theorem dX7_hasPart_1 : decode mX7_hasPart.2.1 1 = .ok (.ifCond .lt 29, 3) := by decide +kernel
theorem dX7_hasPart_4 : decode mX7_hasPart.2.1 4 = .ok (.iload_n 1, 1) := by decide +kernel
theorem dX7_hasPart_5 : decode mX7_hasPart.2.1 5 = .ok (.ifCond .lt 25, 3) := by decide +kernel
theorem dX7_hasPart_8 : decode mX7_hasPart.2.1 8 = .ok (.iload_n 2, 1) := by decide +kernel
theorem dX7_hasPart_9 : decode mX7_hasPart.2.1 9 = .ok (.aload_n 0, 1) := by decide +kernel
theorem dX7_hasPart_10 : decode mX7_hasPart.2.1 10 = .ok (.getfield 19, 3) := by decide +kernel
theorem dX7_hasPart_13 : decode mX7_hasPart.2.1 13 = .ok (.if_icmp .gt 17, 3) := by decide +kernel
theorem dX7_hasPart_16 : decode mX7_hasPart.2.1 16 = .ok (.iload_n 1, 1) := by decide +kernel
theorem dX7_hasPart_17 : decode mX7_hasPart.2.1 17 = .ok (.aload_n 0, 1) := by decide +kernel
theorem dX7_hasPart_18 : decode mX7_hasPart.2.1 18 = .ok (.getfield 19, 3) := by decide +kernel
theorem dX7_hasPart_21 : decode mX7_hasPart.2.1 21 = .ok (.iload_n 2, 1) := by decide +kernel
theorem dX7_hasPart_22 : decode mX7_hasPart.2.1 22 = .ok (.isub, 1) := by decide +kernel
theorem dX7_hasPart_23 : decode mX7_hasPart.2.1 23 = .ok (.if_icmp .gt 7, 3) := by decide +kernel
theorem dX7_hasPart_26 : decode mX7_hasPart.2.1 26 = .ok (.iconst 1, 1) := by decide +kernel
theorem dX7_hasPart_27 : decode mX7_hasPart.2.1 27 = .ok (.goto 4, 3) := by decide +kernel
theorem dX7_hasPart_30 : decode mX7_hasPart.2.1 30 = .ok (.iconst 0, 1) := by decide +kernel
theorem dX7_hasPart_31 : decode mX7_hasPart.2.1 31 = .ok (.ireturn, 1) := by decide +kernel
def mX7_asItem : String × ByteArray × Nat := (RX7, cX7_asItem, 3)
theorem dX7_asItem_0 : decode mX7_asItem.2.1 0 = .ok (.aload_n 0, 1) := by decide +kernel
theorem dX7_asItem_1 : decode mX7_asItem.2.1 1 = .ok (.getfield 9, 3) := by decide +kernel
theorem dX7_asItem_4 : decode mX7_asItem.2.1 4 = .ok (.tableswitch 62 0 4 #[36, 41, 46, 62, 50], 36) := by decide +kernel
theorem dX7_asItem_40 : decode mX7_asItem.2.1 40 = .ok (.lload_n 1, 1) := by decide +kernel
theorem dX7_asItem_41 : decode mX7_asItem.2.1 41 = .ok (.l2i, 1) := by decide +kernel
theorem dX7_asItem_42 : decode mX7_asItem.2.1 42 = .ok (.i2b, 1) := by decide +kernel
theorem dX7_asItem_43 : decode mX7_asItem.2.1 43 = .ok (.i2l, 1) := by decide +kernel
theorem dX7_asItem_44 : decode mX7_asItem.2.1 44 = .ok (.lreturn, 1) := by decide +kernel
theorem dX7_asItem_45 : decode mX7_asItem.2.1 45 = .ok (.lload_n 1, 1) := by decide +kernel
theorem dX7_asItem_46 : decode mX7_asItem.2.1 46 = .ok (.l2i, 1) := by decide +kernel
theorem dX7_asItem_47 : decode mX7_asItem.2.1 47 = .ok (.i2s, 1) := by decide +kernel
theorem dX7_asItem_48 : decode mX7_asItem.2.1 48 = .ok (.i2l, 1) := by decide +kernel
theorem dX7_asItem_49 : decode mX7_asItem.2.1 49 = .ok (.lreturn, 1) := by decide +kernel
theorem dX7_asItem_50 : decode mX7_asItem.2.1 50 = .ok (.lload_n 1, 1) := by decide +kernel
theorem dX7_asItem_51 : decode mX7_asItem.2.1 51 = .ok (.l2i, 1) := by decide +kernel
theorem dX7_asItem_52 : decode mX7_asItem.2.1 52 = .ok (.i2l, 1) := by decide +kernel
theorem dX7_asItem_53 : decode mX7_asItem.2.1 53 = .ok (.lreturn, 1) := by decide +kernel
theorem dX7_asItem_54 : decode mX7_asItem.2.1 54 = .ok (.lload_n 1, 1) := by decide +kernel
theorem dX7_asItem_55 : decode mX7_asItem.2.1 55 = .ok (.lconst 0, 1) := by decide +kernel
theorem dX7_asItem_56 : decode mX7_asItem.2.1 56 = .ok (.lcmp, 1) := by decide +kernel
theorem dX7_asItem_57 : decode mX7_asItem.2.1 57 = .ok (.ifCond .eq 7, 3) := by decide +kernel
theorem dX7_asItem_60 : decode mX7_asItem.2.1 60 = .ok (.lconst 1, 1) := by decide +kernel
theorem dX7_asItem_61 : decode mX7_asItem.2.1 61 = .ok (.goto 4, 3) := by decide +kernel
theorem dX7_asItem_64 : decode mX7_asItem.2.1 64 = .ok (.lconst 0, 1) := by decide +kernel
theorem dX7_asItem_65 : decode mX7_asItem.2.1 65 = .ok (.lreturn, 1) := by decide +kernel
theorem dX7_asItem_66 : decode mX7_asItem.2.1 66 = .ok (.lload_n 1, 1) := by decide +kernel
theorem dX7_asItem_67 : decode mX7_asItem.2.1 67 = .ok (.lreturn, 1) := by decide +kernel
def mX8_init : String × ByteArray × Nat := (RX8, cX8_init, 1)
theorem dX8_init_0 : decode mX8_init.2.1 0 = .ok (.aload_n 0, 1) := by decide +kernel
theorem dX8_init_1 : decode mX8_init.2.1 1 = .ok (.invokespecial 3, 3) := by decide +kernel
theorem dX8_init_4 : decode mX8_init.2.1 4 = .ok (.aload_n 0, 1) := by decide +kernel
theorem dX8_init_5 : decode mX8_init.2.1 5 = .ok (.bipush 80, 2) := by decide +kernel
theorem dX8_init_7 : decode mX8_init.2.1 7 = .ok (.newarray .int, 2) := by decide +kernel
theorem dX8_init_9 : decode mX8_init.2.1 9 = .ok (.putfield 11, 3) := by decide +kernel
theorem dX8_init_12 : decode mX8_init.2.1 12 = .ok (.aload_n 0, 1) := by decide +kernel
theorem dX8_init_13 : decode mX8_init.2.1 13 = .ok (.bipush 72, 2) := by decide +kernel
theorem dX8_init_15 : decode mX8_init.2.1 15 = .ok (.newarray .int, 2) := by decide +kernel
theorem dX8_init_17 : decode mX8_init.2.1 17 = .ok (.putfield 15, 3) := by decide +kernel
theorem dX8_init_20 : decode mX8_init.2.1 20 = .ok (.aload_n 0, 1) := by decide +kernel
theorem dX8_init_21 : decode mX8_init.2.1 21 = .ok (.iconst 5, 1) := by decide +kernel
theorem dX8_init_22 : decode mX8_init.2.1 22 = .ok (.newarray .int, 2) := by decide +kernel
theorem dX8_init_24 : decode mX8_init.2.1 24 = .ok (.putfield 18, 3) := by decide +kernel
theorem dX8_init_27 : decode mX8_init.2.1 27 = .ok (.return_, 1) := by decide +kernel
def mX8_push : String × ByteArray × Nat := (RX8, cX8_push, 2)
theorem dX8_push_0 : decode mX8_push.2.1 0 = .ok (.aload_n 0, 1) := by decide +kernel
theorem dX8_push_1 : decode mX8_push.2.1 1 = .ok (.getfield 21, 3) := by decide +kernel
theorem dX8_push_4 : decode mX8_push.2.1 4 = .ok (.bipush 80, 2) := by decide +kernel
theorem dX8_push_6 : decode mX8_push.2.1 6 = .ok (.if_icmp .lt 5, 3) := by decide +kernel
theorem dX8_push_9 : decode mX8_push.2.1 9 = .ok (.iconst 0, 1) := by decide +kernel
theorem dX8_push_10 : decode mX8_push.2.1 10 = .ok (.ireturn, 1) := by decide +kernel
theorem dX8_push_11 : decode mX8_push.2.1 11 = .ok (.aload_n 0, 1) := by decide +kernel
theorem dX8_push_12 : decode mX8_push.2.1 12 = .ok (.getfield 11, 3) := by decide +kernel
theorem dX8_push_15 : decode mX8_push.2.1 15 = .ok (.aload_n 0, 1) := by decide +kernel
theorem dX8_push_16 : decode mX8_push.2.1 16 = .ok (.getfield 21, 3) := by decide +kernel
theorem dX8_push_19 : decode mX8_push.2.1 19 = .ok (.iload_n 1, 1) := by decide +kernel
theorem dX8_push_20 : decode mX8_push.2.1 20 = .ok (.iastore, 1) := by decide +kernel
theorem dX8_push_21 : decode mX8_push.2.1 21 = .ok (.aload_n 0, 1) := by decide +kernel
theorem dX8_push_22 : decode mX8_push.2.1 22 = .ok (.dup, 1) := by decide +kernel
theorem dX8_push_23 : decode mX8_push.2.1 23 = .ok (.getfield 21, 3) := by decide +kernel
theorem dX8_push_26 : decode mX8_push.2.1 26 = .ok (.iconst 1, 1) := by decide +kernel
theorem dX8_push_27 : decode mX8_push.2.1 27 = .ok (.iadd, 1) := by decide +kernel
theorem dX8_push_28 : decode mX8_push.2.1 28 = .ok (.putfield 21, 3) := by decide +kernel
theorem dX8_push_31 : decode mX8_push.2.1 31 = .ok (.iconst 1, 1) := by decide +kernel
theorem dX8_push_32 : decode mX8_push.2.1 32 = .ok (.ireturn, 1) := by decide +kernel
def mX8_isFigure : String × ByteArray × Nat := (RX8, cX8_isFigure, 2)
theorem dX8_isFigure_0 : decode mX8_isFigure.2.1 0 = .ok (.iload_n 1, 1) := by decide +kernel
theorem dX8_isFigure_1 : decode mX8_isFigure.2.1 1 = .ok (.aload_n 0, 1) := by decide +kernel
theorem dX8_isFigure_2 : decode mX8_isFigure.2.1 2 = .ok (.getfield 21, 3) := by decide +kernel
theorem dX8_isFigure_5 : decode mX8_isFigure.2.1 5 = .ok (.if_icmp .ge 29, 3) := by decide +kernel
theorem dX8_isFigure_8 : decode mX8_isFigure.2.1 8 = .ok (.aload_n 0, 1) := by decide +kernel
theorem dX8_isFigure_9 : decode mX8_isFigure.2.1 9 = .ok (.getfield 11, 3) := by decide +kernel
theorem dX8_isFigure_12 : decode mX8_isFigure.2.1 12 = .ok (.iload_n 1, 1) := by decide +kernel
theorem dX8_isFigure_13 : decode mX8_isFigure.2.1 13 = .ok (.iaload, 1) := by decide +kernel
theorem dX8_isFigure_14 : decode mX8_isFigure.2.1 14 = .ok (.bipush 48, 2) := by decide +kernel
theorem dX8_isFigure_16 : decode mX8_isFigure.2.1 16 = .ok (.if_icmp .lt 18, 3) := by decide +kernel
theorem dX8_isFigure_19 : decode mX8_isFigure.2.1 19 = .ok (.aload_n 0, 1) := by decide +kernel
theorem dX8_isFigure_20 : decode mX8_isFigure.2.1 20 = .ok (.getfield 11, 3) := by decide +kernel
theorem dX8_isFigure_23 : decode mX8_isFigure.2.1 23 = .ok (.iload_n 1, 1) := by decide +kernel
theorem dX8_isFigure_24 : decode mX8_isFigure.2.1 24 = .ok (.iaload, 1) := by decide +kernel
theorem dX8_isFigure_25 : decode mX8_isFigure.2.1 25 = .ok (.bipush 57, 2) := by decide +kernel
theorem dX8_isFigure_27 : decode mX8_isFigure.2.1 27 = .ok (.if_icmp .gt 7, 3) := by decide +kernel
theorem dX8_isFigure_30 : decode mX8_isFigure.2.1 30 = .ok (.iconst 1, 1) := by decide +kernel
theorem dX8_isFigure_31 : decode mX8_isFigure.2.1 31 = .ok (.goto 4, 3) := by decide +kernel
theorem dX8_isFigure_34 : decode mX8_isFigure.2.1 34 = .ok (.iconst 0, 1) := by decide +kernel
theorem dX8_isFigure_35 : decode mX8_isFigure.2.1 35 = .ok (.ireturn, 1) := by decide +kernel
def mX8_isLetter : String × ByteArray × Nat := (RX8, cX8_isLetter, 2)
theorem dX8_isLetter_0 : decode mX8_isLetter.2.1 0 = .ok (.aload_n 0, 1) := by decide +kernel
theorem dX8_isLetter_1 : decode mX8_isLetter.2.1 1 = .ok (.getfield 11, 3) := by decide +kernel
theorem dX8_isLetter_4 : decode mX8_isLetter.2.1 4 = .ok (.iload_n 1, 1) := by decide +kernel
theorem dX8_isLetter_5 : decode mX8_isLetter.2.1 5 = .ok (.iaload, 1) := by decide +kernel
theorem dX8_isLetter_6 : decode mX8_isLetter.2.1 6 = .ok (.bipush 85, 2) := by decide +kernel
theorem dX8_isLetter_8 : decode mX8_isLetter.2.1 8 = .ok (.if_icmp .eq 14, 3) := by decide +kernel
theorem dX8_isLetter_11 : decode mX8_isLetter.2.1 11 = .ok (.aload_n 0, 1) := by decide +kernel
theorem dX8_isLetter_12 : decode mX8_isLetter.2.1 12 = .ok (.getfield 11, 3) := by decide +kernel
theorem dX8_isLetter_15 : decode mX8_isLetter.2.1 15 = .ok (.iload_n 1, 1) := by decide +kernel
theorem dX8_isLetter_16 : decode mX8_isLetter.2.1 16 = .ok (.iaload, 1) := by decide +kernel
theorem dX8_isLetter_17 : decode mX8_isLetter.2.1 17 = .ok (.bipush 68, 2) := by decide +kernel
theorem dX8_isLetter_19 : decode mX8_isLetter.2.1 19 = .ok (.if_icmp .ne 7, 3) := by decide +kernel
theorem dX8_isLetter_22 : decode mX8_isLetter.2.1 22 = .ok (.iconst 1, 1) := by decide +kernel
theorem dX8_isLetter_23 : decode mX8_isLetter.2.1 23 = .ok (.goto 4, 3) := by decide +kernel
theorem dX8_isLetter_26 : decode mX8_isLetter.2.1 26 = .ok (.iconst 0, 1) := by decide +kernel
theorem dX8_isLetter_27 : decode mX8_isLetter.2.1 27 = .ok (.ireturn, 1) := by decide +kernel
def mX8_fault : String × ByteArray × Nat := (RX8, cX8_fault, 5)
theorem dX8_fault_0 : decode mX8_fault.2.1 0 = .ok (.iconst 0, 1) := by decide +kernel
theorem dX8_fault_1 : decode mX8_fault.2.1 1 = .ok (.istore_n 1, 1) := by decide +kernel
theorem dX8_fault_2 : decode mX8_fault.2.1 2 = .ok (.iconst 0, 1) := by decide +kernel
theorem dX8_fault_3 : decode mX8_fault.2.1 3 = .ok (.istore_n 2, 1) := by decide +kernel
theorem dX8_fault_4 : decode mX8_fault.2.1 4 = .ok (.iconst 0, 1) := by decide +kernel
theorem dX8_fault_5 : decode mX8_fault.2.1 5 = .ok (.istore_n 3, 1) := by decide +kernel
theorem dX8_fault_6 : decode mX8_fault.2.1 6 = .ok (.iconst 0, 1) := by decide +kernel
theorem dX8_fault_7 : decode mX8_fault.2.1 7 = .ok (.istore 4, 2) := by decide +kernel
theorem dX8_fault_9 : decode mX8_fault.2.1 9 = .ok (.iload 4, 2) := by decide +kernel
theorem dX8_fault_11 : decode mX8_fault.2.1 11 = .ok (.aload_n 0, 1) := by decide +kernel
theorem dX8_fault_12 : decode mX8_fault.2.1 12 = .ok (.getfield 21, 3) := by decide +kernel
theorem dX8_fault_15 : decode mX8_fault.2.1 15 = .ok (.if_icmp .ge 101, 3) := by decide +kernel
theorem dX8_fault_18 : decode mX8_fault.2.1 18 = .ok (.aload_n 0, 1) := by decide +kernel
theorem dX8_fault_19 : decode mX8_fault.2.1 19 = .ok (.iload 4, 2) := by decide +kernel
theorem dX8_fault_21 : decode mX8_fault.2.1 21 = .ok (.invokevirtual 25, 3) := by decide +kernel
theorem dX8_fault_24 : decode mX8_fault.2.1 24 = .ok (.ifCond .eq 10, 3) := by decide +kernel
theorem dX8_fault_27 : decode mX8_fault.2.1 27 = .ok (.iconst 1, 1) := by decide +kernel
theorem dX8_fault_28 : decode mX8_fault.2.1 28 = .ok (.istore_n 2, 1) := by decide +kernel
theorem dX8_fault_29 : decode mX8_fault.2.1 29 = .ok (.iconst 1, 1) := by decide +kernel
theorem dX8_fault_30 : decode mX8_fault.2.1 30 = .ok (.istore_n 3, 1) := by decide +kernel
theorem dX8_fault_31 : decode mX8_fault.2.1 31 = .ok (.goto 79, 3) := by decide +kernel
theorem dX8_fault_34 : decode mX8_fault.2.1 34 = .ok (.aload_n 0, 1) := by decide +kernel
theorem dX8_fault_35 : decode mX8_fault.2.1 35 = .ok (.getfield 11, 3) := by decide +kernel
theorem dX8_fault_38 : decode mX8_fault.2.1 38 = .ok (.iload 4, 2) := by decide +kernel
theorem dX8_fault_40 : decode mX8_fault.2.1 40 = .ok (.iaload, 1) := by decide +kernel
theorem dX8_fault_41 : decode mX8_fault.2.1 41 = .ok (.bipush 40, 2) := by decide +kernel
theorem dX8_fault_43 : decode mX8_fault.2.1 43 = .ok (.if_icmp .ne 18, 3) := by decide +kernel
theorem dX8_fault_46 : decode mX8_fault.2.1 46 = .ok (.iload_n 1, 1) := by decide +kernel
theorem dX8_fault_47 : decode mX8_fault.2.1 47 = .ok (.iconst 4, 1) := by decide +kernel
theorem dX8_fault_48 : decode mX8_fault.2.1 48 = .ok (.if_icmp .ge 13, 3) := by decide +kernel
theorem dX8_fault_51 : decode mX8_fault.2.1 51 = .ok (.iinc 1 1, 3) := by decide +kernel
theorem dX8_fault_54 : decode mX8_fault.2.1 54 = .ok (.iconst 0, 1) := by decide +kernel
theorem dX8_fault_55 : decode mX8_fault.2.1 55 = .ok (.istore_n 2, 1) := by decide +kernel
theorem dX8_fault_56 : decode mX8_fault.2.1 56 = .ok (.iconst 0, 1) := by decide +kernel
theorem dX8_fault_57 : decode mX8_fault.2.1 57 = .ok (.istore_n 3, 1) := by decide +kernel
theorem dX8_fault_58 : decode mX8_fault.2.1 58 = .ok (.goto 52, 3) := by decide +kernel
theorem dX8_fault_61 : decode mX8_fault.2.1 61 = .ok (.aload_n 0, 1) := by decide +kernel
theorem dX8_fault_62 : decode mX8_fault.2.1 62 = .ok (.getfield 11, 3) := by decide +kernel
theorem dX8_fault_65 : decode mX8_fault.2.1 65 = .ok (.iload 4, 2) := by decide +kernel
theorem dX8_fault_67 : decode mX8_fault.2.1 67 = .ok (.iaload, 1) := by decide +kernel
theorem dX8_fault_68 : decode mX8_fault.2.1 68 = .ok (.bipush 41, 2) := by decide +kernel
theorem dX8_fault_70 : decode mX8_fault.2.1 70 = .ok (.if_icmp .ne 19, 3) := by decide +kernel
theorem dX8_fault_73 : decode mX8_fault.2.1 73 = .ok (.iload_n 1, 1) := by decide +kernel
theorem dX8_fault_74 : decode mX8_fault.2.1 74 = .ok (.ifCond .le 15, 3) := by decide +kernel
theorem dX8_fault_77 : decode mX8_fault.2.1 77 = .ok (.iload_n 2, 1) := by decide +kernel
theorem dX8_fault_78 : decode mX8_fault.2.1 78 = .ok (.ifCond .eq 11, 3) := by decide +kernel
theorem dX8_fault_81 : decode mX8_fault.2.1 81 = .ok (.iinc 1 (-1), 3) := by decide +kernel
theorem dX8_fault_84 : decode mX8_fault.2.1 84 = .ok (.iconst 1, 1) := by decide +kernel
theorem dX8_fault_85 : decode mX8_fault.2.1 85 = .ok (.istore_n 3, 1) := by decide +kernel
theorem dX8_fault_86 : decode mX8_fault.2.1 86 = .ok (.goto 24, 3) := by decide +kernel
theorem dX8_fault_89 : decode mX8_fault.2.1 89 = .ok (.aload_n 0, 1) := by decide +kernel
theorem dX8_fault_90 : decode mX8_fault.2.1 90 = .ok (.iload 4, 2) := by decide +kernel
theorem dX8_fault_92 : decode mX8_fault.2.1 92 = .ok (.invokevirtual 29, 3) := by decide +kernel
theorem dX8_fault_95 : decode mX8_fault.2.1 95 = .ok (.ifCond .eq 12, 3) := by decide +kernel
theorem dX8_fault_98 : decode mX8_fault.2.1 98 = .ok (.iload_n 3, 1) := by decide +kernel
theorem dX8_fault_99 : decode mX8_fault.2.1 99 = .ok (.ifCond .eq 8, 3) := by decide +kernel
theorem dX8_fault_102 : decode mX8_fault.2.1 102 = .ok (.iconst 0, 1) := by decide +kernel
theorem dX8_fault_103 : decode mX8_fault.2.1 103 = .ok (.istore_n 3, 1) := by decide +kernel
theorem dX8_fault_104 : decode mX8_fault.2.1 104 = .ok (.goto 6, 3) := by decide +kernel
theorem dX8_fault_107 : decode mX8_fault.2.1 107 = .ok (.iload 4, 2) := by decide +kernel
theorem dX8_fault_109 : decode mX8_fault.2.1 109 = .ok (.ireturn, 1) := by decide +kernel
theorem dX8_fault_110 : decode mX8_fault.2.1 110 = .ok (.iinc 4 1, 3) := by decide +kernel
theorem dX8_fault_113 : decode mX8_fault.2.1 113 = .ok (.goto (-104), 3) := by decide +kernel
theorem dX8_fault_116 : decode mX8_fault.2.1 116 = .ok (.iload_n 1, 1) := by decide +kernel
theorem dX8_fault_117 : decode mX8_fault.2.1 117 = .ok (.ifCond .ne 11, 3) := by decide +kernel
theorem dX8_fault_120 : decode mX8_fault.2.1 120 = .ok (.iload_n 2, 1) := by decide +kernel
theorem dX8_fault_121 : decode mX8_fault.2.1 121 = .ok (.ifCond .eq 7, 3) := by decide +kernel
theorem dX8_fault_124 : decode mX8_fault.2.1 124 = .ok (.iconst (-1), 1) := by decide +kernel
theorem dX8_fault_125 : decode mX8_fault.2.1 125 = .ok (.goto 7, 3) := by decide +kernel
theorem dX8_fault_128 : decode mX8_fault.2.1 128 = .ok (.aload_n 0, 1) := by decide +kernel
theorem dX8_fault_129 : decode mX8_fault.2.1 129 = .ok (.getfield 21, 3) := by decide +kernel
theorem dX8_fault_132 : decode mX8_fault.2.1 132 = .ok (.ireturn, 1) := by decide +kernel
def mX8_spell : String × ByteArray × Nat := (RX8, cX8_spell, 5)
theorem dX8_spell_0 : decode mX8_spell.2.1 0 = .ok (.iconst 0, 1) := by decide +kernel
theorem dX8_spell_1 : decode mX8_spell.2.1 1 = .ok (.istore_n 1, 1) := by decide +kernel
theorem dX8_spell_2 : decode mX8_spell.2.1 2 = .ok (.iconst 0, 1) := by decide +kernel
theorem dX8_spell_3 : decode mX8_spell.2.1 3 = .ok (.istore_n 2, 1) := by decide +kernel
theorem dX8_spell_4 : decode mX8_spell.2.1 4 = .ok (.aload_n 0, 1) := by decide +kernel
theorem dX8_spell_5 : decode mX8_spell.2.1 5 = .ok (.getfield 18, 3) := by decide +kernel
theorem dX8_spell_8 : decode mX8_spell.2.1 8 = .ok (.iconst 0, 1) := by decide +kernel
theorem dX8_spell_9 : decode mX8_spell.2.1 9 = .ok (.iconst 0, 1) := by decide +kernel
theorem dX8_spell_10 : decode mX8_spell.2.1 10 = .ok (.iastore, 1) := by decide +kernel
theorem dX8_spell_11 : decode mX8_spell.2.1 11 = .ok (.iconst 0, 1) := by decide +kernel
theorem dX8_spell_12 : decode mX8_spell.2.1 12 = .ok (.istore_n 3, 1) := by decide +kernel
theorem dX8_spell_13 : decode mX8_spell.2.1 13 = .ok (.iload_n 3, 1) := by decide +kernel
theorem dX8_spell_14 : decode mX8_spell.2.1 14 = .ok (.aload_n 0, 1) := by decide +kernel
theorem dX8_spell_15 : decode mX8_spell.2.1 15 = .ok (.getfield 21, 3) := by decide +kernel
theorem dX8_spell_18 : decode mX8_spell.2.1 18 = .ok (.if_icmp .ge 146, 3) := by decide +kernel
theorem dX8_spell_21 : decode mX8_spell.2.1 21 = .ok (.aload_n 0, 1) := by decide +kernel
theorem dX8_spell_22 : decode mX8_spell.2.1 22 = .ok (.getfield 11, 3) := by decide +kernel
theorem dX8_spell_25 : decode mX8_spell.2.1 25 = .ok (.iload_n 3, 1) := by decide +kernel
theorem dX8_spell_26 : decode mX8_spell.2.1 26 = .ok (.iaload, 1) := by decide +kernel
theorem dX8_spell_27 : decode mX8_spell.2.1 27 = .ok (.bipush 40, 2) := by decide +kernel
theorem dX8_spell_29 : decode mX8_spell.2.1 29 = .ok (.if_icmp .ne 21, 3) := by decide +kernel
theorem dX8_spell_32 : decode mX8_spell.2.1 32 = .ok (.iload_n 2, 1) := by decide +kernel
theorem dX8_spell_33 : decode mX8_spell.2.1 33 = .ok (.iconst 1, 1) := by decide +kernel
theorem dX8_spell_34 : decode mX8_spell.2.1 34 = .ok (.iadd, 1) := by decide +kernel
theorem dX8_spell_35 : decode mX8_spell.2.1 35 = .ok (.iconst 4, 1) := by decide +kernel
theorem dX8_spell_36 : decode mX8_spell.2.1 36 = .ok (.invokestatic 32, 3) := by decide +kernel
theorem dX8_spell_39 : decode mX8_spell.2.1 39 = .ok (.istore_n 2, 1) := by decide +kernel
theorem dX8_spell_40 : decode mX8_spell.2.1 40 = .ok (.aload_n 0, 1) := by decide +kernel
theorem dX8_spell_41 : decode mX8_spell.2.1 41 = .ok (.getfield 18, 3) := by decide +kernel
theorem dX8_spell_44 : decode mX8_spell.2.1 44 = .ok (.iload_n 2, 1) := by decide +kernel
theorem dX8_spell_45 : decode mX8_spell.2.1 45 = .ok (.iload_n 1, 1) := by decide +kernel
theorem dX8_spell_46 : decode mX8_spell.2.1 46 = .ok (.iastore, 1) := by decide +kernel
theorem dX8_spell_47 : decode mX8_spell.2.1 47 = .ok (.goto 111, 3) := by decide +kernel
theorem dX8_spell_50 : decode mX8_spell.2.1 50 = .ok (.iload_n 1, 1) := by decide +kernel
theorem dX8_spell_51 : decode mX8_spell.2.1 51 = .ok (.istore 4, 2) := by decide +kernel
theorem dX8_spell_53 : decode mX8_spell.2.1 53 = .ok (.aload_n 0, 1) := by decide +kernel
theorem dX8_spell_54 : decode mX8_spell.2.1 54 = .ok (.getfield 11, 3) := by decide +kernel
theorem dX8_spell_57 : decode mX8_spell.2.1 57 = .ok (.iload_n 3, 1) := by decide +kernel
theorem dX8_spell_58 : decode mX8_spell.2.1 58 = .ok (.iaload, 1) := by decide +kernel
theorem dX8_spell_59 : decode mX8_spell.2.1 59 = .ok (.bipush 41, 2) := by decide +kernel
theorem dX8_spell_61 : decode mX8_spell.2.1 61 = .ok (.if_icmp .ne 22, 3) := by decide +kernel
theorem dX8_spell_64 : decode mX8_spell.2.1 64 = .ok (.aload_n 0, 1) := by decide +kernel
theorem dX8_spell_65 : decode mX8_spell.2.1 65 = .ok (.getfield 18, 3) := by decide +kernel
theorem dX8_spell_68 : decode mX8_spell.2.1 68 = .ok (.iload_n 2, 1) := by decide +kernel
theorem dX8_spell_69 : decode mX8_spell.2.1 69 = .ok (.iaload, 1) := by decide +kernel
theorem dX8_spell_70 : decode mX8_spell.2.1 70 = .ok (.istore 4, 2) := by decide +kernel
theorem dX8_spell_72 : decode mX8_spell.2.1 72 = .ok (.iload_n 2, 1) := by decide +kernel
theorem dX8_spell_73 : decode mX8_spell.2.1 73 = .ok (.iconst 1, 1) := by decide +kernel
theorem dX8_spell_74 : decode mX8_spell.2.1 74 = .ok (.isub, 1) := by decide +kernel
theorem dX8_spell_75 : decode mX8_spell.2.1 75 = .ok (.iconst 0, 1) := by decide +kernel
theorem dX8_spell_76 : decode mX8_spell.2.1 76 = .ok (.invokestatic 38, 3) := by decide +kernel
theorem dX8_spell_79 : decode mX8_spell.2.1 79 = .ok (.istore_n 2, 1) := by decide +kernel
theorem dX8_spell_80 : decode mX8_spell.2.1 80 = .ok (.goto 28, 3) := by decide +kernel
theorem dX8_spell_83 : decode mX8_spell.2.1 83 = .ok (.aload_n 0, 1) := by decide +kernel
theorem dX8_spell_84 : decode mX8_spell.2.1 84 = .ok (.getfield 15, 3) := by decide +kernel
theorem dX8_spell_87 : decode mX8_spell.2.1 87 = .ok (.iload_n 1, 1) := by decide +kernel
theorem dX8_spell_88 : decode mX8_spell.2.1 88 = .ok (.aload_n 0, 1) := by decide +kernel
theorem dX8_spell_89 : decode mX8_spell.2.1 89 = .ok (.getfield 11, 3) := by decide +kernel
theorem dX8_spell_92 : decode mX8_spell.2.1 92 = .ok (.iload_n 3, 1) := by decide +kernel
theorem dX8_spell_93 : decode mX8_spell.2.1 93 = .ok (.iaload, 1) := by decide +kernel
theorem dX8_spell_94 : decode mX8_spell.2.1 94 = .ok (.bipush 85, 2) := by decide +kernel
theorem dX8_spell_96 : decode mX8_spell.2.1 96 = .ok (.if_icmp .ne 7, 3) := by decide +kernel
theorem dX8_spell_99 : decode mX8_spell.2.1 99 = .ok (.iconst 0, 1) := by decide +kernel
theorem dX8_spell_100 : decode mX8_spell.2.1 100 = .ok (.goto 4, 3) := by decide +kernel
theorem dX8_spell_103 : decode mX8_spell.2.1 103 = .ok (.iconst 1, 1) := by decide +kernel
theorem dX8_spell_104 : decode mX8_spell.2.1 104 = .ok (.iastore, 1) := by decide +kernel
theorem dX8_spell_105 : decode mX8_spell.2.1 105 = .ok (.iinc 1 1, 3) := by decide +kernel
theorem dX8_spell_108 : decode mX8_spell.2.1 108 = .ok (.aload_n 0, 1) := by decide +kernel
theorem dX8_spell_109 : decode mX8_spell.2.1 109 = .ok (.iload_n 3, 1) := by decide +kernel
theorem dX8_spell_110 : decode mX8_spell.2.1 110 = .ok (.iconst 1, 1) := by decide +kernel
theorem dX8_spell_111 : decode mX8_spell.2.1 111 = .ok (.iadd, 1) := by decide +kernel
theorem dX8_spell_112 : decode mX8_spell.2.1 112 = .ok (.invokevirtual 29, 3) := by decide +kernel
theorem dX8_spell_115 : decode mX8_spell.2.1 115 = .ok (.ifCond .eq 23, 3) := by decide +kernel
theorem dX8_spell_118 : decode mX8_spell.2.1 118 = .ok (.iinc 3 1, 3) := by decide +kernel
theorem dX8_spell_121 : decode mX8_spell.2.1 121 = .ok (.aload_n 0, 1) := by decide +kernel
theorem dX8_spell_122 : decode mX8_spell.2.1 122 = .ok (.iload 4, 2) := by decide +kernel
theorem dX8_spell_124 : decode mX8_spell.2.1 124 = .ok (.iload_n 1, 1) := by decide +kernel
theorem dX8_spell_125 : decode mX8_spell.2.1 125 = .ok (.aload_n 0, 1) := by decide +kernel
theorem dX8_spell_126 : decode mX8_spell.2.1 126 = .ok (.getfield 11, 3) := by decide +kernel
theorem dX8_spell_129 : decode mX8_spell.2.1 129 = .ok (.iload_n 3, 1) := by decide +kernel
theorem dX8_spell_130 : decode mX8_spell.2.1 130 = .ok (.iaload, 1) := by decide +kernel
theorem dX8_spell_131 : decode mX8_spell.2.1 131 = .ok (.bipush 48, 2) := by decide +kernel
theorem dX8_spell_133 : decode mX8_spell.2.1 133 = .ok (.isub, 1) := by decide +kernel
theorem dX8_spell_134 : decode mX8_spell.2.1 134 = .ok (.invokevirtual 41, 3) := by decide +kernel
theorem dX8_spell_137 : decode mX8_spell.2.1 137 = .ok (.istore_n 1, 1) := by decide +kernel
theorem dX8_spell_138 : decode mX8_spell.2.1 138 = .ok (.iload_n 1, 1) := by decide +kernel
theorem dX8_spell_139 : decode mX8_spell.2.1 139 = .ok (.ifCond .lt 16, 3) := by decide +kernel
theorem dX8_spell_142 : decode mX8_spell.2.1 142 = .ok (.iload_n 1, 1) := by decide +kernel
theorem dX8_spell_143 : decode mX8_spell.2.1 143 = .ok (.aload_n 0, 1) := by decide +kernel
theorem dX8_spell_144 : decode mX8_spell.2.1 144 = .ok (.getfield 18, 3) := by decide +kernel
theorem dX8_spell_147 : decode mX8_spell.2.1 147 = .ok (.iload_n 2, 1) := by decide +kernel
theorem dX8_spell_148 : decode mX8_spell.2.1 148 = .ok (.iaload, 1) := by decide +kernel
theorem dX8_spell_149 : decode mX8_spell.2.1 149 = .ok (.isub, 1) := by decide +kernel
theorem dX8_spell_150 : decode mX8_spell.2.1 150 = .ok (.bipush 12, 2) := by decide +kernel
theorem dX8_spell_152 : decode mX8_spell.2.1 152 = .ok (.if_icmp .le 6, 3) := by decide +kernel
theorem dX8_spell_155 : decode mX8_spell.2.1 155 = .ok (.bipush (-4), 2) := by decide +kernel
theorem dX8_spell_157 : decode mX8_spell.2.1 157 = .ok (.ireturn, 1) := by decide +kernel
theorem dX8_spell_158 : decode mX8_spell.2.1 158 = .ok (.iinc 3 1, 3) := by decide +kernel
theorem dX8_spell_161 : decode mX8_spell.2.1 161 = .ok (.goto (-148), 3) := by decide +kernel
theorem dX8_spell_164 : decode mX8_spell.2.1 164 = .ok (.iload_n 1, 1) := by decide +kernel
theorem dX8_spell_165 : decode mX8_spell.2.1 165 = .ok (.ireturn, 1) := by decide +kernel
def mX8_repeat : String × ByteArray × Nat := (RX8, cX8_repeat, 7)
theorem dX8_repeat_0 : decode mX8_repeat.2.1 0 = .ok (.iload_n 2, 1) := by decide +kernel
theorem dX8_repeat_1 : decode mX8_repeat.2.1 1 = .ok (.iload_n 1, 1) := by decide +kernel
theorem dX8_repeat_2 : decode mX8_repeat.2.1 2 = .ok (.isub, 1) := by decide +kernel
theorem dX8_repeat_3 : decode mX8_repeat.2.1 3 = .ok (.istore 4, 2) := by decide +kernel
theorem dX8_repeat_5 : decode mX8_repeat.2.1 5 = .ok (.iload_n 1, 1) := by decide +kernel
theorem dX8_repeat_6 : decode mX8_repeat.2.1 6 = .ok (.iload 4, 2) := by decide +kernel
theorem dX8_repeat_8 : decode mX8_repeat.2.1 8 = .ok (.iload_n 3, 1) := by decide +kernel
theorem dX8_repeat_9 : decode mX8_repeat.2.1 9 = .ok (.imul, 1) := by decide +kernel
theorem dX8_repeat_10 : decode mX8_repeat.2.1 10 = .ok (.iadd, 1) := by decide +kernel
theorem dX8_repeat_11 : decode mX8_repeat.2.1 11 = .ok (.istore 5, 2) := by decide +kernel
theorem dX8_repeat_13 : decode mX8_repeat.2.1 13 = .ok (.iload 5, 2) := by decide +kernel
theorem dX8_repeat_15 : decode mX8_repeat.2.1 15 = .ok (.iload_n 1, 1) := by decide +kernel
theorem dX8_repeat_16 : decode mX8_repeat.2.1 16 = .ok (.isub, 1) := by decide +kernel
theorem dX8_repeat_17 : decode mX8_repeat.2.1 17 = .ok (.bipush 12, 2) := by decide +kernel
theorem dX8_repeat_19 : decode mX8_repeat.2.1 19 = .ok (.if_icmp .le 6, 3) := by decide +kernel
theorem dX8_repeat_22 : decode mX8_repeat.2.1 22 = .ok (.bipush (-4), 2) := by decide +kernel
theorem dX8_repeat_24 : decode mX8_repeat.2.1 24 = .ok (.ireturn, 1) := by decide +kernel
theorem dX8_repeat_25 : decode mX8_repeat.2.1 25 = .ok (.iload_n 2, 1) := by decide +kernel
theorem dX8_repeat_26 : decode mX8_repeat.2.1 26 = .ok (.istore 6, 2) := by decide +kernel
theorem dX8_repeat_28 : decode mX8_repeat.2.1 28 = .ok (.iload 6, 2) := by decide +kernel
theorem dX8_repeat_30 : decode mX8_repeat.2.1 30 = .ok (.iload 5, 2) := by decide +kernel
theorem dX8_repeat_32 : decode mX8_repeat.2.1 32 = .ok (.if_icmp .ge 26, 3) := by decide +kernel
theorem dX8_repeat_35 : decode mX8_repeat.2.1 35 = .ok (.aload_n 0, 1) := by decide +kernel
theorem dX8_repeat_36 : decode mX8_repeat.2.1 36 = .ok (.getfield 15, 3) := by decide +kernel
theorem dX8_repeat_39 : decode mX8_repeat.2.1 39 = .ok (.iload 6, 2) := by decide +kernel
theorem dX8_repeat_41 : decode mX8_repeat.2.1 41 = .ok (.aload_n 0, 1) := by decide +kernel
theorem dX8_repeat_42 : decode mX8_repeat.2.1 42 = .ok (.getfield 15, 3) := by decide +kernel
theorem dX8_repeat_45 : decode mX8_repeat.2.1 45 = .ok (.iload 6, 2) := by decide +kernel
theorem dX8_repeat_47 : decode mX8_repeat.2.1 47 = .ok (.iload 4, 2) := by decide +kernel
theorem dX8_repeat_49 : decode mX8_repeat.2.1 49 = .ok (.isub, 1) := by decide +kernel
theorem dX8_repeat_50 : decode mX8_repeat.2.1 50 = .ok (.iaload, 1) := by decide +kernel
theorem dX8_repeat_51 : decode mX8_repeat.2.1 51 = .ok (.iastore, 1) := by decide +kernel
theorem dX8_repeat_52 : decode mX8_repeat.2.1 52 = .ok (.iinc 6 1, 3) := by decide +kernel
theorem dX8_repeat_55 : decode mX8_repeat.2.1 55 = .ok (.goto (-27), 3) := by decide +kernel
theorem dX8_repeat_58 : decode mX8_repeat.2.1 58 = .ok (.iload 5, 2) := by decide +kernel
theorem dX8_repeat_60 : decode mX8_repeat.2.1 60 = .ok (.ireturn, 1) := by decide +kernel
def mX9_init : String × ByteArray × Nat := (RX9, cX9_init, 1)
theorem dX9_init_0 : decode mX9_init.2.1 0 = .ok (.aload_n 0, 1) := by decide +kernel
theorem dX9_init_1 : decode mX9_init.2.1 1 = .ok (.invokespecial 3, 3) := by decide +kernel
theorem dX9_init_4 : decode mX9_init.2.1 4 = .ok (.aload_n 0, 1) := by decide +kernel
theorem dX9_init_5 : decode mX9_init.2.1 5 = .ok (.bipush 12, 2) := by decide +kernel
theorem dX9_init_7 : decode mX9_init.2.1 7 = .ok (.newarray .int, 2) := by decide +kernel
theorem dX9_init_9 : decode mX9_init.2.1 9 = .ok (.putfield 9, 3) := by decide +kernel
theorem dX9_init_12 : decode mX9_init.2.1 12 = .ok (.return_, 1) := by decide +kernel
def mX9_hasRoom : String × ByteArray × Nat := (RX9, cX9_hasRoom, 2)
theorem dX9_hasRoom_0 : decode mX9_hasRoom.2.1 0 = .ok (.iload_n 1, 1) := by decide +kernel
theorem dX9_hasRoom_1 : decode mX9_hasRoom.2.1 1 = .ok (.bipush 12, 2) := by decide +kernel
theorem dX9_hasRoom_3 : decode mX9_hasRoom.2.1 3 = .ok (.aload_n 0, 1) := by decide +kernel
theorem dX9_hasRoom_4 : decode mX9_hasRoom.2.1 4 = .ok (.getfield 15, 3) := by decide +kernel
theorem dX9_hasRoom_7 : decode mX9_hasRoom.2.1 7 = .ok (.isub, 1) := by decide +kernel
theorem dX9_hasRoom_8 : decode mX9_hasRoom.2.1 8 = .ok (.if_icmp .gt 7, 3) := by decide +kernel
theorem dX9_hasRoom_11 : decode mX9_hasRoom.2.1 11 = .ok (.iconst 1, 1) := by decide +kernel
theorem dX9_hasRoom_12 : decode mX9_hasRoom.2.1 12 = .ok (.goto 4, 3) := by decide +kernel
theorem dX9_hasRoom_15 : decode mX9_hasRoom.2.1 15 = .ok (.iconst 0, 1) := by decide +kernel
theorem dX9_hasRoom_16 : decode mX9_hasRoom.2.1 16 = .ok (.ireturn, 1) := by decide +kernel
def mX9_push : String × ByteArray × Nat := (RX9, cX9_push, 4)
theorem dX9_push_0 : decode mX9_push.2.1 0 = .ok (.iconst 0, 1) := by decide +kernel
theorem dX9_push_1 : decode mX9_push.2.1 1 = .ok (.istore_n 3, 1) := by decide +kernel
theorem dX9_push_2 : decode mX9_push.2.1 2 = .ok (.iload_n 3, 1) := by decide +kernel
theorem dX9_push_3 : decode mX9_push.2.1 3 = .ok (.iload_n 2, 1) := by decide +kernel
theorem dX9_push_4 : decode mX9_push.2.1 4 = .ok (.if_icmp .ge 38, 3) := by decide +kernel
theorem dX9_push_7 : decode mX9_push.2.1 7 = .ok (.aload_n 0, 1) := by decide +kernel
theorem dX9_push_8 : decode mX9_push.2.1 8 = .ok (.getfield 15, 3) := by decide +kernel
theorem dX9_push_11 : decode mX9_push.2.1 11 = .ok (.bipush 12, 2) := by decide +kernel
theorem dX9_push_13 : decode mX9_push.2.1 13 = .ok (.if_icmp .ge 29, 3) := by decide +kernel
theorem dX9_push_16 : decode mX9_push.2.1 16 = .ok (.aload_n 0, 1) := by decide +kernel
theorem dX9_push_17 : decode mX9_push.2.1 17 = .ok (.getfield 9, 3) := by decide +kernel
theorem dX9_push_20 : decode mX9_push.2.1 20 = .ok (.aload_n 0, 1) := by decide +kernel
theorem dX9_push_21 : decode mX9_push.2.1 21 = .ok (.getfield 15, 3) := by decide +kernel
theorem dX9_push_24 : decode mX9_push.2.1 24 = .ok (.iload_n 1, 1) := by decide +kernel
theorem dX9_push_25 : decode mX9_push.2.1 25 = .ok (.iastore, 1) := by decide +kernel
theorem dX9_push_26 : decode mX9_push.2.1 26 = .ok (.aload_n 0, 1) := by decide +kernel
theorem dX9_push_27 : decode mX9_push.2.1 27 = .ok (.dup, 1) := by decide +kernel
theorem dX9_push_28 : decode mX9_push.2.1 28 = .ok (.getfield 15, 3) := by decide +kernel
theorem dX9_push_31 : decode mX9_push.2.1 31 = .ok (.iconst 1, 1) := by decide +kernel
theorem dX9_push_32 : decode mX9_push.2.1 32 = .ok (.iadd, 1) := by decide +kernel
theorem dX9_push_33 : decode mX9_push.2.1 33 = .ok (.putfield 15, 3) := by decide +kernel
theorem dX9_push_36 : decode mX9_push.2.1 36 = .ok (.iinc 3 1, 3) := by decide +kernel
theorem dX9_push_39 : decode mX9_push.2.1 39 = .ok (.goto (-37), 3) := by decide +kernel
theorem dX9_push_42 : decode mX9_push.2.1 42 = .ok (.return_, 1) := by decide +kernel
def mX9_fillByKind : String × ByteArray × Nat := (RX9, cX9_fillByKind, 3)
theorem dX9_fillByKind_0 : decode mX9_fillByKind.2.1 0 = .ok (.iload_n 1, 1) := by decide +kernel
theorem dX9_fillByKind_1 : decode mX9_fillByKind.2.1 1 = .ok (.tableswitch 106 0 4 #[35, 50, 60, 70, 85], 35) := by decide +kernel
theorem dX9_fillByKind_36 : decode mX9_fillByKind.2.1 36 = .ok (.aload_n 0, 1) := by decide +kernel
theorem dX9_fillByKind_37 : decode mX9_fillByKind.2.1 37 = .ok (.iconst 0, 1) := by decide +kernel
theorem dX9_fillByKind_38 : decode mX9_fillByKind.2.1 38 = .ok (.iload_n 2, 1) := by decide +kernel
theorem dX9_fillByKind_39 : decode mX9_fillByKind.2.1 39 = .ok (.invokevirtual 19, 3) := by decide +kernel
theorem dX9_fillByKind_42 : decode mX9_fillByKind.2.1 42 = .ok (.aload_n 0, 1) := by decide +kernel
theorem dX9_fillByKind_43 : decode mX9_fillByKind.2.1 43 = .ok (.iconst 1, 1) := by decide +kernel
theorem dX9_fillByKind_44 : decode mX9_fillByKind.2.1 44 = .ok (.iload_n 2, 1) := by decide +kernel
theorem dX9_fillByKind_45 : decode mX9_fillByKind.2.1 45 = .ok (.invokevirtual 19, 3) := by decide +kernel
theorem dX9_fillByKind_48 : decode mX9_fillByKind.2.1 48 = .ok (.goto 64, 3) := by decide +kernel
theorem dX9_fillByKind_51 : decode mX9_fillByKind.2.1 51 = .ok (.aload_n 0, 1) := by decide +kernel
theorem dX9_fillByKind_52 : decode mX9_fillByKind.2.1 52 = .ok (.iconst 0, 1) := by decide +kernel
theorem dX9_fillByKind_53 : decode mX9_fillByKind.2.1 53 = .ok (.iconst 1, 1) := by decide +kernel
theorem dX9_fillByKind_54 : decode mX9_fillByKind.2.1 54 = .ok (.iload_n 2, 1) := by decide +kernel
theorem dX9_fillByKind_55 : decode mX9_fillByKind.2.1 55 = .ok (.invokevirtual 23, 3) := by decide +kernel
theorem dX9_fillByKind_58 : decode mX9_fillByKind.2.1 58 = .ok (.goto 54, 3) := by decide +kernel
theorem dX9_fillByKind_61 : decode mX9_fillByKind.2.1 61 = .ok (.aload_n 0, 1) := by decide +kernel
theorem dX9_fillByKind_62 : decode mX9_fillByKind.2.1 62 = .ok (.iconst 1, 1) := by decide +kernel
theorem dX9_fillByKind_63 : decode mX9_fillByKind.2.1 63 = .ok (.iconst 0, 1) := by decide +kernel
theorem dX9_fillByKind_64 : decode mX9_fillByKind.2.1 64 = .ok (.iload_n 2, 1) := by decide +kernel
theorem dX9_fillByKind_65 : decode mX9_fillByKind.2.1 65 = .ok (.invokevirtual 23, 3) := by decide +kernel
theorem dX9_fillByKind_68 : decode mX9_fillByKind.2.1 68 = .ok (.goto 44, 3) := by decide +kernel
theorem dX9_fillByKind_71 : decode mX9_fillByKind.2.1 71 = .ok (.aload_n 0, 1) := by decide +kernel
theorem dX9_fillByKind_72 : decode mX9_fillByKind.2.1 72 = .ok (.iconst 1, 1) := by decide +kernel
theorem dX9_fillByKind_73 : decode mX9_fillByKind.2.1 73 = .ok (.iload_n 2, 1) := by decide +kernel
theorem dX9_fillByKind_74 : decode mX9_fillByKind.2.1 74 = .ok (.invokevirtual 19, 3) := by decide +kernel
theorem dX9_fillByKind_77 : decode mX9_fillByKind.2.1 77 = .ok (.aload_n 0, 1) := by decide +kernel
theorem dX9_fillByKind_78 : decode mX9_fillByKind.2.1 78 = .ok (.iconst 0, 1) := by decide +kernel
theorem dX9_fillByKind_79 : decode mX9_fillByKind.2.1 79 = .ok (.iload_n 2, 1) := by decide +kernel
theorem dX9_fillByKind_80 : decode mX9_fillByKind.2.1 80 = .ok (.invokevirtual 19, 3) := by decide +kernel
theorem dX9_fillByKind_83 : decode mX9_fillByKind.2.1 83 = .ok (.goto 29, 3) := by decide +kernel
theorem dX9_fillByKind_86 : decode mX9_fillByKind.2.1 86 = .ok (.aload_n 0, 1) := by decide +kernel
theorem dX9_fillByKind_87 : decode mX9_fillByKind.2.1 87 = .ok (.iconst 0, 1) := by decide +kernel
theorem dX9_fillByKind_88 : decode mX9_fillByKind.2.1 88 = .ok (.iconst 1, 1) := by decide +kernel
theorem dX9_fillByKind_89 : decode mX9_fillByKind.2.1 89 = .ok (.invokevirtual 19, 3) := by decide +kernel
theorem dX9_fillByKind_92 : decode mX9_fillByKind.2.1 92 = .ok (.aload_n 0, 1) := by decide +kernel
theorem dX9_fillByKind_93 : decode mX9_fillByKind.2.1 93 = .ok (.iconst 1, 1) := by decide +kernel
theorem dX9_fillByKind_94 : decode mX9_fillByKind.2.1 94 = .ok (.iload_n 2, 1) := by decide +kernel
theorem dX9_fillByKind_95 : decode mX9_fillByKind.2.1 95 = .ok (.invokevirtual 19, 3) := by decide +kernel
theorem dX9_fillByKind_98 : decode mX9_fillByKind.2.1 98 = .ok (.aload_n 0, 1) := by decide +kernel
theorem dX9_fillByKind_99 : decode mX9_fillByKind.2.1 99 = .ok (.iconst 0, 1) := by decide +kernel
theorem dX9_fillByKind_100 : decode mX9_fillByKind.2.1 100 = .ok (.iconst 1, 1) := by decide +kernel
theorem dX9_fillByKind_101 : decode mX9_fillByKind.2.1 101 = .ok (.invokevirtual 19, 3) := by decide +kernel
theorem dX9_fillByKind_104 : decode mX9_fillByKind.2.1 104 = .ok (.goto 8, 3) := by decide +kernel
theorem dX9_fillByKind_107 : decode mX9_fillByKind.2.1 107 = .ok (.aload_n 0, 1) := by decide +kernel
theorem dX9_fillByKind_108 : decode mX9_fillByKind.2.1 108 = .ok (.iload_n 2, 1) := by decide +kernel
theorem dX9_fillByKind_109 : decode mX9_fillByKind.2.1 109 = .ok (.invokevirtual 27, 3) := by decide +kernel
theorem dX9_fillByKind_112 : decode mX9_fillByKind.2.1 112 = .ok (.return_, 1) := by decide +kernel

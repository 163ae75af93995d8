theorem dX0_init_0 : decode cX0_init 0 = .ok (.aload_n 0, 1) := by decide +kernel
theorem dX0_init_1 : decode cX0_init 1 = .ok (.invokespecial 3, 3) := by decide +kernel
theorem dX0_init_4 : decode cX0_init 4 = .ok (.aload_n 0, 1) := by decide +kernel
theorem dX0_init_5 : decode cX0_init 5 = .ok (.bipush 8, 2) := by decide +kernel
theorem dX0_init_7 : decode cX0_init 7 = .ok (.newarray .int, 2) := by decide +kernel
theorem dX0_init_9 : decode cX0_init 9 = .ok (.putfield 9, 3) := by decide +kernel
theorem dX0_init_12 : decode cX0_init 12 = .ok (.aload_n 0, 1) := by decide +kernel
theorem dX0_init_13 : decode cX0_init 13 = .ok (.iconst 4, 1) := by decide +kernel
theorem dX0_init_14 : decode cX0_init 14 = .ok (.newarray .int, 2) := by decide +kernel
theorem dX0_init_16 : decode cX0_init 16 = .ok (.putfield 15, 3) := by decide +kernel
theorem dX0_init_19 : decode cX0_init 19 = .ok (.aload_n 0, 1) := by decide +kernel
theorem dX0_init_20 : decode cX0_init 20 = .ok (.iconst 3, 1) := by decide +kernel
theorem dX0_init_21 : decode cX0_init 21 = .ok (.putfield 18, 3) := by decide +kernel
theorem dX0_init_24 : decode cX0_init 24 = .ok (.return_, 1) := by decide +kernel
theorem dX0_size_0 : decode cX0_size 0 = .ok (.aload_n 0, 1) := by decide +kernel
theorem dX0_size_1 : decode cX0_size 1 = .ok (.getfield 18, 3) := by decide +kernel
theorem dX0_size_4 : decode cX0_size 4 = .ok (.ireturn, 1) := by decide +kernel
theorem dX0_all_0 : decode cX0_all 0 = .ok (.iconst 1, 1) := by decide +kernel
theorem dX0_all_1 : decode cX0_all 1 = .ok (.aload_n 0, 1) := by decide +kernel
theorem dX0_all_2 : decode cX0_all 2 = .ok (.getfield 18, 3) := by decide +kernel
theorem dX0_all_5 : decode cX0_all 5 = .ok (.ishl, 1) := by decide +kernel
theorem dX0_all_6 : decode cX0_all 6 = .ok (.iconst 1, 1) := by decide +kernel
theorem dX0_all_7 : decode cX0_all 7 = .ok (.isub, 1) := by decide +kernel
theorem dX0_all_8 : decode cX0_all 8 = .ok (.ireturn, 1) := by decide +kernel
theorem dX0_has_0 : decode cX0_has 0 = .ok (.iload_n 1, 1) := by decide +kernel
theorem dX0_has_1 : decode cX0_has 1 = .ok (.ifCond .lt 15, 3) := by decide +kernel
theorem dX0_has_4 : decode cX0_has 4 = .ok (.iload_n 1, 1) := by decide +kernel
theorem dX0_has_5 : decode cX0_has 5 = .ok (.aload_n 0, 1) := by decide +kernel
theorem dX0_has_6 : decode cX0_has 6 = .ok (.getfield 18, 3) := by decide +kernel
theorem dX0_has_9 : decode cX0_has 9 = .ok (.if_icmp .ge 7, 3) := by decide +kernel
theorem dX0_has_12 : decode cX0_has 12 = .ok (.iconst 1, 1) := by decide +kernel
theorem dX0_has_13 : decode cX0_has 13 = .ok (.goto 4, 3) := by decide +kernel
theorem dX0_has_16 : decode cX0_has 16 = .ok (.iconst 0, 1) := by decide +kernel
theorem dX0_has_17 : decode cX0_has 17 = .ok (.ireturn, 1) := by decide +kernel
theorem dX0_atoms_0 : decode cX0_atoms 0 = .ok (.aload_n 0, 1) := by decide +kernel
theorem dX0_atoms_1 : decode cX0_atoms 1 = .ok (.getfield 15, 3) := by decide +kernel
theorem dX0_atoms_4 : decode cX0_atoms 4 = .ok (.areturn, 1) := by decide +kernel
theorem dX0_begin_0 : decode cX0_begin 0 = .ok (.aload_n 0, 1) := by decide +kernel
theorem dX0_begin_1 : decode cX0_begin 1 = .ok (.iload_n 1, 1) := by decide +kernel
theorem dX0_begin_2 : decode cX0_begin 2 = .ok (.putfield 18, 3) := by decide +kernel
theorem dX0_begin_5 : decode cX0_begin 5 = .ok (.iconst 0, 1) := by decide +kernel
theorem dX0_begin_6 : decode cX0_begin 6 = .ok (.istore_n 2, 1) := by decide +kernel
theorem dX0_begin_7 : decode cX0_begin 7 = .ok (.iload_n 2, 1) := by decide +kernel
theorem dX0_begin_8 : decode cX0_begin 8 = .ok (.bipush 8, 2) := by decide +kernel
theorem dX0_begin_10 : decode cX0_begin 10 = .ok (.if_icmp .ge 18, 3) := by decide +kernel
theorem dX0_begin_13 : decode cX0_begin 13 = .ok (.aload_n 0, 1) := by decide +kernel
theorem dX0_begin_14 : decode cX0_begin 14 = .ok (.getfield 9, 3) := by decide +kernel
theorem dX0_begin_17 : decode cX0_begin 17 = .ok (.iload_n 2, 1) := by decide +kernel
theorem dX0_begin_18 : decode cX0_begin 18 = .ok (.iconst 0, 1) := by decide +kernel
theorem dX0_begin_19 : decode cX0_begin 19 = .ok (.invokestatic 22, 3) := by decide +kernel
theorem dX0_begin_22 : decode cX0_begin 22 = .ok (.iinc 2 1, 3) := by decide +kernel
theorem dX0_begin_25 : decode cX0_begin 25 = .ok (.goto (-18), 3) := by decide +kernel
theorem dX0_begin_28 : decode cX0_begin 28 = .ok (.iconst 0, 1) := by decide +kernel
theorem dX0_begin_29 : decode cX0_begin 29 = .ok (.istore_n 2, 1) := by decide +kernel
theorem dX0_begin_30 : decode cX0_begin 30 = .ok (.iload_n 2, 1) := by decide +kernel
theorem dX0_begin_31 : decode cX0_begin 31 = .ok (.iconst 4, 1) := by decide +kernel
theorem dX0_begin_32 : decode cX0_begin 32 = .ok (.if_icmp .ge 18, 3) := by decide +kernel
theorem dX0_begin_35 : decode cX0_begin 35 = .ok (.aload_n 0, 1) := by decide +kernel
theorem dX0_begin_36 : decode cX0_begin 36 = .ok (.getfield 15, 3) := by decide +kernel
theorem dX0_begin_39 : decode cX0_begin 39 = .ok (.iload_n 2, 1) := by decide +kernel
theorem dX0_begin_40 : decode cX0_begin 40 = .ok (.iconst 0, 1) := by decide +kernel
theorem dX0_begin_41 : decode cX0_begin 41 = .ok (.invokestatic 22, 3) := by decide +kernel
theorem dX0_begin_44 : decode cX0_begin 44 = .ok (.iinc 2 1, 3) := by decide +kernel
theorem dX0_begin_47 : decode cX0_begin 47 = .ok (.goto (-17), 3) := by decide +kernel
theorem dX0_begin_50 : decode cX0_begin 50 = .ok (.return_, 1) := by decide +kernel
theorem dX0_let_0 : decode cX0_let 0 = .ok (.aload_n 0, 1) := by decide +kernel
theorem dX0_let_1 : decode cX0_let 1 = .ok (.getfield 9, 3) := by decide +kernel
theorem dX0_let_4 : decode cX0_let 4 = .ok (.iload_n 1, 1) := by decide +kernel
theorem dX0_let_5 : decode cX0_let 5 = .ok (.aload_n 0, 1) := by decide +kernel
theorem dX0_let_6 : decode cX0_let 6 = .ok (.getfield 9, 3) := by decide +kernel
theorem dX0_let_9 : decode cX0_let 9 = .ok (.iload_n 1, 1) := by decide +kernel
theorem dX0_let_10 : decode cX0_let 10 = .ok (.invokestatic 26, 3) := by decide +kernel
theorem dX0_let_13 : decode cX0_let 13 = .ok (.iconst 1, 1) := by decide +kernel
theorem dX0_let_14 : decode cX0_let 14 = .ok (.iload_n 2, 1) := by decide +kernel
theorem dX0_let_15 : decode cX0_let 15 = .ok (.ishl, 1) := by decide +kernel
theorem dX0_let_16 : decode cX0_let 16 = .ok (.iconst (-1), 1) := by decide +kernel
theorem dX0_let_17 : decode cX0_let 17 = .ok (.ixor, 1) := by decide +kernel
theorem dX0_let_18 : decode cX0_let 18 = .ok (.iand, 1) := by decide +kernel
theorem dX0_let_19 : decode cX0_let 19 = .ok (.iload_n 3, 1) := by decide +kernel
theorem dX0_let_20 : decode cX0_let 20 = .ok (.iload_n 2, 1) := by decide +kernel
theorem dX0_let_21 : decode cX0_let 21 = .ok (.ishl, 1) := by decide +kernel
theorem dX0_let_22 : decode cX0_let 22 = .ok (.ior, 1) := by decide +kernel
theorem dX0_let_23 : decode cX0_let 23 = .ok (.invokestatic 22, 3) := by decide +kernel
theorem dX0_let_26 : decode cX0_let 26 = .ok (.return_, 1) := by decide +kernel
theorem dX0_pairs_0 : decode cX0_pairs 0 = .ok (.iconst 0, 1) := by decide +kernel
theorem dX0_pairs_1 : decode cX0_pairs 1 = .ok (.istore_n 1, 1) := by decide +kernel
theorem dX0_pairs_2 : decode cX0_pairs 2 = .ok (.iconst 0, 1) := by decide +kernel
theorem dX0_pairs_3 : decode cX0_pairs 3 = .ok (.istore_n 2, 1) := by decide +kernel
theorem dX0_pairs_4 : decode cX0_pairs 4 = .ok (.iload_n 2, 1) := by decide +kernel
theorem dX0_pairs_5 : decode cX0_pairs 5 = .ok (.aload_n 0, 1) := by decide +kernel
theorem dX0_pairs_6 : decode cX0_pairs 6 = .ok (.getfield 18, 3) := by decide +kernel
theorem dX0_pairs_9 : decode cX0_pairs 9 = .ok (.if_icmp .ge 23, 3) := by decide +kernel
theorem dX0_pairs_12 : decode cX0_pairs 12 = .ok (.iload_n 1, 1) := by decide +kernel
theorem dX0_pairs_13 : decode cX0_pairs 13 = .ok (.aload_n 0, 1) := by decide +kernel
theorem dX0_pairs_14 : decode cX0_pairs 14 = .ok (.getfield 9, 3) := by decide +kernel
theorem dX0_pairs_17 : decode cX0_pairs 17 = .ok (.iload_n 2, 1) := by decide +kernel
theorem dX0_pairs_18 : decode cX0_pairs 18 = .ok (.invokestatic 26, 3) := by decide +kernel
theorem dX0_pairs_21 : decode cX0_pairs 21 = .ok (.invokestatic 30, 3) := by decide +kernel
theorem dX0_pairs_24 : decode cX0_pairs 24 = .ok (.iadd, 1) := by decide +kernel
theorem dX0_pairs_25 : decode cX0_pairs 25 = .ok (.istore_n 1, 1) := by decide +kernel
theorem dX0_pairs_26 : decode cX0_pairs 26 = .ok (.iinc 2 1, 3) := by decide +kernel
theorem dX0_pairs_29 : decode cX0_pairs 29 = .ok (.goto (-25), 3) := by decide +kernel
theorem dX0_pairs_32 : decode cX0_pairs 32 = .ok (.iload_n 1, 1) := by decide +kernel
theorem dX0_pairs_33 : decode cX0_pairs 33 = .ok (.ireturn, 1) := by decide +kernel
theorem dX0_seenBy_0 : decode cX0_seenBy 0 = .ok (.iload_n 1, 1) := by decide +kernel
theorem dX0_seenBy_1 : decode cX0_seenBy 1 = .ok (.tableswitch 57 0 2 #[27, 36, 49], 27) := by decide +kernel
theorem dX0_seenBy_28 : decode cX0_seenBy 28 = .ok (.aload_n 0, 1) := by decide +kernel
theorem dX0_seenBy_29 : decode cX0_seenBy 29 = .ok (.getfield 9, 3) := by decide +kernel
theorem dX0_seenBy_32 : decode cX0_seenBy 32 = .ok (.iload_n 2, 1) := by decide +kernel
theorem dX0_seenBy_33 : decode cX0_seenBy 33 = .ok (.invokestatic 26, 3) := by decide +kernel
theorem dX0_seenBy_36 : decode cX0_seenBy 36 = .ok (.ireturn, 1) := by decide +kernel
theorem dX0_seenBy_37 : decode cX0_seenBy 37 = .ok (.aload_n 0, 1) := by decide +kernel
theorem dX0_seenBy_38 : decode cX0_seenBy 38 = .ok (.getfield 9, 3) := by decide +kernel
theorem dX0_seenBy_41 : decode cX0_seenBy 41 = .ok (.iload_n 2, 1) := by decide +kernel
theorem dX0_seenBy_42 : decode cX0_seenBy 42 = .ok (.invokestatic 26, 3) := by decide +kernel
theorem dX0_seenBy_45 : decode cX0_seenBy 45 = .ok (.iconst 1, 1) := by decide +kernel
theorem dX0_seenBy_46 : decode cX0_seenBy 46 = .ok (.iload_n 2, 1) := by decide +kernel
theorem dX0_seenBy_47 : decode cX0_seenBy 47 = .ok (.ishl, 1) := by decide +kernel
theorem dX0_seenBy_48 : decode cX0_seenBy 48 = .ok (.ior, 1) := by decide +kernel
theorem dX0_seenBy_49 : decode cX0_seenBy 49 = .ok (.ireturn, 1) := by decide +kernel
theorem dX0_seenBy_50 : decode cX0_seenBy 50 = .ok (.aload_n 0, 1) := by decide +kernel
theorem dX0_seenBy_51 : decode cX0_seenBy 51 = .ok (.iconst 1, 1) := by decide +kernel
theorem dX0_seenBy_52 : decode cX0_seenBy 52 = .ok (.iload_n 2, 1) := by decide +kernel
theorem dX0_seenBy_53 : decode cX0_seenBy 53 = .ok (.ishl, 1) := by decide +kernel
theorem dX0_seenBy_54 : decode cX0_seenBy 54 = .ok (.invokevirtual 36, 3) := by decide +kernel
theorem dX0_seenBy_57 : decode cX0_seenBy 57 = .ok (.ireturn, 1) := by decide +kernel
theorem dX0_seenBy_58 : decode cX0_seenBy 58 = .ok (.aload_n 0, 1) := by decide +kernel
theorem dX0_seenBy_59 : decode cX0_seenBy 59 = .ok (.iconst 1, 1) := by decide +kernel
theorem dX0_seenBy_60 : decode cX0_seenBy 60 = .ok (.iload_n 2, 1) := by decide +kernel
theorem dX0_seenBy_61 : decode cX0_seenBy 61 = .ok (.ishl, 1) := by decide +kernel
theorem dX0_seenBy_62 : decode cX0_seenBy 62 = .ok (.invokevirtual 39, 3) := by decide +kernel
theorem dX0_seenBy_65 : decode cX0_seenBy 65 = .ok (.ireturn, 1) := by decide +kernel
theorem dX0_stepFrom_0 : decode cX0_stepFrom 0 = .ok (.iconst 0, 1) := by decide +kernel
theorem dX0_stepFrom_1 : decode cX0_stepFrom 1 = .ok (.istore_n 2, 1) := by decide +kernel
theorem dX0_stepFrom_2 : decode cX0_stepFrom 2 = .ok (.iconst 0, 1) := by decide +kernel
theorem dX0_stepFrom_3 : decode cX0_stepFrom 3 = .ok (.istore_n 3, 1) := by decide +kernel
theorem dX0_stepFrom_4 : decode cX0_stepFrom 4 = .ok (.iload_n 3, 1) := by decide +kernel
theorem dX0_stepFrom_5 : decode cX0_stepFrom 5 = .ok (.aload_n 0, 1) := by decide +kernel
theorem dX0_stepFrom_6 : decode cX0_stepFrom 6 = .ok (.getfield 18, 3) := by decide +kernel
theorem dX0_stepFrom_9 : decode cX0_stepFrom 9 = .ok (.if_icmp .ge 29, 3) := by decide +kernel
theorem dX0_stepFrom_12 : decode cX0_stepFrom 12 = .ok (.iload_n 1, 1) := by decide +kernel
theorem dX0_stepFrom_13 : decode cX0_stepFrom 13 = .ok (.iload_n 3, 1) := by decide +kernel
theorem dX0_stepFrom_14 : decode cX0_stepFrom 14 = .ok (.invokestatic 42, 3) := by decide +kernel
theorem dX0_stepFrom_17 : decode cX0_stepFrom 17 = .ok (.iconst 1, 1) := by decide +kernel
theorem dX0_stepFrom_18 : decode cX0_stepFrom 18 = .ok (.if_icmp .ne 14, 3) := by decide +kernel
theorem dX0_stepFrom_21 : decode cX0_stepFrom 21 = .ok (.iload_n 2, 1) := by decide +kernel
theorem dX0_stepFrom_22 : decode cX0_stepFrom 22 = .ok (.aload_n 0, 1) := by decide +kernel
theorem dX0_stepFrom_23 : decode cX0_stepFrom 23 = .ok (.getfield 9, 3) := by decide +kernel
theorem dX0_stepFrom_26 : decode cX0_stepFrom 26 = .ok (.iload_n 3, 1) := by decide +kernel
theorem dX0_stepFrom_27 : decode cX0_stepFrom 27 = .ok (.invokestatic 26, 3) := by decide +kernel
theorem dX0_stepFrom_30 : decode cX0_stepFrom 30 = .ok (.ior, 1) := by decide +kernel
theorem dX0_stepFrom_31 : decode cX0_stepFrom 31 = .ok (.istore_n 2, 1) := by decide +kernel
theorem dX0_stepFrom_32 : decode cX0_stepFrom 32 = .ok (.iinc 3 1, 3) := by decide +kernel
theorem dX0_stepFrom_35 : decode cX0_stepFrom 35 = .ok (.goto (-31), 3) := by decide +kernel
theorem dX0_stepFrom_38 : decode cX0_stepFrom 38 = .ok (.iload_n 2, 1) := by decide +kernel
theorem dX0_stepFrom_39 : decode cX0_stepFrom 39 = .ok (.ireturn, 1) := by decide +kernel
theorem dX0_stepInto_0 : decode cX0_stepInto 0 = .ok (.iconst 0, 1) := by decide +kernel
theorem dX0_stepInto_1 : decode cX0_stepInto 1 = .ok (.istore_n 2, 1) := by decide +kernel
theorem dX0_stepInto_2 : decode cX0_stepInto 2 = .ok (.iconst 0, 1) := by decide +kernel
theorem dX0_stepInto_3 : decode cX0_stepInto 3 = .ok (.istore_n 3, 1) := by decide +kernel
theorem dX0_stepInto_4 : decode cX0_stepInto 4 = .ok (.iload_n 3, 1) := by decide +kernel
theorem dX0_stepInto_5 : decode cX0_stepInto 5 = .ok (.aload_n 0, 1) := by decide +kernel
theorem dX0_stepInto_6 : decode cX0_stepInto 6 = .ok (.getfield 18, 3) := by decide +kernel
theorem dX0_stepInto_9 : decode cX0_stepInto 9 = .ok (.if_icmp .ge 28, 3) := by decide +kernel
theorem dX0_stepInto_12 : decode cX0_stepInto 12 = .ok (.aload_n 0, 1) := by decide +kernel
theorem dX0_stepInto_13 : decode cX0_stepInto 13 = .ok (.getfield 9, 3) := by decide +kernel
theorem dX0_stepInto_16 : decode cX0_stepInto 16 = .ok (.iload_n 3, 1) := by decide +kernel
theorem dX0_stepInto_17 : decode cX0_stepInto 17 = .ok (.invokestatic 26, 3) := by decide +kernel
theorem dX0_stepInto_20 : decode cX0_stepInto 20 = .ok (.iload_n 1, 1) := by decide +kernel
theorem dX0_stepInto_21 : decode cX0_stepInto 21 = .ok (.iand, 1) := by decide +kernel
theorem dX0_stepInto_22 : decode cX0_stepInto 22 = .ok (.ifCond .eq 9, 3) := by decide +kernel
theorem dX0_stepInto_25 : decode cX0_stepInto 25 = .ok (.iload_n 2, 1) := by decide +kernel
theorem dX0_stepInto_26 : decode cX0_stepInto 26 = .ok (.iconst 1, 1) := by decide +kernel
theorem dX0_stepInto_27 : decode cX0_stepInto 27 = .ok (.iload_n 3, 1) := by decide +kernel
theorem dX0_stepInto_28 : decode cX0_stepInto 28 = .ok (.ishl, 1) := by decide +kernel
theorem dX0_stepInto_29 : decode cX0_stepInto 29 = .ok (.ior, 1) := by decide +kernel
theorem dX0_stepInto_30 : decode cX0_stepInto 30 = .ok (.istore_n 2, 1) := by decide +kernel
theorem dX0_stepInto_31 : decode cX0_stepInto 31 = .ok (.iinc 3 1, 3) := by decide +kernel
theorem dX0_stepInto_34 : decode cX0_stepInto 34 = .ok (.goto (-30), 3) := by decide +kernel
theorem dX0_stepInto_37 : decode cX0_stepInto 37 = .ok (.iload_n 2, 1) := by decide +kernel
theorem dX0_stepInto_38 : decode cX0_stepInto 38 = .ok (.ireturn, 1) := by decide +kernel
theorem dX0_farFrom_0 : decode cX0_farFrom 0 = .ok (.iload_n 1, 1) := by decide +kernel
theorem dX0_farFrom_1 : decode cX0_farFrom 1 = .ok (.istore_n 2, 1) := by decide +kernel
theorem dX0_farFrom_2 : decode cX0_farFrom 2 = .ok (.iconst 0, 1) := by decide +kernel
theorem dX0_farFrom_3 : decode cX0_farFrom 3 = .ok (.istore_n 3, 1) := by decide +kernel
theorem dX0_farFrom_4 : decode cX0_farFrom 4 = .ok (.iload_n 3, 1) := by decide +kernel
theorem dX0_farFrom_5 : decode cX0_farFrom 5 = .ok (.aload_n 0, 1) := by decide +kernel
theorem dX0_farFrom_6 : decode cX0_farFrom 6 = .ok (.getfield 18, 3) := by decide +kernel
theorem dX0_farFrom_9 : decode cX0_farFrom 9 = .ok (.if_icmp .ge 17, 3) := by decide +kernel
theorem dX0_farFrom_12 : decode cX0_farFrom 12 = .ok (.iload_n 2, 1) := by decide +kernel
theorem dX0_farFrom_13 : decode cX0_farFrom 13 = .ok (.aload_n 0, 1) := by decide +kernel
theorem dX0_farFrom_14 : decode cX0_farFrom 14 = .ok (.iload_n 2, 1) := by decide +kernel
theorem dX0_farFrom_15 : decode cX0_farFrom 15 = .ok (.invokevirtual 46, 3) := by decide +kernel
theorem dX0_farFrom_18 : decode cX0_farFrom 18 = .ok (.ior, 1) := by decide +kernel
theorem dX0_farFrom_19 : decode cX0_farFrom 19 = .ok (.istore_n 2, 1) := by decide +kernel
theorem dX0_farFrom_20 : decode cX0_farFrom 20 = .ok (.iinc 3 1, 3) := by decide +kernel
theorem dX0_farFrom_23 : decode cX0_farFrom 23 = .ok (.goto (-19), 3) := by decide +kernel
theorem dX0_farFrom_26 : decode cX0_farFrom 26 = .ok (.iload_n 2, 1) := by decide +kernel
theorem dX0_farFrom_27 : decode cX0_farFrom 27 = .ok (.ireturn, 1) := by decide +kernel
theorem dX0_bothWaysFrom_0 : decode cX0_bothWaysFrom 0 = .ok (.iload_n 1, 1) := by decide +kernel
theorem dX0_bothWaysFrom_1 : decode cX0_bothWaysFrom 1 = .ok (.istore_n 2, 1) := by decide +kernel
theorem dX0_bothWaysFrom_2 : decode cX0_bothWaysFrom 2 = .ok (.iconst 0, 1) := by decide +kernel
theorem dX0_bothWaysFrom_3 : decode cX0_bothWaysFrom 3 = .ok (.istore_n 3, 1) := by decide +kernel
theorem dX0_bothWaysFrom_4 : decode cX0_bothWaysFrom 4 = .ok (.iload_n 3, 1) := by decide +kernel
theorem dX0_bothWaysFrom_5 : decode cX0_bothWaysFrom 5 = .ok (.aload_n 0, 1) := by decide +kernel
theorem dX0_bothWaysFrom_6 : decode cX0_bothWaysFrom 6 = .ok (.getfield 18, 3) := by decide +kernel
theorem dX0_bothWaysFrom_9 : decode cX0_bothWaysFrom 9 = .ok (.if_icmp .ge 23, 3) := by decide +kernel
theorem dX0_bothWaysFrom_12 : decode cX0_bothWaysFrom 12 = .ok (.iload_n 2, 1) := by decide +kernel
theorem dX0_bothWaysFrom_13 : decode cX0_bothWaysFrom 13 = .ok (.aload_n 0, 1) := by decide +kernel
theorem dX0_bothWaysFrom_14 : decode cX0_bothWaysFrom 14 = .ok (.iload_n 2, 1) := by decide +kernel
theorem dX0_bothWaysFrom_15 : decode cX0_bothWaysFrom 15 = .ok (.invokevirtual 46, 3) := by decide +kernel
theorem dX0_bothWaysFrom_18 : decode cX0_bothWaysFrom 18 = .ok (.aload_n 0, 1) := by decide +kernel
theorem dX0_bothWaysFrom_19 : decode cX0_bothWaysFrom 19 = .ok (.iload_n 2, 1) := by decide +kernel
theorem dX0_bothWaysFrom_20 : decode cX0_bothWaysFrom 20 = .ok (.invokevirtual 49, 3) := by decide +kernel
theorem dX0_bothWaysFrom_23 : decode cX0_bothWaysFrom 23 = .ok (.ior, 1) := by decide +kernel
theorem dX0_bothWaysFrom_24 : decode cX0_bothWaysFrom 24 = .ok (.ior, 1) := by decide +kernel
theorem dX0_bothWaysFrom_25 : decode cX0_bothWaysFrom 25 = .ok (.istore_n 2, 1) := by decide +kernel
theorem dX0_bothWaysFrom_26 : decode cX0_bothWaysFrom 26 = .ok (.iinc 3 1, 3) := by decide +kernel
theorem dX0_bothWaysFrom_29 : decode cX0_bothWaysFrom 29 = .ok (.goto (-25), 3) := by decide +kernel
theorem dX0_bothWaysFrom_32 : decode cX0_bothWaysFrom 32 = .ok (.iload_n 2, 1) := by decide +kernel
theorem dX0_bothWaysFrom_33 : decode cX0_bothWaysFrom 33 = .ok (.ireturn, 1) := by decide +kernel
theorem dX0_kinds_0 : decode cX0_kinds 0 = .ok (.bipush 63, 2) := by decide +kernel
theorem dX0_kinds_2 : decode cX0_kinds 2 = .ok (.istore_n 1, 1) := by decide +kernel
theorem dX0_kinds_3 : decode cX0_kinds 3 = .ok (.iconst 0, 1) := by decide +kernel
theorem dX0_kinds_4 : decode cX0_kinds 4 = .ok (.istore_n 2, 1) := by decide +kernel
theorem dX0_kinds_5 : decode cX0_kinds 5 = .ok (.iload_n 2, 1) := by decide +kernel
theorem dX0_kinds_6 : decode cX0_kinds 6 = .ok (.aload_n 0, 1) := by decide +kernel
theorem dX0_kinds_7 : decode cX0_kinds 7 = .ok (.getfield 18, 3) := by decide +kernel
theorem dX0_kinds_10 : decode cX0_kinds 10 = .ok (.if_icmp .ge 102, 3) := by decide +kernel
theorem dX0_kinds_13 : decode cX0_kinds 13 = .ok (.aload_n 0, 1) := by decide +kernel
theorem dX0_kinds_14 : decode cX0_kinds 14 = .ok (.getfield 9, 3) := by decide +kernel
theorem dX0_kinds_17 : decode cX0_kinds 17 = .ok (.iload_n 2, 1) := by decide +kernel
theorem dX0_kinds_18 : decode cX0_kinds 18 = .ok (.invokestatic 26, 3) := by decide +kernel
theorem dX0_kinds_21 : decode cX0_kinds 21 = .ok (.istore_n 3, 1) := by decide +kernel
theorem dX0_kinds_22 : decode cX0_kinds 22 = .ok (.iload_n 3, 1) := by decide +kernel
theorem dX0_kinds_23 : decode cX0_kinds 23 = .ok (.iload_n 2, 1) := by decide +kernel
theorem dX0_kinds_24 : decode cX0_kinds 24 = .ok (.invokestatic 42, 3) := by decide +kernel
theorem dX0_kinds_27 : decode cX0_kinds 27 = .ok (.ifCond .ne 8, 3) := by decide +kernel
theorem dX0_kinds_30 : decode cX0_kinds 30 = .ok (.iload_n 1, 1) := by decide +kernel
theorem dX0_kinds_31 : decode cX0_kinds 31 = .ok (.bipush (-2), 2) := by decide +kernel
theorem dX0_kinds_33 : decode cX0_kinds 33 = .ok (.iand, 1) := by decide +kernel
theorem dX0_kinds_34 : decode cX0_kinds 34 = .ok (.istore_n 1, 1) := by decide +kernel
theorem dX0_kinds_35 : decode cX0_kinds 35 = .ok (.iload_n 3, 1) := by decide +kernel
theorem dX0_kinds_36 : decode cX0_kinds 36 = .ok (.aload_n 0, 1) := by decide +kernel
theorem dX0_kinds_37 : decode cX0_kinds 37 = .ok (.iconst 1, 1) := by decide +kernel
theorem dX0_kinds_38 : decode cX0_kinds 38 = .ok (.iload_n 2, 1) := by decide +kernel
theorem dX0_kinds_39 : decode cX0_kinds 39 = .ok (.ishl, 1) := by decide +kernel
theorem dX0_kinds_40 : decode cX0_kinds 40 = .ok (.invokevirtual 49, 3) := by decide +kernel
theorem dX0_kinds_43 : decode cX0_kinds 43 = .ok (.invokestatic 52, 3) := by decide +kernel
theorem dX0_kinds_46 : decode cX0_kinds 46 = .ok (.ifCond .ne 8, 3) := by decide +kernel
theorem dX0_kinds_49 : decode cX0_kinds 49 = .ok (.iload_n 1, 1) := by decide +kernel
theorem dX0_kinds_50 : decode cX0_kinds 50 = .ok (.bipush (-3), 2) := by decide +kernel
theorem dX0_kinds_52 : decode cX0_kinds 52 = .ok (.iand, 1) := by decide +kernel
theorem dX0_kinds_53 : decode cX0_kinds 53 = .ok (.istore_n 1, 1) := by decide +kernel
theorem dX0_kinds_54 : decode cX0_kinds 54 = .ok (.aload_n 0, 1) := by decide +kernel
theorem dX0_kinds_55 : decode cX0_kinds 55 = .ok (.iload_n 3, 1) := by decide +kernel
theorem dX0_kinds_56 : decode cX0_kinds 56 = .ok (.invokevirtual 46, 3) := by decide +kernel
theorem dX0_kinds_59 : decode cX0_kinds 59 = .ok (.iload_n 3, 1) := by decide +kernel
theorem dX0_kinds_60 : decode cX0_kinds 60 = .ok (.invokestatic 52, 3) := by decide +kernel
theorem dX0_kinds_63 : decode cX0_kinds 63 = .ok (.ifCond .ne 8, 3) := by decide +kernel
theorem dX0_kinds_66 : decode cX0_kinds 66 = .ok (.iload_n 1, 1) := by decide +kernel
theorem dX0_kinds_67 : decode cX0_kinds 67 = .ok (.bipush (-5), 2) := by decide +kernel
theorem dX0_kinds_69 : decode cX0_kinds 69 = .ok (.iand, 1) := by decide +kernel
theorem dX0_kinds_70 : decode cX0_kinds 70 = .ok (.istore_n 1, 1) := by decide +kernel
theorem dX0_kinds_71 : decode cX0_kinds 71 = .ok (.iload_n 3, 1) := by decide +kernel
theorem dX0_kinds_72 : decode cX0_kinds 72 = .ok (.ifCond .ne 8, 3) := by decide +kernel
theorem dX0_kinds_75 : decode cX0_kinds 75 = .ok (.iload_n 1, 1) := by decide +kernel
theorem dX0_kinds_76 : decode cX0_kinds 76 = .ok (.bipush (-9), 2) := by decide +kernel
theorem dX0_kinds_78 : decode cX0_kinds 78 = .ok (.iand, 1) := by decide +kernel
theorem dX0_kinds_79 : decode cX0_kinds 79 = .ok (.istore_n 1, 1) := by decide +kernel
theorem dX0_kinds_80 : decode cX0_kinds 80 = .ok (.aload_n 0, 1) := by decide +kernel
theorem dX0_kinds_81 : decode cX0_kinds 81 = .ok (.iload_n 3, 1) := by decide +kernel
theorem dX0_kinds_82 : decode cX0_kinds 82 = .ok (.invokevirtual 56, 3) := by decide +kernel
theorem dX0_kinds_85 : decode cX0_kinds 85 = .ok (.ifCond .ne 8, 3) := by decide +kernel
theorem dX0_kinds_88 : decode cX0_kinds 88 = .ok (.iload_n 1, 1) := by decide +kernel
theorem dX0_kinds_89 : decode cX0_kinds 89 = .ok (.bipush (-17), 2) := by decide +kernel
theorem dX0_kinds_91 : decode cX0_kinds 91 = .ok (.iand, 1) := by decide +kernel
theorem dX0_kinds_92 : decode cX0_kinds 92 = .ok (.istore_n 1, 1) := by decide +kernel
theorem dX0_kinds_93 : decode cX0_kinds 93 = .ok (.iload_n 3, 1) := by decide +kernel
theorem dX0_kinds_94 : decode cX0_kinds 94 = .ok (.invokestatic 30, 3) := by decide +kernel
theorem dX0_kinds_97 : decode cX0_kinds 97 = .ok (.iconst 1, 1) := by decide +kernel
theorem dX0_kinds_98 : decode cX0_kinds 98 = .ok (.if_icmp .le 8, 3) := by decide +kernel
theorem dX0_kinds_101 : decode cX0_kinds 101 = .ok (.iload_n 1, 1) := by decide +kernel
theorem dX0_kinds_102 : decode cX0_kinds 102 = .ok (.bipush (-33), 2) := by decide +kernel
theorem dX0_kinds_104 : decode cX0_kinds 104 = .ok (.iand, 1) := by decide +kernel
theorem dX0_kinds_105 : decode cX0_kinds 105 = .ok (.istore_n 1, 1) := by decide +kernel
theorem dX0_kinds_106 : decode cX0_kinds 106 = .ok (.iinc 2 1, 3) := by decide +kernel
theorem dX0_kinds_109 : decode cX0_kinds 109 = .ok (.goto (-104), 3) := by decide +kernel
theorem dX0_kinds_112 : decode cX0_kinds 112 = .ok (.iload_n 1, 1) := by decide +kernel
theorem dX0_kinds_113 : decode cX0_kinds 113 = .ok (.ireturn, 1) := by decide +kernel
theorem dX0_allSeeEachOther_0 : decode cX0_allSeeEachOther 0 = .ok (.iconst 0, 1) := by decide +kernel
theorem dX0_allSeeEachOther_1 : decode cX0_allSeeEachOther 1 = .ok (.istore_n 2, 1) := by decide +kernel
theorem dX0_allSeeEachOther_2 : decode cX0_allSeeEachOther 2 = .ok (.iload_n 2, 1) := by decide +kernel
theorem dX0_allSeeEachOther_3 : decode cX0_allSeeEachOther 3 = .ok (.aload_n 0, 1) := by decide +kernel
theorem dX0_allSeeEachOther_4 : decode cX0_allSeeEachOther 4 = .ok (.getfield 18, 3) := by decide +kernel
theorem dX0_allSeeEachOther_7 : decode cX0_allSeeEachOther 7 = .ok (.if_icmp .ge 35, 3) := by decide +kernel
theorem dX0_allSeeEachOther_10 : decode cX0_allSeeEachOther 10 = .ok (.iload_n 1, 1) := by decide +kernel
theorem dX0_allSeeEachOther_11 : decode cX0_allSeeEachOther 11 = .ok (.iload_n 2, 1) := by decide +kernel
theorem dX0_allSeeEachOther_12 : decode cX0_allSeeEachOther 12 = .ok (.invokestatic 42, 3) := by decide +kernel
theorem dX0_allSeeEachOther_15 : decode cX0_allSeeEachOther 15 = .ok (.iconst 1, 1) := by decide +kernel
theorem dX0_allSeeEachOther_16 : decode cX0_allSeeEachOther 16 = .ok (.if_icmp .ne 20, 3) := by decide +kernel
theorem dX0_allSeeEachOther_19 : decode cX0_allSeeEachOther 19 = .ok (.iload_n 1, 1) := by decide +kernel
theorem dX0_allSeeEachOther_20 : decode cX0_allSeeEachOther 20 = .ok (.aload_n 0, 1) := by decide +kernel
theorem dX0_allSeeEachOther_21 : decode cX0_allSeeEachOther 21 = .ok (.getfield 9, 3) := by decide +kernel
theorem dX0_allSeeEachOther_24 : decode cX0_allSeeEachOther 24 = .ok (.iload_n 2, 1) := by decide +kernel
theorem dX0_allSeeEachOther_25 : decode cX0_allSeeEachOther 25 = .ok (.invokestatic 26, 3) := by decide +kernel
theorem dX0_allSeeEachOther_28 : decode cX0_allSeeEachOther 28 = .ok (.invokestatic 52, 3) := by decide +kernel
theorem dX0_allSeeEachOther_31 : decode cX0_allSeeEachOther 31 = .ok (.ifCond .ne 5, 3) := by decide +kernel
theorem dX0_allSeeEachOther_34 : decode cX0_allSeeEachOther 34 = .ok (.iconst 0, 1) := by decide +kernel
theorem dX0_allSeeEachOther_35 : decode cX0_allSeeEachOther 35 = .ok (.ireturn, 1) := by decide +kernel
theorem dX0_allSeeEachOther_36 : decode cX0_allSeeEachOther 36 = .ok (.iinc 2 1, 3) := by decide +kernel
theorem dX0_allSeeEachOther_39 : decode cX0_allSeeEachOther 39 = .ok (.goto (-37), 3) := by decide +kernel
theorem dX0_allSeeEachOther_42 : decode cX0_allSeeEachOther 42 = .ok (.iconst 1, 1) := by decide +kernel
theorem dX0_allSeeEachOther_43 : decode cX0_allSeeEachOther 43 = .ok (.ireturn, 1) := by decide +kernel
theorem dX0_isGrowing_0 : decode cX0_isGrowing 0 = .ok (.iconst 0, 1) := by decide +kernel
theorem dX0_isGrowing_1 : decode cX0_isGrowing 1 = .ok (.istore_n 1, 1) := by decide +kernel
theorem dX0_isGrowing_2 : decode cX0_isGrowing 2 = .ok (.iload_n 1, 1) := by decide +kernel
theorem dX0_isGrowing_3 : decode cX0_isGrowing 3 = .ok (.iconst 4, 1) := by decide +kernel
theorem dX0_isGrowing_4 : decode cX0_isGrowing 4 = .ok (.if_icmp .ge 37, 3) := by decide +kernel
theorem dX0_isGrowing_7 : decode cX0_isGrowing 7 = .ok (.aload_n 0, 1) := by decide +kernel
theorem dX0_isGrowing_8 : decode cX0_isGrowing 8 = .ok (.aload_n 0, 1) := by decide +kernel
theorem dX0_isGrowing_9 : decode cX0_isGrowing 9 = .ok (.getfield 15, 3) := by decide +kernel
theorem dX0_isGrowing_12 : decode cX0_isGrowing 12 = .ok (.iload_n 1, 1) := by decide +kernel
theorem dX0_isGrowing_13 : decode cX0_isGrowing 13 = .ok (.invokestatic 26, 3) := by decide +kernel
theorem dX0_isGrowing_16 : decode cX0_isGrowing 16 = .ok (.invokevirtual 46, 3) := by decide +kernel
theorem dX0_isGrowing_19 : decode cX0_isGrowing 19 = .ok (.aload_n 0, 1) := by decide +kernel
theorem dX0_isGrowing_20 : decode cX0_isGrowing 20 = .ok (.getfield 15, 3) := by decide +kernel
theorem dX0_isGrowing_23 : decode cX0_isGrowing 23 = .ok (.iload_n 1, 1) := by decide +kernel
theorem dX0_isGrowing_24 : decode cX0_isGrowing 24 = .ok (.invokestatic 26, 3) := by decide +kernel
theorem dX0_isGrowing_27 : decode cX0_isGrowing 27 = .ok (.invokestatic 52, 3) := by decide +kernel
theorem dX0_isGrowing_30 : decode cX0_isGrowing 30 = .ok (.ifCond .ne 5, 3) := by decide +kernel
theorem dX0_isGrowing_33 : decode cX0_isGrowing 33 = .ok (.iconst 0, 1) := by decide +kernel
theorem dX0_isGrowing_34 : decode cX0_isGrowing 34 = .ok (.ireturn, 1) := by decide +kernel
theorem dX0_isGrowing_35 : decode cX0_isGrowing 35 = .ok (.iinc 1 1, 3) := by decide +kernel
theorem dX0_isGrowing_38 : decode cX0_isGrowing 38 = .ok (.goto (-36), 3) := by decide +kernel
theorem dX0_isGrowing_41 : decode cX0_isGrowing 41 = .ok (.iconst 1, 1) := by decide +kernel
theorem dX0_isGrowing_42 : decode cX0_isGrowing 42 = .ok (.ireturn, 1) := by decide +kernel
theorem dX0_allLeadInto_0 : decode cX0_allLeadInto 0 = .ok (.iconst 0, 1) := by decide +kernel
theorem dX0_allLeadInto_1 : decode cX0_allLeadInto 1 = .ok (.istore_n 2, 1) := by decide +kernel
theorem dX0_allLeadInto_2 : decode cX0_allLeadInto 2 = .ok (.iconst 0, 1) := by decide +kernel
theorem dX0_allLeadInto_3 : decode cX0_allLeadInto 3 = .ok (.istore_n 3, 1) := by decide +kernel
theorem dX0_allLeadInto_4 : decode cX0_allLeadInto 4 = .ok (.iload_n 3, 1) := by decide +kernel
theorem dX0_allLeadInto_5 : decode cX0_allLeadInto 5 = .ok (.aload_n 0, 1) := by decide +kernel
theorem dX0_allLeadInto_6 : decode cX0_allLeadInto 6 = .ok (.getfield 18, 3) := by decide +kernel
theorem dX0_allLeadInto_9 : decode cX0_allLeadInto 9 = .ok (.if_icmp .ge 34, 3) := by decide +kernel
theorem dX0_allLeadInto_12 : decode cX0_allLeadInto 12 = .ok (.aload_n 0, 1) := by decide +kernel
theorem dX0_allLeadInto_13 : decode cX0_allLeadInto 13 = .ok (.aload_n 0, 1) := by decide +kernel
theorem dX0_allLeadInto_14 : decode cX0_allLeadInto 14 = .ok (.getfield 9, 3) := by decide +kernel
theorem dX0_allLeadInto_17 : decode cX0_allLeadInto 17 = .ok (.iload_n 3, 1) := by decide +kernel
theorem dX0_allLeadInto_18 : decode cX0_allLeadInto 18 = .ok (.invokestatic 26, 3) := by decide +kernel
theorem dX0_allLeadInto_21 : decode cX0_allLeadInto 21 = .ok (.invokevirtual 36, 3) := by decide +kernel
theorem dX0_allLeadInto_24 : decode cX0_allLeadInto 24 = .ok (.iload_n 1, 1) := by decide +kernel
theorem dX0_allLeadInto_25 : decode cX0_allLeadInto 25 = .ok (.invokestatic 52, 3) := by decide +kernel
theorem dX0_allLeadInto_28 : decode cX0_allLeadInto 28 = .ok (.ifCond .eq 9, 3) := by decide +kernel
theorem dX0_allLeadInto_31 : decode cX0_allLeadInto 31 = .ok (.iload_n 2, 1) := by decide +kernel
theorem dX0_allLeadInto_32 : decode cX0_allLeadInto 32 = .ok (.iconst 1, 1) := by decide +kernel
theorem dX0_allLeadInto_33 : decode cX0_allLeadInto 33 = .ok (.iload_n 3, 1) := by decide +kernel
theorem dX0_allLeadInto_34 : decode cX0_allLeadInto 34 = .ok (.ishl, 1) := by decide +kernel
theorem dX0_allLeadInto_35 : decode cX0_allLeadInto 35 = .ok (.ior, 1) := by decide +kernel
theorem dX0_allLeadInto_36 : decode cX0_allLeadInto 36 = .ok (.istore_n 2, 1) := by decide +kernel
theorem dX0_allLeadInto_37 : decode cX0_allLeadInto 37 = .ok (.iinc 3 1, 3) := by decide +kernel
theorem dX0_allLeadInto_40 : decode cX0_allLeadInto 40 = .ok (.goto (-36), 3) := by decide +kernel
theorem dX0_allLeadInto_43 : decode cX0_allLeadInto 43 = .ok (.iload_n 2, 1) := by decide +kernel
theorem dX0_allLeadInto_44 : decode cX0_allLeadInto 44 = .ok (.ireturn, 1) := by decide +kernel
theorem dX0_stepsOutOf_0 : decode cX0_stepsOutOf 0 = .ok (.iconst 1, 1) := by decide +kernel
theorem dX0_stepsOutOf_1 : decode cX0_stepsOutOf 1 = .ok (.iload_n 2, 1) := by decide +kernel
theorem dX0_stepsOutOf_2 : decode cX0_stepsOutOf 2 = .ok (.ishl, 1) := by decide +kernel
theorem dX0_stepsOutOf_3 : decode cX0_stepsOutOf 3 = .ok (.istore_n 3, 1) := by decide +kernel
theorem dX0_stepsOutOf_4 : decode cX0_stepsOutOf 4 = .ok (.iconst 0, 1) := by decide +kernel
theorem dX0_stepsOutOf_5 : decode cX0_stepsOutOf 5 = .ok (.istore 4, 2) := by decide +kernel
theorem dX0_stepsOutOf_7 : decode cX0_stepsOutOf 7 = .ok (.iload 4, 2) := by decide +kernel
theorem dX0_stepsOutOf_9 : decode cX0_stepsOutOf 9 = .ok (.aload_n 0, 1) := by decide +kernel
theorem dX0_stepsOutOf_10 : decode cX0_stepsOutOf 10 = .ok (.getfield 18, 3) := by decide +kernel
theorem dX0_stepsOutOf_13 : decode cX0_stepsOutOf 13 = .ok (.if_icmp .ge 28, 3) := by decide +kernel
theorem dX0_stepsOutOf_16 : decode cX0_stepsOutOf 16 = .ok (.iload_n 3, 1) := by decide +kernel
theorem dX0_stepsOutOf_17 : decode cX0_stepsOutOf 17 = .ok (.iload_n 1, 1) := by decide +kernel
theorem dX0_stepsOutOf_18 : decode cX0_stepsOutOf 18 = .ok (.invokestatic 52, 3) := by decide +kernel
theorem dX0_stepsOutOf_21 : decode cX0_stepsOutOf 21 = .ok (.ifCond .ne 6, 3) := by decide +kernel
theorem dX0_stepsOutOf_24 : decode cX0_stepsOutOf 24 = .ok (.iload 4, 2) := by decide +kernel
theorem dX0_stepsOutOf_26 : decode cX0_stepsOutOf 26 = .ok (.ireturn, 1) := by decide +kernel
theorem dX0_stepsOutOf_27 : decode cX0_stepsOutOf 27 = .ok (.iload_n 3, 1) := by decide +kernel
theorem dX0_stepsOutOf_28 : decode cX0_stepsOutOf 28 = .ok (.aload_n 0, 1) := by decide +kernel
theorem dX0_stepsOutOf_29 : decode cX0_stepsOutOf 29 = .ok (.iload_n 3, 1) := by decide +kernel
theorem dX0_stepsOutOf_30 : decode cX0_stepsOutOf 30 = .ok (.invokevirtual 46, 3) := by decide +kernel
theorem dX0_stepsOutOf_33 : decode cX0_stepsOutOf 33 = .ok (.ior, 1) := by decide +kernel
theorem dX0_stepsOutOf_34 : decode cX0_stepsOutOf 34 = .ok (.istore_n 3, 1) := by decide +kernel
theorem dX0_stepsOutOf_35 : decode cX0_stepsOutOf 35 = .ok (.iinc 4 1, 3) := by decide +kernel
theorem dX0_stepsOutOf_38 : decode cX0_stepsOutOf 38 = .ok (.goto (-31), 3) := by decide +kernel
theorem dX0_stepsOutOf_41 : decode cX0_stepsOutOf 41 = .ok (.bipush (-9), 2) := by decide +kernel
theorem dX0_stepsOutOf_43 : decode cX0_stepsOutOf 43 = .ok (.ireturn, 1) := by decide +kernel
theorem dX0_keep_0 : decode cX0_keep 0 = .ok (.iconst 0, 1) := by decide +kernel
theorem dX0_keep_1 : decode cX0_keep 1 = .ok (.istore_n 2, 1) := by decide +kernel
theorem dX0_keep_2 : decode cX0_keep 2 = .ok (.iconst 0, 1) := by decide +kernel
theorem dX0_keep_3 : decode cX0_keep 3 = .ok (.istore_n 3, 1) := by decide +kernel
theorem dX0_keep_4 : decode cX0_keep 4 = .ok (.iload_n 3, 1) := by decide +kernel
theorem dX0_keep_5 : decode cX0_keep 5 = .ok (.aload_n 0, 1) := by decide +kernel
theorem dX0_keep_6 : decode cX0_keep 6 = .ok (.getfield 18, 3) := by decide +kernel
theorem dX0_keep_9 : decode cX0_keep 9 = .ok (.if_icmp .ge 44, 3) := by decide +kernel
theorem dX0_keep_12 : decode cX0_keep 12 = .ok (.iload_n 1, 1) := by decide +kernel
theorem dX0_keep_13 : decode cX0_keep 13 = .ok (.iload_n 3, 1) := by decide +kernel
theorem dX0_keep_14 : decode cX0_keep 14 = .ok (.invokestatic 42, 3) := by decide +kernel
theorem dX0_keep_17 : decode cX0_keep 17 = .ok (.ifCond .ne 6, 3) := by decide +kernel
theorem dX0_keep_20 : decode cX0_keep 20 = .ok (.goto 27, 3) := by decide +kernel
theorem dX0_keep_23 : decode cX0_keep 23 = .ok (.aload_n 0, 1) := by decide +kernel
theorem dX0_keep_24 : decode cX0_keep 24 = .ok (.getfield 9, 3) := by decide +kernel
theorem dX0_keep_27 : decode cX0_keep 27 = .ok (.iload_n 2, 1) := by decide +kernel
theorem dX0_keep_28 : decode cX0_keep 28 = .ok (.aload_n 0, 1) := by decide +kernel
theorem dX0_keep_29 : decode cX0_keep 29 = .ok (.aload_n 0, 1) := by decide +kernel
theorem dX0_keep_30 : decode cX0_keep 30 = .ok (.getfield 9, 3) := by decide +kernel
theorem dX0_keep_33 : decode cX0_keep 33 = .ok (.iload_n 3, 1) := by decide +kernel
theorem dX0_keep_34 : decode cX0_keep 34 = .ok (.invokestatic 26, 3) := by decide +kernel
theorem dX0_keep_37 : decode cX0_keep 37 = .ok (.iload_n 1, 1) := by decide +kernel
theorem dX0_keep_38 : decode cX0_keep 38 = .ok (.invokevirtual 60, 3) := by decide +kernel
theorem dX0_keep_41 : decode cX0_keep 41 = .ok (.invokestatic 22, 3) := by decide +kernel
theorem dX0_keep_44 : decode cX0_keep 44 = .ok (.iinc 2 1, 3) := by decide +kernel
theorem dX0_keep_47 : decode cX0_keep 47 = .ok (.iinc 3 1, 3) := by decide +kernel
theorem dX0_keep_50 : decode cX0_keep 50 = .ok (.goto (-46), 3) := by decide +kernel
theorem dX0_keep_53 : decode cX0_keep 53 = .ok (.iload_n 2, 1) := by decide +kernel
theorem dX0_keep_54 : decode cX0_keep 54 = .ok (.istore_n 3, 1) := by decide +kernel
theorem dX0_keep_55 : decode cX0_keep 55 = .ok (.iload_n 3, 1) := by decide +kernel
theorem dX0_keep_56 : decode cX0_keep 56 = .ok (.aload_n 0, 1) := by decide +kernel
theorem dX0_keep_57 : decode cX0_keep 57 = .ok (.getfield 18, 3) := by decide +kernel
theorem dX0_keep_60 : decode cX0_keep 60 = .ok (.if_icmp .ge 18, 3) := by decide +kernel
theorem dX0_keep_63 : decode cX0_keep 63 = .ok (.aload_n 0, 1) := by decide +kernel
theorem dX0_keep_64 : decode cX0_keep 64 = .ok (.getfield 9, 3) := by decide +kernel
theorem dX0_keep_67 : decode cX0_keep 67 = .ok (.iload_n 3, 1) := by decide +kernel
theorem dX0_keep_68 : decode cX0_keep 68 = .ok (.iconst 0, 1) := by decide +kernel
theorem dX0_keep_69 : decode cX0_keep 69 = .ok (.invokestatic 22, 3) := by decide +kernel
theorem dX0_keep_72 : decode cX0_keep 72 = .ok (.iinc 3 1, 3) := by decide +kernel
theorem dX0_keep_75 : decode cX0_keep 75 = .ok (.goto (-20), 3) := by decide +kernel
theorem dX0_keep_78 : decode cX0_keep 78 = .ok (.iconst 0, 1) := by decide +kernel
theorem dX0_keep_79 : decode cX0_keep 79 = .ok (.istore_n 3, 1) := by decide +kernel
theorem dX0_keep_80 : decode cX0_keep 80 = .ok (.iload_n 3, 1) := by decide +kernel
theorem dX0_keep_81 : decode cX0_keep 81 = .ok (.iconst 4, 1) := by decide +kernel
theorem dX0_keep_82 : decode cX0_keep 82 = .ok (.if_icmp .ge 30, 3) := by decide +kernel
theorem dX0_keep_85 : decode cX0_keep 85 = .ok (.aload_n 0, 1) := by decide +kernel
theorem dX0_keep_86 : decode cX0_keep 86 = .ok (.getfield 15, 3) := by decide +kernel
theorem dX0_keep_89 : decode cX0_keep 89 = .ok (.iload_n 3, 1) := by decide +kernel
theorem dX0_keep_90 : decode cX0_keep 90 = .ok (.aload_n 0, 1) := by decide +kernel
theorem dX0_keep_91 : decode cX0_keep 91 = .ok (.aload_n 0, 1) := by decide +kernel
theorem dX0_keep_92 : decode cX0_keep 92 = .ok (.getfield 15, 3) := by decide +kernel
theorem dX0_keep_95 : decode cX0_keep 95 = .ok (.iload_n 3, 1) := by decide +kernel
theorem dX0_keep_96 : decode cX0_keep 96 = .ok (.invokestatic 26, 3) := by decide +kernel
theorem dX0_keep_99 : decode cX0_keep 99 = .ok (.iload_n 1, 1) := by decide +kernel
theorem dX0_keep_100 : decode cX0_keep 100 = .ok (.invokevirtual 60, 3) := by decide +kernel
theorem dX0_keep_103 : decode cX0_keep 103 = .ok (.invokestatic 22, 3) := by decide +kernel
theorem dX0_keep_106 : decode cX0_keep 106 = .ok (.iinc 3 1, 3) := by decide +kernel
theorem dX0_keep_109 : decode cX0_keep 109 = .ok (.goto (-29), 3) := by decide +kernel
theorem dX0_keep_112 : decode cX0_keep 112 = .ok (.aload_n 0, 1) := by decide +kernel
theorem dX0_keep_113 : decode cX0_keep 113 = .ok (.iload_n 2, 1) := by decide +kernel
theorem dX0_keep_114 : decode cX0_keep 114 = .ok (.putfield 18, 3) := by decide +kernel
theorem dX0_keep_117 : decode cX0_keep 117 = .ok (.return_, 1) := by decide +kernel
theorem dX0_closedUp_0 : decode cX0_closedUp 0 = .ok (.iconst 0, 1) := by decide +kernel
theorem dX0_closedUp_1 : decode cX0_closedUp 1 = .ok (.istore_n 3, 1) := by decide +kernel
theorem dX0_closedUp_2 : decode cX0_closedUp 2 = .ok (.iconst 0, 1) := by decide +kernel
theorem dX0_closedUp_3 : decode cX0_closedUp 3 = .ok (.istore 4, 2) := by decide +kernel
theorem dX0_closedUp_5 : decode cX0_closedUp 5 = .ok (.iconst 0, 1) := by decide +kernel
theorem dX0_closedUp_6 : decode cX0_closedUp 6 = .ok (.istore 5, 2) := by decide +kernel
theorem dX0_closedUp_8 : decode cX0_closedUp 8 = .ok (.iload 5, 2) := by decide +kernel
theorem dX0_closedUp_10 : decode cX0_closedUp 10 = .ok (.aload_n 0, 1) := by decide +kernel
theorem dX0_closedUp_11 : decode cX0_closedUp 11 = .ok (.getfield 18, 3) := by decide +kernel
theorem dX0_closedUp_14 : decode cX0_closedUp 14 = .ok (.if_icmp .ge 36, 3) := by decide +kernel
theorem dX0_closedUp_17 : decode cX0_closedUp 17 = .ok (.iload_n 2, 1) := by decide +kernel
theorem dX0_closedUp_18 : decode cX0_closedUp 18 = .ok (.iload 5, 2) := by decide +kernel
theorem dX0_closedUp_20 : decode cX0_closedUp 20 = .ok (.invokestatic 42, 3) := by decide +kernel
theorem dX0_closedUp_23 : decode cX0_closedUp 23 = .ok (.ifCond .ne 6, 3) := by decide +kernel
theorem dX0_closedUp_26 : decode cX0_closedUp 26 = .ok (.goto 18, 3) := by decide +kernel
theorem dX0_closedUp_29 : decode cX0_closedUp 29 = .ok (.iload_n 3, 1) := by decide +kernel
theorem dX0_closedUp_30 : decode cX0_closedUp 30 = .ok (.iload_n 1, 1) := by decide +kernel
theorem dX0_closedUp_31 : decode cX0_closedUp 31 = .ok (.iload 5, 2) := by decide +kernel
theorem dX0_closedUp_33 : decode cX0_closedUp 33 = .ok (.invokestatic 42, 3) := by decide +kernel
theorem dX0_closedUp_36 : decode cX0_closedUp 36 = .ok (.iload 4, 2) := by decide +kernel
theorem dX0_closedUp_38 : decode cX0_closedUp 38 = .ok (.ishl, 1) := by decide +kernel
theorem dX0_closedUp_39 : decode cX0_closedUp 39 = .ok (.ior, 1) := by decide +kernel
theorem dX0_closedUp_40 : decode cX0_closedUp 40 = .ok (.istore_n 3, 1) := by decide +kernel
theorem dX0_closedUp_41 : decode cX0_closedUp 41 = .ok (.iinc 4 1, 3) := by decide +kernel
theorem dX0_closedUp_44 : decode cX0_closedUp 44 = .ok (.iinc 5 1, 3) := by decide +kernel
theorem dX0_closedUp_47 : decode cX0_closedUp 47 = .ok (.goto (-39), 3) := by decide +kernel
theorem dX0_closedUp_50 : decode cX0_closedUp 50 = .ok (.iload_n 3, 1) := by decide +kernel
theorem dX0_closedUp_51 : decode cX0_closedUp 51 = .ok (.ireturn, 1) := by decide +kernel
theorem dX1_init_0 : decode cX1_init 0 = .ok (.aload_n 0, 1) := by decide +kernel
theorem dX1_init_1 : decode cX1_init 1 = .ok (.invokespecial 3, 3) := by decide +kernel
theorem dX1_init_4 : decode cX1_init 4 = .ok (.aload_n 0, 1) := by decide +kernel
theorem dX1_init_5 : decode cX1_init 5 = .ok (.bipush 20, 2) := by decide +kernel
theorem dX1_init_7 : decode cX1_init 7 = .ok (.newarray .int, 2) := by decide +kernel
theorem dX1_init_9 : decode cX1_init 9 = .ok (.putfield 9, 3) := by decide +kernel
theorem dX1_init_12 : decode cX1_init 12 = .ok (.aload_n 0, 1) := by decide +kernel
theorem dX1_init_13 : decode cX1_init 13 = .ok (.bipush 20, 2) := by decide +kernel
theorem dX1_init_15 : decode cX1_init 15 = .ok (.newarray .int, 2) := by decide +kernel
theorem dX1_init_17 : decode cX1_init 17 = .ok (.putfield 15, 3) := by decide +kernel
theorem dX1_init_20 : decode cX1_init 20 = .ok (.aload_n 0, 1) := by decide +kernel
theorem dX1_init_21 : decode cX1_init 21 = .ok (.bipush 20, 2) := by decide +kernel
theorem dX1_init_23 : decode cX1_init 23 = .ok (.newarray .int, 2) := by decide +kernel
theorem dX1_init_25 : decode cX1_init 25 = .ok (.putfield 18, 3) := by decide +kernel
theorem dX1_init_28 : decode cX1_init 28 = .ok (.aload_n 0, 1) := by decide +kernel
theorem dX1_init_29 : decode cX1_init 29 = .ok (.bipush 20, 2) := by decide +kernel
theorem dX1_init_31 : decode cX1_init 31 = .ok (.newarray .int, 2) := by decide +kernel
theorem dX1_init_33 : decode cX1_init 33 = .ok (.putfield 21, 3) := by decide +kernel
theorem dX1_init_36 : decode cX1_init 36 = .ok (.aload_n 0, 1) := by decide +kernel
theorem dX1_init_37 : decode cX1_init 37 = .ok (.iconst 0, 1) := by decide +kernel
theorem dX1_init_38 : decode cX1_init 38 = .ok (.putfield 24, 3) := by decide +kernel
theorem dX1_init_41 : decode cX1_init 41 = .ok (.aload_n 0, 1) := by decide +kernel
theorem dX1_init_42 : decode cX1_init 42 = .ok (.iconst 0, 1) := by decide +kernel
theorem dX1_init_43 : decode cX1_init 43 = .ok (.putfield 28, 3) := by decide +kernel
theorem dX1_init_46 : decode cX1_init 46 = .ok (.return_, 1) := by decide +kernel
theorem dX1_fault_0 : decode cX1_fault 0 = .ok (.aload_n 0, 1) := by decide +kernel
theorem dX1_fault_1 : decode cX1_fault 1 = .ok (.iconst 0, 1) := by decide +kernel
theorem dX1_fault_2 : decode cX1_fault 2 = .ok (.putfield 24, 3) := by decide +kernel
theorem dX1_fault_5 : decode cX1_fault 5 = .ok (.aload_n 0, 1) := by decide +kernel
theorem dX1_fault_6 : decode cX1_fault 6 = .ok (.iconst 0, 1) := by decide +kernel
theorem dX1_fault_7 : decode cX1_fault 7 = .ok (.putfield 28, 3) := by decide +kernel
theorem dX1_fault_10 : decode cX1_fault 10 = .ok (.aload_n 3, 1) := by decide +kernel
theorem dX1_fault_11 : decode cX1_fault 11 = .ok (.invokevirtual 31, 3) := by decide +kernel
theorem dX1_fault_14 : decode cX1_fault 14 = .ok (.iconst 0, 1) := by decide +kernel
theorem dX1_fault_15 : decode cX1_fault 15 = .ok (.istore 4, 2) := by decide +kernel
theorem dX1_fault_17 : decode cX1_fault 17 = .ok (.iload 4, 2) := by decide +kernel
theorem dX1_fault_19 : decode cX1_fault 19 = .ok (.iload_n 2, 1) := by decide +kernel
theorem dX1_fault_20 : decode cX1_fault 20 = .ok (.if_icmp .ge 28, 3) := by decide +kernel
theorem dX1_fault_23 : decode cX1_fault 23 = .ok (.aload_n 0, 1) := by decide +kernel
theorem dX1_fault_24 : decode cX1_fault 24 = .ok (.aload_n 1, 1) := by decide +kernel
theorem dX1_fault_25 : decode cX1_fault 25 = .ok (.iload 4, 2) := by decide +kernel
theorem dX1_fault_27 : decode cX1_fault 27 = .ok (.invokestatic 36, 3) := by decide +kernel
theorem dX1_fault_30 : decode cX1_fault 30 = .ok (.iload 4, 2) := by decide +kernel
theorem dX1_fault_32 : decode cX1_fault 32 = .ok (.aload_n 3, 1) := by decide +kernel
theorem dX1_fault_33 : decode cX1_fault 33 = .ok (.invokevirtual 40, 3) := by decide +kernel
theorem dX1_fault_36 : decode cX1_fault 36 = .ok (.ifCond .ne 6, 3) := by decide +kernel
theorem dX1_fault_39 : decode cX1_fault 39 = .ok (.iload 4, 2) := by decide +kernel
theorem dX1_fault_41 : decode cX1_fault 41 = .ok (.ireturn, 1) := by decide +kernel
theorem dX1_fault_42 : decode cX1_fault 42 = .ok (.iinc 4 1, 3) := by decide +kernel
theorem dX1_fault_45 : decode cX1_fault 45 = .ok (.goto (-28), 3) := by decide +kernel
theorem dX1_fault_48 : decode cX1_fault 48 = .ok (.aload_n 0, 1) := by decide +kernel
theorem dX1_fault_49 : decode cX1_fault 49 = .ok (.getfield 28, 3) := by decide +kernel
theorem dX1_fault_52 : decode cX1_fault 52 = .ok (.iconst 3, 1) := by decide +kernel
theorem dX1_fault_53 : decode cX1_fault 53 = .ok (.if_icmp .ne 7, 3) := by decide +kernel
theorem dX1_fault_56 : decode cX1_fault 56 = .ok (.iconst (-1), 1) := by decide +kernel
theorem dX1_fault_57 : decode cX1_fault 57 = .ok (.goto 4, 3) := by decide +kernel
theorem dX1_fault_60 : decode cX1_fault 60 = .ok (.iload_n 2, 1) := by decide +kernel
theorem dX1_fault_61 : decode cX1_fault 61 = .ok (.ireturn, 1) := by decide +kernel
theorem dX1_takes_0 : decode cX1_takes 0 = .ok (.iload_n 1, 1) := by decide +kernel
theorem dX1_takes_1 : decode cX1_takes 1 = .ok (.bipush 40, 2) := by decide +kernel
theorem dX1_takes_3 : decode cX1_takes 3 = .ok (.if_icmp .eq 24, 3) := by decide +kernel
theorem dX1_takes_6 : decode cX1_takes 6 = .ok (.iload_n 1, 1) := by decide +kernel
theorem dX1_takes_7 : decode cX1_takes 7 = .ok (.bipush 41, 2) := by decide +kernel
theorem dX1_takes_9 : decode cX1_takes 9 = .ok (.if_icmp .eq 18, 3) := by decide +kernel
theorem dX1_takes_12 : decode cX1_takes 12 = .ok (.aload_n 3, 1) := by decide +kernel
theorem dX1_takes_13 : decode cX1_takes 13 = .ok (.invokevirtual 44, 3) := by decide +kernel
theorem dX1_takes_16 : decode cX1_takes 16 = .ok (.bipush 40, 2) := by decide +kernel
theorem dX1_takes_18 : decode cX1_takes 18 = .ok (.if_icmp .lt 5, 3) := by decide +kernel
theorem dX1_takes_21 : decode cX1_takes 21 = .ok (.iconst 0, 1) := by decide +kernel
theorem dX1_takes_22 : decode cX1_takes 22 = .ok (.ireturn, 1) := by decide +kernel
theorem dX1_takes_23 : decode cX1_takes 23 = .ok (.aload_n 3, 1) := by decide +kernel
theorem dX1_takes_24 : decode cX1_takes 24 = .ok (.invokevirtual 48, 3) := by decide +kernel
theorem dX1_takes_27 : decode cX1_takes 27 = .ok (.aload_n 0, 1) := by decide +kernel
theorem dX1_takes_28 : decode cX1_takes 28 = .ok (.getfield 28, 3) := by decide +kernel
theorem dX1_takes_31 : decode cX1_takes 31 = .ok (.tableswitch 46 0 2 #[25, 33, 39], 25) := by decide +kernel
theorem dX1_takes_56 : decode cX1_takes 56 = .ok (.aload_n 0, 1) := by decide +kernel
theorem dX1_takes_57 : decode cX1_takes 57 = .ok (.iload_n 1, 1) := by decide +kernel
theorem dX1_takes_58 : decode cX1_takes 58 = .ok (.iload_n 2, 1) := by decide +kernel
theorem dX1_takes_59 : decode cX1_takes 59 = .ok (.aload_n 3, 1) := by decide +kernel
theorem dX1_takes_60 : decode cX1_takes 60 = .ok (.invokevirtual 51, 3) := by decide +kernel
theorem dX1_takes_63 : decode cX1_takes 63 = .ok (.ireturn, 1) := by decide +kernel
theorem dX1_takes_64 : decode cX1_takes 64 = .ok (.aload_n 0, 1) := by decide +kernel
theorem dX1_takes_65 : decode cX1_takes 65 = .ok (.iload_n 1, 1) := by decide +kernel
theorem dX1_takes_66 : decode cX1_takes 66 = .ok (.invokevirtual 54, 3) := by decide +kernel
theorem dX1_takes_69 : decode cX1_takes 69 = .ok (.ireturn, 1) := by decide +kernel
theorem dX1_takes_70 : decode cX1_takes 70 = .ok (.aload_n 0, 1) := by decide +kernel
theorem dX1_takes_71 : decode cX1_takes 71 = .ok (.iload_n 1, 1) := by decide +kernel
theorem dX1_takes_72 : decode cX1_takes 72 = .ok (.aload_n 3, 1) := by decide +kernel
theorem dX1_takes_73 : decode cX1_takes 73 = .ok (.invokevirtual 58, 3) := by decide +kernel
theorem dX1_takes_76 : decode cX1_takes 76 = .ok (.ireturn, 1) := by decide +kernel
theorem dX1_takes_77 : decode cX1_takes 77 = .ok (.iconst 0, 1) := by decide +kernel
theorem dX1_takes_78 : decode cX1_takes 78 = .ok (.ireturn, 1) := by decide +kernel
theorem dX1_takesOne_0 : decode cX1_takesOne 0 = .ok (.iload_n 1, 1) := by decide +kernel
theorem dX1_takesOne_1 : decode cX1_takesOne 1 = .ok (.invokestatic 62, 3) := by decide +kernel
theorem dX1_takesOne_4 : decode cX1_takesOne 4 = .ok (.ifCond .ne 15, 3) := by decide +kernel
theorem dX1_takesOne_7 : decode cX1_takesOne 7 = .ok (.iload_n 1, 1) := by decide +kernel
theorem dX1_takesOne_8 : decode cX1_takesOne 8 = .ok (.bipush 84, 2) := by decide +kernel
theorem dX1_takesOne_10 : decode cX1_takesOne 10 = .ok (.if_icmp .eq 9, 3) := by decide +kernel
theorem dX1_takesOne_13 : decode cX1_takesOne 13 = .ok (.iload_n 1, 1) := by decide +kernel
theorem dX1_takesOne_14 : decode cX1_takesOne 14 = .ok (.bipush 70, 2) := by decide +kernel
theorem dX1_takesOne_16 : decode cX1_takesOne 16 = .ok (.if_icmp .ne 18, 3) := by decide +kernel
theorem dX1_takesOne_19 : decode cX1_takesOne 19 = .ok (.aload_n 0, 1) := by decide +kernel
theorem dX1_takesOne_20 : decode cX1_takesOne 20 = .ok (.aload_n 3, 1) := by decide +kernel
theorem dX1_takesOne_21 : decode cX1_takesOne 21 = .ok (.iload_n 1, 1) := by decide +kernel
theorem dX1_takesOne_22 : decode cX1_takesOne 22 = .ok (.iconst (-1), 1) := by decide +kernel
theorem dX1_takesOne_23 : decode cX1_takesOne 23 = .ok (.iconst (-1), 1) := by decide +kernel
theorem dX1_takesOne_24 : decode cX1_takesOne 24 = .ok (.iload_n 2, 1) := by decide +kernel
theorem dX1_takesOne_25 : decode cX1_takesOne 25 = .ok (.invokevirtual 65, 3) := by decide +kernel
theorem dX1_takesOne_28 : decode cX1_takesOne 28 = .ok (.aload_n 3, 1) := by decide +kernel
theorem dX1_takesOne_29 : decode cX1_takesOne 29 = .ok (.invokevirtual 69, 3) := by decide +kernel
theorem dX1_takesOne_32 : decode cX1_takesOne 32 = .ok (.iconst 1, 1) := by decide +kernel
theorem dX1_takesOne_33 : decode cX1_takesOne 33 = .ok (.ireturn, 1) := by decide +kernel
theorem dX1_takesOne_34 : decode cX1_takesOne 34 = .ok (.iload_n 1, 1) := by decide +kernel
theorem dX1_takesOne_35 : decode cX1_takesOne 35 = .ok (.bipush 40, 2) := by decide +kernel
theorem dX1_takesOne_37 : decode cX1_takesOne 37 = .ok (.if_icmp .eq 10, 3) := by decide +kernel
theorem dX1_takesOne_40 : decode cX1_takesOne 40 = .ok (.iload_n 1, 1) := by decide +kernel
theorem dX1_takesOne_41 : decode cX1_takesOne 41 = .ok (.invokestatic 73, 3) := by decide +kernel
theorem dX1_takesOne_44 : decode cX1_takesOne 44 = .ok (.ifCond .eq 12, 3) := by decide +kernel
theorem dX1_takesOne_47 : decode cX1_takesOne 47 = .ok (.aload_n 0, 1) := by decide +kernel
theorem dX1_takesOne_48 : decode cX1_takesOne 48 = .ok (.getfield 24, 3) := by decide +kernel
theorem dX1_takesOne_51 : decode cX1_takesOne 51 = .ok (.bipush 20, 2) := by decide +kernel
theorem dX1_takesOne_53 : decode cX1_takesOne 53 = .ok (.if_icmp .lt 5, 3) := by decide +kernel
theorem dX1_takesOne_56 : decode cX1_takesOne 56 = .ok (.iconst 0, 1) := by decide +kernel
theorem dX1_takesOne_57 : decode cX1_takesOne 57 = .ok (.ireturn, 1) := by decide +kernel
theorem dX1_takesOne_58 : decode cX1_takesOne 58 = .ok (.aload_n 0, 1) := by decide +kernel
theorem dX1_takesOne_59 : decode cX1_takesOne 59 = .ok (.getfield 9, 3) := by decide +kernel
theorem dX1_takesOne_62 : decode cX1_takesOne 62 = .ok (.aload_n 0, 1) := by decide +kernel
theorem dX1_takesOne_63 : decode cX1_takesOne 63 = .ok (.getfield 24, 3) := by decide +kernel
theorem dX1_takesOne_66 : decode cX1_takesOne 66 = .ok (.iload_n 1, 1) := by decide +kernel
theorem dX1_takesOne_67 : decode cX1_takesOne 67 = .ok (.invokestatic 76, 3) := by decide +kernel
theorem dX1_takesOne_70 : decode cX1_takesOne 70 = .ok (.aload_n 0, 1) := by decide +kernel
theorem dX1_takesOne_71 : decode cX1_takesOne 71 = .ok (.getfield 15, 3) := by decide +kernel
theorem dX1_takesOne_74 : decode cX1_takesOne 74 = .ok (.aload_n 0, 1) := by decide +kernel
theorem dX1_takesOne_75 : decode cX1_takesOne 75 = .ok (.getfield 24, 3) := by decide +kernel
theorem dX1_takesOne_78 : decode cX1_takesOne 78 = .ok (.iload_n 2, 1) := by decide +kernel
theorem dX1_takesOne_79 : decode cX1_takesOne 79 = .ok (.invokestatic 76, 3) := by decide +kernel
theorem dX1_takesOne_82 : decode cX1_takesOne 82 = .ok (.aload_n 0, 1) := by decide +kernel
theorem dX1_takesOne_83 : decode cX1_takesOne 83 = .ok (.getfield 18, 3) := by decide +kernel
theorem dX1_takesOne_86 : decode cX1_takesOne 86 = .ok (.aload_n 0, 1) := by decide +kernel
theorem dX1_takesOne_87 : decode cX1_takesOne 87 = .ok (.getfield 24, 3) := by decide +kernel
theorem dX1_takesOne_90 : decode cX1_takesOne 90 = .ok (.iconst (-1), 1) := by decide +kernel
theorem dX1_takesOne_91 : decode cX1_takesOne 91 = .ok (.invokestatic 76, 3) := by decide +kernel
theorem dX1_takesOne_94 : decode cX1_takesOne 94 = .ok (.aload_n 0, 1) := by decide +kernel
theorem dX1_takesOne_95 : decode cX1_takesOne 95 = .ok (.dup, 1) := by decide +kernel
theorem dX1_takesOne_96 : decode cX1_takesOne 96 = .ok (.getfield 24, 3) := by decide +kernel
theorem dX1_takesOne_99 : decode cX1_takesOne 99 = .ok (.iconst 1, 1) := by decide +kernel
theorem dX1_takesOne_100 : decode cX1_takesOne 100 = .ok (.iadd, 1) := by decide +kernel
theorem dX1_takesOne_101 : decode cX1_takesOne 101 = .ok (.putfield 24, 3) := by decide +kernel
theorem dX1_takesOne_104 : decode cX1_takesOne 104 = .ok (.iconst 1, 1) := by decide +kernel
theorem dX1_takesOne_105 : decode cX1_takesOne 105 = .ok (.ireturn, 1) := by decide +kernel
theorem dX1_takesBetween_0 : decode cX1_takesBetween 0 = .ok (.iload_n 1, 1) := by decide +kernel
theorem dX1_takesBetween_1 : decode cX1_takesBetween 1 = .ok (.invokestatic 80, 3) := by decide +kernel
theorem dX1_takesBetween_4 : decode cX1_takesBetween 4 = .ok (.ifCond .ne 5, 3) := by decide +kernel
theorem dX1_takesBetween_7 : decode cX1_takesBetween 7 = .ok (.iconst 0, 1) := by decide +kernel
theorem dX1_takesBetween_8 : decode cX1_takesBetween 8 = .ok (.ireturn, 1) := by decide +kernel
theorem dX1_takesBetween_9 : decode cX1_takesBetween 9 = .ok (.aload_n 0, 1) := by decide +kernel
theorem dX1_takesBetween_10 : decode cX1_takesBetween 10 = .ok (.getfield 9, 3) := by decide +kernel
theorem dX1_takesBetween_13 : decode cX1_takesBetween 13 = .ok (.aload_n 0, 1) := by decide +kernel
theorem dX1_takesBetween_14 : decode cX1_takesBetween 14 = .ok (.getfield 24, 3) := by decide +kernel
theorem dX1_takesBetween_17 : decode cX1_takesBetween 17 = .ok (.iconst 1, 1) := by decide +kernel
theorem dX1_takesBetween_18 : decode cX1_takesBetween 18 = .ok (.isub, 1) := by decide +kernel
theorem dX1_takesBetween_19 : decode cX1_takesBetween 19 = .ok (.iload_n 1, 1) := by decide +kernel
theorem dX1_takesBetween_20 : decode cX1_takesBetween 20 = .ok (.invokestatic 76, 3) := by decide +kernel
theorem dX1_takesBetween_23 : decode cX1_takesBetween 23 = .ok (.aload_n 0, 1) := by decide +kernel
theorem dX1_takesBetween_24 : decode cX1_takesBetween 24 = .ok (.iconst 0, 1) := by decide +kernel
theorem dX1_takesBetween_25 : decode cX1_takesBetween 25 = .ok (.putfield 28, 3) := by decide +kernel
theorem dX1_takesBetween_28 : decode cX1_takesBetween 28 = .ok (.iconst 1, 1) := by decide +kernel
theorem dX1_takesBetween_29 : decode cX1_takesBetween 29 = .ok (.ireturn, 1) := by decide +kernel
theorem dX1_takesClosing_0 : decode cX1_takesClosing 0 = .ok (.iload_n 1, 1) := by decide +kernel
theorem dX1_takesClosing_1 : decode cX1_takesClosing 1 = .ok (.bipush 41, 2) := by decide +kernel
theorem dX1_takesClosing_3 : decode cX1_takesClosing 3 = .ok (.if_icmp .eq 5, 3) := by decide +kernel
theorem dX1_takesClosing_6 : decode cX1_takesClosing 6 = .ok (.iconst 0, 1) := by decide +kernel
theorem dX1_takesClosing_7 : decode cX1_takesClosing 7 = .ok (.ireturn, 1) := by decide +kernel
theorem dX1_takesClosing_8 : decode cX1_takesClosing 8 = .ok (.aload_n 0, 1) := by decide +kernel
theorem dX1_takesClosing_9 : decode cX1_takesClosing 9 = .ok (.dup, 1) := by decide +kernel
theorem dX1_takesClosing_10 : decode cX1_takesClosing 10 = .ok (.getfield 24, 3) := by decide +kernel
theorem dX1_takesClosing_13 : decode cX1_takesClosing 13 = .ok (.iconst 1, 1) := by decide +kernel
theorem dX1_takesClosing_14 : decode cX1_takesClosing 14 = .ok (.isub, 1) := by decide +kernel
theorem dX1_takesClosing_15 : decode cX1_takesClosing 15 = .ok (.putfield 24, 3) := by decide +kernel
theorem dX1_takesClosing_18 : decode cX1_takesClosing 18 = .ok (.aload_n 0, 1) := by decide +kernel
theorem dX1_takesClosing_19 : decode cX1_takesClosing 19 = .ok (.aload_n 2, 1) := by decide +kernel
theorem dX1_takesClosing_20 : decode cX1_takesClosing 20 = .ok (.aload_n 0, 1) := by decide +kernel
theorem dX1_takesClosing_21 : decode cX1_takesClosing 21 = .ok (.getfield 9, 3) := by decide +kernel
theorem dX1_takesClosing_24 : decode cX1_takesClosing 24 = .ok (.aload_n 0, 1) := by decide +kernel
theorem dX1_takesClosing_25 : decode cX1_takesClosing 25 = .ok (.getfield 24, 3) := by decide +kernel
theorem dX1_takesClosing_28 : decode cX1_takesClosing 28 = .ok (.invokestatic 36, 3) := by decide +kernel
theorem dX1_takesClosing_31 : decode cX1_takesClosing 31 = .ok (.aload_n 0, 1) := by decide +kernel
theorem dX1_takesClosing_32 : decode cX1_takesClosing 32 = .ok (.getfield 18, 3) := by decide +kernel
theorem dX1_takesClosing_35 : decode cX1_takesClosing 35 = .ok (.aload_n 0, 1) := by decide +kernel
theorem dX1_takesClosing_36 : decode cX1_takesClosing 36 = .ok (.getfield 24, 3) := by decide +kernel
theorem dX1_takesClosing_39 : decode cX1_takesClosing 39 = .ok (.invokestatic 36, 3) := by decide +kernel
theorem dX1_takesClosing_42 : decode cX1_takesClosing 42 = .ok (.aload_n 0, 1) := by decide +kernel
theorem dX1_takesClosing_43 : decode cX1_takesClosing 43 = .ok (.getfield 21, 3) := by decide +kernel
theorem dX1_takesClosing_46 : decode cX1_takesClosing 46 = .ok (.aload_n 0, 1) := by decide +kernel
theorem dX1_takesClosing_47 : decode cX1_takesClosing 47 = .ok (.getfield 24, 3) := by decide +kernel
theorem dX1_takesClosing_50 : decode cX1_takesClosing 50 = .ok (.invokestatic 36, 3) := by decide +kernel
theorem dX1_takesClosing_53 : decode cX1_takesClosing 53 = .ok (.aload_n 0, 1) := by decide +kernel
theorem dX1_takesClosing_54 : decode cX1_takesClosing 54 = .ok (.getfield 15, 3) := by decide +kernel
theorem dX1_takesClosing_57 : decode cX1_takesClosing 57 = .ok (.aload_n 0, 1) := by decide +kernel
theorem dX1_takesClosing_58 : decode cX1_takesClosing 58 = .ok (.getfield 24, 3) := by decide +kernel
theorem dX1_takesClosing_61 : decode cX1_takesClosing 61 = .ok (.invokestatic 36, 3) := by decide +kernel
theorem dX1_takesClosing_64 : decode cX1_takesClosing 64 = .ok (.invokevirtual 65, 3) := by decide +kernel
theorem dX1_takesClosing_67 : decode cX1_takesClosing 67 = .ok (.aload_n 2, 1) := by decide +kernel
theorem dX1_takesClosing_68 : decode cX1_takesClosing 68 = .ok (.invokevirtual 69, 3) := by decide +kernel
theorem dX1_takesClosing_71 : decode cX1_takesClosing 71 = .ok (.iconst 1, 1) := by decide +kernel
theorem dX1_takesClosing_72 : decode cX1_takesClosing 72 = .ok (.ireturn, 1) := by decide +kernel
theorem dX1_end_0 : decode cX1_end 0 = .ok (.iload_n 1, 1) := by decide +kernel
theorem dX1_end_1 : decode cX1_end 1 = .ok (.istore_n 3, 1) := by decide +kernel
theorem dX1_end_2 : decode cX1_end 2 = .ok (.aload_n 0, 1) := by decide +kernel
theorem dX1_end_3 : decode cX1_end 3 = .ok (.getfield 24, 3) := by decide +kernel
theorem dX1_end_6 : decode cX1_end 6 = .ok (.ifCond .le 64, 3) := by decide +kernel
theorem dX1_end_9 : decode cX1_end 9 = .ok (.aload_n 0, 1) := by decide +kernel
theorem dX1_end_10 : decode cX1_end 10 = .ok (.getfield 9, 3) := by decide +kernel
theorem dX1_end_13 : decode cX1_end 13 = .ok (.aload_n 0, 1) := by decide +kernel
theorem dX1_end_14 : decode cX1_end 14 = .ok (.getfield 24, 3) := by decide +kernel
theorem dX1_end_17 : decode cX1_end 17 = .ok (.iconst 1, 1) := by decide +kernel
theorem dX1_end_18 : decode cX1_end 18 = .ok (.isub, 1) := by decide +kernel
theorem dX1_end_19 : decode cX1_end 19 = .ok (.invokestatic 36, 3) := by decide +kernel
theorem dX1_end_22 : decode cX1_end 22 = .ok (.invokestatic 73, 3) := by decide +kernel
theorem dX1_end_25 : decode cX1_end 25 = .ok (.ifCond .eq 45, 3) := by decide +kernel
theorem dX1_end_28 : decode cX1_end 28 = .ok (.aload_n 0, 1) := by decide +kernel
theorem dX1_end_29 : decode cX1_end 29 = .ok (.dup, 1) := by decide +kernel
theorem dX1_end_30 : decode cX1_end 30 = .ok (.getfield 24, 3) := by decide +kernel
theorem dX1_end_33 : decode cX1_end 33 = .ok (.iconst 1, 1) := by decide +kernel
theorem dX1_end_34 : decode cX1_end 34 = .ok (.isub, 1) := by decide +kernel
theorem dX1_end_35 : decode cX1_end 35 = .ok (.putfield 24, 3) := by decide +kernel
theorem dX1_end_38 : decode cX1_end 38 = .ok (.aload_n 2, 1) := by decide +kernel
theorem dX1_end_39 : decode cX1_end 39 = .ok (.aload_n 0, 1) := by decide +kernel
theorem dX1_end_40 : decode cX1_end 40 = .ok (.getfield 9, 3) := by decide +kernel
theorem dX1_end_43 : decode cX1_end 43 = .ok (.aload_n 0, 1) := by decide +kernel
theorem dX1_end_44 : decode cX1_end 44 = .ok (.getfield 24, 3) := by decide +kernel
theorem dX1_end_47 : decode cX1_end 47 = .ok (.invokestatic 36, 3) := by decide +kernel
theorem dX1_end_50 : decode cX1_end 50 = .ok (.iload_n 3, 1) := by decide +kernel
theorem dX1_end_51 : decode cX1_end 51 = .ok (.iconst (-1), 1) := by decide +kernel
theorem dX1_end_52 : decode cX1_end 52 = .ok (.aload_n 0, 1) := by decide +kernel
theorem dX1_end_53 : decode cX1_end 53 = .ok (.getfield 15, 3) := by decide +kernel
theorem dX1_end_56 : decode cX1_end 56 = .ok (.aload_n 0, 1) := by decide +kernel
theorem dX1_end_57 : decode cX1_end 57 = .ok (.getfield 24, 3) := by decide +kernel
theorem dX1_end_60 : decode cX1_end 60 = .ok (.invokestatic 36, 3) := by decide +kernel
theorem dX1_end_63 : decode cX1_end 63 = .ok (.invokevirtual 65, 3) := by decide +kernel
theorem dX1_end_66 : decode cX1_end 66 = .ok (.istore_n 3, 1) := by decide +kernel
theorem dX1_end_67 : decode cX1_end 67 = .ok (.goto (-65), 3) := by decide +kernel
theorem dX1_end_70 : decode cX1_end 70 = .ok (.aload_n 0, 1) := by decide +kernel
theorem dX1_end_71 : decode cX1_end 71 = .ok (.getfield 24, 3) := by decide +kernel
theorem dX1_end_74 : decode cX1_end 74 = .ok (.ifCond .ne 11, 3) := by decide +kernel
theorem dX1_end_77 : decode cX1_end 77 = .ok (.aload_n 0, 1) := by decide +kernel
theorem dX1_end_78 : decode cX1_end 78 = .ok (.iconst 3, 1) := by decide +kernel
theorem dX1_end_79 : decode cX1_end 79 = .ok (.putfield 28, 3) := by decide +kernel
theorem dX1_end_82 : decode cX1_end 82 = .ok (.goto 61, 3) := by decide +kernel
theorem dX1_end_85 : decode cX1_end 85 = .ok (.aload_n 0, 1) := by decide +kernel
theorem dX1_end_86 : decode cX1_end 86 = .ok (.getfield 18, 3) := by decide +kernel
theorem dX1_end_89 : decode cX1_end 89 = .ok (.aload_n 0, 1) := by decide +kernel
theorem dX1_end_90 : decode cX1_end 90 = .ok (.getfield 24, 3) := by decide +kernel
theorem dX1_end_93 : decode cX1_end 93 = .ok (.iconst 1, 1) := by decide +kernel
theorem dX1_end_94 : decode cX1_end 94 = .ok (.isub, 1) := by decide +kernel
theorem dX1_end_95 : decode cX1_end 95 = .ok (.invokestatic 36, 3) := by decide +kernel
theorem dX1_end_98 : decode cX1_end 98 = .ok (.iconst (-1), 1) := by decide +kernel
theorem dX1_end_99 : decode cX1_end 99 = .ok (.if_icmp .ne 25, 3) := by decide +kernel
theorem dX1_end_102 : decode cX1_end 102 = .ok (.aload_n 0, 1) := by decide +kernel
theorem dX1_end_103 : decode cX1_end 103 = .ok (.getfield 18, 3) := by decide +kernel
theorem dX1_end_106 : decode cX1_end 106 = .ok (.aload_n 0, 1) := by decide +kernel
theorem dX1_end_107 : decode cX1_end 107 = .ok (.getfield 24, 3) := by decide +kernel
theorem dX1_end_110 : decode cX1_end 110 = .ok (.iconst 1, 1) := by decide +kernel
theorem dX1_end_111 : decode cX1_end 111 = .ok (.isub, 1) := by decide +kernel
theorem dX1_end_112 : decode cX1_end 112 = .ok (.iload_n 3, 1) := by decide +kernel
theorem dX1_end_113 : decode cX1_end 113 = .ok (.invokestatic 76, 3) := by decide +kernel
theorem dX1_end_116 : decode cX1_end 116 = .ok (.aload_n 0, 1) := by decide +kernel
theorem dX1_end_117 : decode cX1_end 117 = .ok (.iconst 1, 1) := by decide +kernel
theorem dX1_end_118 : decode cX1_end 118 = .ok (.putfield 28, 3) := by decide +kernel
theorem dX1_end_121 : decode cX1_end 121 = .ok (.goto 22, 3) := by decide +kernel
theorem dX1_end_124 : decode cX1_end 124 = .ok (.aload_n 0, 1) := by decide +kernel
theorem dX1_end_125 : decode cX1_end 125 = .ok (.getfield 21, 3) := by decide +kernel
theorem dX1_end_128 : decode cX1_end 128 = .ok (.aload_n 0, 1) := by decide +kernel
theorem dX1_end_129 : decode cX1_end 129 = .ok (.getfield 24, 3) := by decide +kernel
theorem dX1_end_132 : decode cX1_end 132 = .ok (.iconst 1, 1) := by decide +kernel
theorem dX1_end_133 : decode cX1_end 133 = .ok (.isub, 1) := by decide +kernel
theorem dX1_end_134 : decode cX1_end 134 = .ok (.iload_n 3, 1) := by decide +kernel
theorem dX1_end_135 : decode cX1_end 135 = .ok (.invokestatic 76, 3) := by decide +kernel
theorem dX1_end_138 : decode cX1_end 138 = .ok (.aload_n 0, 1) := by decide +kernel
theorem dX1_end_139 : decode cX1_end 139 = .ok (.iconst 2, 1) := by decide +kernel
theorem dX1_end_140 : decode cX1_end 140 = .ok (.putfield 28, 3) := by decide +kernel
theorem dX1_end_143 : decode cX1_end 143 = .ok (.return_, 1) := by decide +kernel
theorem dX2_init_0 : decode cX2_init 0 = .ok (.aload_n 0, 1) := by decide +kernel
theorem dX2_init_1 : decode cX2_init 1 = .ok (.invokespecial 3, 3) := by decide +kernel
theorem dX2_init_4 : decode cX2_init 4 = .ok (.aload_n 0, 1) := by decide +kernel
theorem dX2_init_5 : decode cX2_init 5 = .ok (.iconst 0, 1) := by decide +kernel
theorem dX2_init_6 : decode cX2_init 6 = .ok (.putfield 9, 3) := by decide +kernel
theorem dX2_init_9 : decode cX2_init 9 = .ok (.aload_n 0, 1) := by decide +kernel
theorem dX2_init_10 : decode cX2_init 10 = .ok (.iconst 0, 1) := by decide +kernel
theorem dX2_init_11 : decode cX2_init 11 = .ok (.putfield 15, 3) := by decide +kernel
theorem dX2_init_14 : decode cX2_init 14 = .ok (.iconst 1, 1) := by decide +kernel
theorem dX2_init_15 : decode cX2_init 15 = .ok (.iload_n 1, 1) := by decide +kernel
theorem dX2_init_16 : decode cX2_init 16 = .ok (.invokestatic 18, 3) := by decide +kernel
theorem dX2_init_19 : decode cX2_init 19 = .ok (.istore_n 2, 1) := by decide +kernel
theorem dX2_init_20 : decode cX2_init 20 = .ok (.aload_n 0, 1) := by decide +kernel
theorem dX2_init_21 : decode cX2_init 21 = .ok (.iload_n 2, 1) := by decide +kernel
theorem dX2_init_22 : decode cX2_init 22 = .ok (.newarray .int, 2) := by decide +kernel
theorem dX2_init_24 : decode cX2_init 24 = .ok (.putfield 24, 3) := by decide +kernel
theorem dX2_init_27 : decode cX2_init 27 = .ok (.aload_n 0, 1) := by decide +kernel
theorem dX2_init_28 : decode cX2_init 28 = .ok (.iload_n 2, 1) := by decide +kernel
theorem dX2_init_29 : decode cX2_init 29 = .ok (.newarray .int, 2) := by decide +kernel
theorem dX2_init_31 : decode cX2_init 31 = .ok (.putfield 28, 3) := by decide +kernel
theorem dX2_init_34 : decode cX2_init 34 = .ok (.aload_n 0, 1) := by decide +kernel
theorem dX2_init_35 : decode cX2_init 35 = .ok (.iload_n 2, 1) := by decide +kernel
theorem dX2_init_36 : decode cX2_init 36 = .ok (.newarray .int, 2) := by decide +kernel
theorem dX2_init_38 : decode cX2_init 38 = .ok (.putfield 31, 3) := by decide +kernel
theorem dX2_init_41 : decode cX2_init 41 = .ok (.aload_n 0, 1) := by decide +kernel
theorem dX2_init_42 : decode cX2_init 42 = .ok (.iload_n 2, 1) := by decide +kernel
theorem dX2_init_43 : decode cX2_init 43 = .ok (.newarray .int, 2) := by decide +kernel
theorem dX2_init_45 : decode cX2_init 45 = .ok (.putfield 34, 3) := by decide +kernel
theorem dX2_init_48 : decode cX2_init 48 = .ok (.aload_n 0, 1) := by decide +kernel
theorem dX2_init_49 : decode cX2_init 49 = .ok (.iload_n 2, 1) := by decide +kernel
theorem dX2_init_50 : decode cX2_init 50 = .ok (.newarray .int, 2) := by decide +kernel
theorem dX2_init_52 : decode cX2_init 52 = .ok (.putfield 37, 3) := by decide +kernel
theorem dX2_init_55 : decode cX2_init 55 = .ok (.aload_n 0, 1) := by decide +kernel
theorem dX2_init_56 : decode cX2_init 56 = .ok (.getfield 24, 3) := by decide +kernel
theorem dX2_init_59 : decode cX2_init 59 = .ok (.iconst 0, 1) := by decide +kernel
theorem dX2_init_60 : decode cX2_init 60 = .ok (.bipush 84, 2) := by decide +kernel
theorem dX2_init_62 : decode cX2_init 62 = .ok (.iastore, 1) := by decide +kernel
theorem dX2_init_63 : decode cX2_init 63 = .ok (.aload_n 0, 1) := by decide +kernel
theorem dX2_init_64 : decode cX2_init 64 = .ok (.getfield 28, 3) := by decide +kernel
theorem dX2_init_67 : decode cX2_init 67 = .ok (.iconst 0, 1) := by decide +kernel
theorem dX2_init_68 : decode cX2_init 68 = .ok (.iconst (-1), 1) := by decide +kernel
theorem dX2_init_69 : decode cX2_init 69 = .ok (.iastore, 1) := by decide +kernel
theorem dX2_init_70 : decode cX2_init 70 = .ok (.aload_n 0, 1) := by decide +kernel
theorem dX2_init_71 : decode cX2_init 71 = .ok (.getfield 31, 3) := by decide +kernel
theorem dX2_init_74 : decode cX2_init 74 = .ok (.iconst 0, 1) := by decide +kernel
theorem dX2_init_75 : decode cX2_init 75 = .ok (.iconst (-1), 1) := by decide +kernel
theorem dX2_init_76 : decode cX2_init 76 = .ok (.iastore, 1) := by decide +kernel
theorem dX2_init_77 : decode cX2_init 77 = .ok (.aload_n 0, 1) := by decide +kernel
theorem dX2_init_78 : decode cX2_init 78 = .ok (.iconst 1, 1) := by decide +kernel
theorem dX2_init_79 : decode cX2_init 79 = .ok (.putfield 9, 3) := by decide +kernel
theorem dX2_init_82 : decode cX2_init 82 = .ok (.aload_n 0, 1) := by decide +kernel
theorem dX2_init_83 : decode cX2_init 83 = .ok (.iconst 1, 1) := by decide +kernel
theorem dX2_init_84 : decode cX2_init 84 = .ok (.putfield 15, 3) := by decide +kernel
theorem dX2_init_87 : decode cX2_init 87 = .ok (.return_, 1) := by decide +kernel
theorem dX2_parts_0 : decode cX2_parts 0 = .ok (.aload_n 0, 1) := by decide +kernel
theorem dX2_parts_1 : decode cX2_parts 1 = .ok (.getfield 9, 3) := by decide +kernel
theorem dX2_parts_4 : decode cX2_parts 4 = .ok (.ireturn, 1) := by decide +kernel
theorem dX2_signs_0 : decode cX2_signs 0 = .ok (.aload_n 0, 1) := by decide +kernel
theorem dX2_signs_1 : decode cX2_signs 1 = .ok (.getfield 15, 3) := by decide +kernel
theorem dX2_signs_4 : decode cX2_signs 4 = .ok (.ireturn, 1) := by decide +kernel
theorem dX2_sign_0 : decode cX2_sign 0 = .ok (.aload_n 0, 1) := by decide +kernel
theorem dX2_sign_1 : decode cX2_sign 1 = .ok (.getfield 24, 3) := by decide +kernel
theorem dX2_sign_4 : decode cX2_sign 4 = .ok (.iload_n 1, 1) := by decide +kernel
theorem dX2_sign_5 : decode cX2_sign 5 = .ok (.invokestatic 40, 3) := by decide +kernel
theorem dX2_sign_8 : decode cX2_sign 8 = .ok (.ireturn, 1) := by decide +kernel
theorem dX2_first_0 : decode cX2_first 0 = .ok (.aload_n 0, 1) := by decide +kernel
theorem dX2_first_1 : decode cX2_first 1 = .ok (.getfield 28, 3) := by decide +kernel
theorem dX2_first_4 : decode cX2_first 4 = .ok (.iload_n 1, 1) := by decide +kernel
theorem dX2_first_5 : decode cX2_first 5 = .ok (.invokestatic 40, 3) := by decide +kernel
theorem dX2_first_8 : decode cX2_first 8 = .ok (.ireturn, 1) := by decide +kernel
theorem dX2_second_0 : decode cX2_second 0 = .ok (.aload_n 0, 1) := by decide +kernel
theorem dX2_second_1 : decode cX2_second 1 = .ok (.getfield 31, 3) := by decide +kernel
theorem dX2_second_4 : decode cX2_second 4 = .ok (.iload_n 1, 1) := by decide +kernel
theorem dX2_second_5 : decode cX2_second 5 = .ok (.invokestatic 40, 3) := by decide +kernel
theorem dX2_second_8 : decode cX2_second 8 = .ok (.ireturn, 1) := by decide +kernel
theorem dX2_place_0 : decode cX2_place 0 = .ok (.aload_n 0, 1) := by decide +kernel
theorem dX2_place_1 : decode cX2_place 1 = .ok (.getfield 34, 3) := by decide +kernel
theorem dX2_place_4 : decode cX2_place 4 = .ok (.iload_n 1, 1) := by decide +kernel
theorem dX2_place_5 : decode cX2_place 5 = .ok (.invokestatic 40, 3) := by decide +kernel
theorem dX2_place_8 : decode cX2_place 8 = .ok (.ireturn, 1) := by decide +kernel
theorem dX2_depth_0 : decode cX2_depth 0 = .ok (.aload_n 0, 1) := by decide +kernel
theorem dX2_depth_1 : decode cX2_depth 1 = .ok (.getfield 37, 3) := by decide +kernel
theorem dX2_depth_4 : decode cX2_depth 4 = .ok (.aload_n 0, 1) := by decide +kernel
theorem dX2_depth_5 : decode cX2_depth 5 = .ok (.getfield 9, 3) := by decide +kernel
theorem dX2_depth_8 : decode cX2_depth 8 = .ok (.iconst 1, 1) := by decide +kernel
theorem dX2_depth_9 : decode cX2_depth 9 = .ok (.isub, 1) := by decide +kernel
theorem dX2_depth_10 : decode cX2_depth 10 = .ok (.invokestatic 40, 3) := by decide +kernel
theorem dX2_depth_13 : decode cX2_depth 13 = .ok (.ireturn, 1) := by decide +kernel
theorem dX2_isPlain_0 : decode cX2_isPlain 0 = .ok (.aload_n 0, 1) := by decide +kernel
theorem dX2_isPlain_1 : decode cX2_isPlain 1 = .ok (.invokevirtual 44, 3) := by decide +kernel
theorem dX2_isPlain_4 : decode cX2_isPlain 4 = .ok (.ifCond .ne 7, 3) := by decide +kernel
theorem dX2_isPlain_7 : decode cX2_isPlain 7 = .ok (.iconst 1, 1) := by decide +kernel
theorem dX2_isPlain_8 : decode cX2_isPlain 8 = .ok (.goto 4, 3) := by decide +kernel
theorem dX2_isPlain_11 : decode cX2_isPlain 11 = .ok (.iconst 0, 1) := by decide +kernel
theorem dX2_isPlain_12 : decode cX2_isPlain 12 = .ok (.ireturn, 1) := by decide +kernel
theorem dX2_atoms_0 : decode cX2_atoms 0 = .ok (.iconst 0, 1) := by decide +kernel
theorem dX2_atoms_1 : decode cX2_atoms 1 = .ok (.istore_n 1, 1) := by decide +kernel
theorem dX2_atoms_2 : decode cX2_atoms 2 = .ok (.iconst 0, 1) := by decide +kernel
theorem dX2_atoms_3 : decode cX2_atoms 3 = .ok (.istore_n 2, 1) := by decide +kernel
theorem dX2_atoms_4 : decode cX2_atoms 4 = .ok (.iload_n 2, 1) := by decide +kernel
theorem dX2_atoms_5 : decode cX2_atoms 5 = .ok (.aload_n 0, 1) := by decide +kernel
theorem dX2_atoms_6 : decode cX2_atoms 6 = .ok (.getfield 9, 3) := by decide +kernel
theorem dX2_atoms_9 : decode cX2_atoms 9 = .ok (.if_icmp .ge 39, 3) := by decide +kernel
theorem dX2_atoms_12 : decode cX2_atoms 12 = .ok (.aload_n 0, 1) := by decide +kernel
theorem dX2_atoms_13 : decode cX2_atoms 13 = .ok (.getfield 24, 3) := by decide +kernel
theorem dX2_atoms_16 : decode cX2_atoms 16 = .ok (.iload_n 2, 1) := by decide +kernel
theorem dX2_atoms_17 : decode cX2_atoms 17 = .ok (.invokestatic 40, 3) := by decide +kernel
theorem dX2_atoms_20 : decode cX2_atoms 20 = .ok (.invokestatic 48, 3) := by decide +kernel
theorem dX2_atoms_23 : decode cX2_atoms 23 = .ok (.ifCond .eq 19, 3) := by decide +kernel
theorem dX2_atoms_26 : decode cX2_atoms 26 = .ok (.iload_n 1, 1) := by decide +kernel
theorem dX2_atoms_27 : decode cX2_atoms 27 = .ok (.iconst 1, 1) := by decide +kernel
theorem dX2_atoms_28 : decode cX2_atoms 28 = .ok (.aload_n 0, 1) := by decide +kernel
theorem dX2_atoms_29 : decode cX2_atoms 29 = .ok (.getfield 24, 3) := by decide +kernel
theorem dX2_atoms_32 : decode cX2_atoms 32 = .ok (.iload_n 2, 1) := by decide +kernel
theorem dX2_atoms_33 : decode cX2_atoms 33 = .ok (.invokestatic 40, 3) := by decide +kernel
theorem dX2_atoms_36 : decode cX2_atoms 36 = .ok (.bipush 112, 2) := by decide +kernel
theorem dX2_atoms_38 : decode cX2_atoms 38 = .ok (.isub, 1) := by decide +kernel
theorem dX2_atoms_39 : decode cX2_atoms 39 = .ok (.ishl, 1) := by decide +kernel
theorem dX2_atoms_40 : decode cX2_atoms 40 = .ok (.ior, 1) := by decide +kernel
theorem dX2_atoms_41 : decode cX2_atoms 41 = .ok (.istore_n 1, 1) := by decide +kernel
theorem dX2_atoms_42 : decode cX2_atoms 42 = .ok (.iinc 2 1, 3) := by decide +kernel
theorem dX2_atoms_45 : decode cX2_atoms 45 = .ok (.goto (-41), 3) := by decide +kernel
theorem dX2_atoms_48 : decode cX2_atoms 48 = .ok (.iload_n 1, 1) := by decide +kernel
theorem dX2_atoms_49 : decode cX2_atoms 49 = .ok (.ireturn, 1) := by decide +kernel
theorem dX2_begin_0 : decode cX2_begin 0 = .ok (.aload_n 0, 1) := by decide +kernel
theorem dX2_begin_1 : decode cX2_begin 1 = .ok (.iconst 0, 1) := by decide +kernel
theorem dX2_begin_2 : decode cX2_begin 2 = .ok (.putfield 9, 3) := by decide +kernel
theorem dX2_begin_5 : decode cX2_begin 5 = .ok (.aload_n 0, 1) := by decide +kernel
theorem dX2_begin_6 : decode cX2_begin 6 = .ok (.iconst 0, 1) := by decide +kernel
theorem dX2_begin_7 : decode cX2_begin 7 = .ok (.putfield 15, 3) := by decide +kernel
theorem dX2_begin_10 : decode cX2_begin 10 = .ok (.return_, 1) := by decide +kernel
theorem dX2_countSign_0 : decode cX2_countSign 0 = .ok (.aload_n 0, 1) := by decide +kernel
theorem dX2_countSign_1 : decode cX2_countSign 1 = .ok (.dup, 1) := by decide +kernel
theorem dX2_countSign_2 : decode cX2_countSign 2 = .ok (.getfield 15, 3) := by decide +kernel
theorem dX2_countSign_5 : decode cX2_countSign 5 = .ok (.iconst 1, 1) := by decide +kernel
theorem dX2_countSign_6 : decode cX2_countSign 6 = .ok (.iadd, 1) := by decide +kernel
theorem dX2_countSign_7 : decode cX2_countSign 7 = .ok (.putfield 15, 3) := by decide +kernel
theorem dX2_countSign_10 : decode cX2_countSign 10 = .ok (.return_, 1) := by decide +kernel
theorem dX2_part_0 : decode cX2_part 0 = .ok (.iconst 0, 1) := by decide +kernel
theorem dX2_part_1 : decode cX2_part 1 = .ok (.istore 5, 2) := by decide +kernel
theorem dX2_part_3 : decode cX2_part 3 = .ok (.iload 5, 2) := by decide +kernel
theorem dX2_part_5 : decode cX2_part 5 = .ok (.aload_n 0, 1) := by decide +kernel
theorem dX2_part_6 : decode cX2_part 6 = .ok (.getfield 9, 3) := by decide +kernel
theorem dX2_part_9 : decode cX2_part 9 = .ok (.if_icmp .ge 51, 3) := by decide +kernel
theorem dX2_part_12 : decode cX2_part 12 = .ok (.aload_n 0, 1) := by decide +kernel
theorem dX2_part_13 : decode cX2_part 13 = .ok (.getfield 24, 3) := by decide +kernel
theorem dX2_part_16 : decode cX2_part 16 = .ok (.iload 5, 2) := by decide +kernel
theorem dX2_part_18 : decode cX2_part 18 = .ok (.invokestatic 40, 3) := by decide +kernel
theorem dX2_part_21 : decode cX2_part 21 = .ok (.iload_n 1, 1) := by decide +kernel
theorem dX2_part_22 : decode cX2_part 22 = .ok (.if_icmp .ne 32, 3) := by decide +kernel
theorem dX2_part_25 : decode cX2_part 25 = .ok (.aload_n 0, 1) := by decide +kernel
theorem dX2_part_26 : decode cX2_part 26 = .ok (.getfield 28, 3) := by decide +kernel
theorem dX2_part_29 : decode cX2_part 29 = .ok (.iload 5, 2) := by decide +kernel
theorem dX2_part_31 : decode cX2_part 31 = .ok (.invokestatic 40, 3) := by decide +kernel
theorem dX2_part_34 : decode cX2_part 34 = .ok (.iload_n 2, 1) := by decide +kernel
theorem dX2_part_35 : decode cX2_part 35 = .ok (.if_icmp .ne 19, 3) := by decide +kernel
theorem dX2_part_38 : decode cX2_part 38 = .ok (.aload_n 0, 1) := by decide +kernel
theorem dX2_part_39 : decode cX2_part 39 = .ok (.getfield 31, 3) := by decide +kernel
theorem dX2_part_42 : decode cX2_part 42 = .ok (.iload 5, 2) := by decide +kernel
theorem dX2_part_44 : decode cX2_part 44 = .ok (.invokestatic 40, 3) := by decide +kernel
theorem dX2_part_47 : decode cX2_part 47 = .ok (.iload_n 3, 1) := by decide +kernel
theorem dX2_part_48 : decode cX2_part 48 = .ok (.if_icmp .ne 6, 3) := by decide +kernel
theorem dX2_part_51 : decode cX2_part 51 = .ok (.iload 5, 2) := by decide +kernel
theorem dX2_part_53 : decode cX2_part 53 = .ok (.ireturn, 1) := by decide +kernel
theorem dX2_part_54 : decode cX2_part 54 = .ok (.iinc 5 1, 3) := by decide +kernel
theorem dX2_part_57 : decode cX2_part 57 = .ok (.goto (-54), 3) := by decide +kernel
theorem dX2_part_60 : decode cX2_part 60 = .ok (.aload_n 0, 1) := by decide +kernel
theorem dX2_part_61 : decode cX2_part 61 = .ok (.getfield 9, 3) := by decide +kernel
theorem dX2_part_64 : decode cX2_part 64 = .ok (.aload_n 0, 1) := by decide +kernel
theorem dX2_part_65 : decode cX2_part 65 = .ok (.getfield 24, 3) := by decide +kernel
theorem dX2_part_68 : decode cX2_part 68 = .ok (.arraylength, 1) := by decide +kernel
theorem dX2_part_69 : decode cX2_part 69 = .ok (.if_icmp .ge 100, 3) := by decide +kernel
theorem dX2_part_72 : decode cX2_part 72 = .ok (.aload_n 0, 1) := by decide +kernel
theorem dX2_part_73 : decode cX2_part 73 = .ok (.getfield 24, 3) := by decide +kernel
theorem dX2_part_76 : decode cX2_part 76 = .ok (.aload_n 0, 1) := by decide +kernel
theorem dX2_part_77 : decode cX2_part 77 = .ok (.getfield 9, 3) := by decide +kernel
theorem dX2_part_80 : decode cX2_part 80 = .ok (.iload_n 1, 1) := by decide +kernel
theorem dX2_part_81 : decode cX2_part 81 = .ok (.invokestatic 52, 3) := by decide +kernel
theorem dX2_part_84 : decode cX2_part 84 = .ok (.aload_n 0, 1) := by decide +kernel
theorem dX2_part_85 : decode cX2_part 85 = .ok (.getfield 28, 3) := by decide +kernel
theorem dX2_part_88 : decode cX2_part 88 = .ok (.aload_n 0, 1) := by decide +kernel
theorem dX2_part_89 : decode cX2_part 89 = .ok (.getfield 9, 3) := by decide +kernel
theorem dX2_part_92 : decode cX2_part 92 = .ok (.iload_n 2, 1) := by decide +kernel
theorem dX2_part_93 : decode cX2_part 93 = .ok (.invokestatic 52, 3) := by decide +kernel
theorem dX2_part_96 : decode cX2_part 96 = .ok (.aload_n 0, 1) := by decide +kernel
theorem dX2_part_97 : decode cX2_part 97 = .ok (.getfield 31, 3) := by decide +kernel
theorem dX2_part_100 : decode cX2_part 100 = .ok (.aload_n 0, 1) := by decide +kernel
theorem dX2_part_101 : decode cX2_part 101 = .ok (.getfield 9, 3) := by decide +kernel
theorem dX2_part_104 : decode cX2_part 104 = .ok (.iload_n 3, 1) := by decide +kernel
theorem dX2_part_105 : decode cX2_part 105 = .ok (.invokestatic 52, 3) := by decide +kernel
theorem dX2_part_108 : decode cX2_part 108 = .ok (.aload_n 0, 1) := by decide +kernel
theorem dX2_part_109 : decode cX2_part 109 = .ok (.getfield 34, 3) := by decide +kernel
theorem dX2_part_112 : decode cX2_part 112 = .ok (.aload_n 0, 1) := by decide +kernel
theorem dX2_part_113 : decode cX2_part 113 = .ok (.getfield 9, 3) := by decide +kernel
theorem dX2_part_116 : decode cX2_part 116 = .ok (.iload 4, 2) := by decide +kernel
theorem dX2_part_118 : decode cX2_part 118 = .ok (.invokestatic 52, 3) := by decide +kernel
theorem dX2_part_121 : decode cX2_part 121 = .ok (.aload_n 0, 1) := by decide +kernel
theorem dX2_part_122 : decode cX2_part 122 = .ok (.getfield 37, 3) := by decide +kernel
theorem dX2_part_125 : decode cX2_part 125 = .ok (.aload_n 0, 1) := by decide +kernel
theorem dX2_part_126 : decode cX2_part 126 = .ok (.getfield 9, 3) := by decide +kernel
theorem dX2_part_129 : decode cX2_part 129 = .ok (.aload_n 0, 1) := by decide +kernel
theorem dX2_part_130 : decode cX2_part 130 = .ok (.getfield 37, 3) := by decide +kernel
theorem dX2_part_133 : decode cX2_part 133 = .ok (.iload_n 2, 1) := by decide +kernel
theorem dX2_part_134 : decode cX2_part 134 = .ok (.invokestatic 40, 3) := by decide +kernel
theorem dX2_part_137 : decode cX2_part 137 = .ok (.aload_n 0, 1) := by decide +kernel
theorem dX2_part_138 : decode cX2_part 138 = .ok (.getfield 37, 3) := by decide +kernel
theorem dX2_part_141 : decode cX2_part 141 = .ok (.iload_n 3, 1) := by decide +kernel
theorem dX2_part_142 : decode cX2_part 142 = .ok (.invokestatic 40, 3) := by decide +kernel
theorem dX2_part_145 : decode cX2_part 145 = .ok (.invokestatic 18, 3) := by decide +kernel
theorem dX2_part_148 : decode cX2_part 148 = .ok (.iload_n 1, 1) := by decide +kernel
theorem dX2_part_149 : decode cX2_part 149 = .ok (.invokestatic 56, 3) := by decide +kernel
theorem dX2_part_152 : decode cX2_part 152 = .ok (.invokestatic 59, 3) := by decide +kernel
theorem dX2_part_155 : decode cX2_part 155 = .ok (.iadd, 1) := by decide +kernel
theorem dX2_part_156 : decode cX2_part 156 = .ok (.invokestatic 52, 3) := by decide +kernel
theorem dX2_part_159 : decode cX2_part 159 = .ok (.aload_n 0, 1) := by decide +kernel
theorem dX2_part_160 : decode cX2_part 160 = .ok (.dup, 1) := by decide +kernel
theorem dX2_part_161 : decode cX2_part 161 = .ok (.getfield 9, 3) := by decide +kernel
theorem dX2_part_164 : decode cX2_part 164 = .ok (.iconst 1, 1) := by decide +kernel
theorem dX2_part_165 : decode cX2_part 165 = .ok (.iadd, 1) := by decide +kernel
theorem dX2_part_166 : decode cX2_part 166 = .ok (.putfield 9, 3) := by decide +kernel
theorem dX2_part_169 : decode cX2_part 169 = .ok (.aload_n 0, 1) := by decide +kernel
theorem dX2_part_170 : decode cX2_part 170 = .ok (.getfield 9, 3) := by decide +kernel
theorem dX2_part_173 : decode cX2_part 173 = .ok (.iconst 1, 1) := by decide +kernel
theorem dX2_part_174 : decode cX2_part 174 = .ok (.isub, 1) := by decide +kernel
theorem dX2_part_175 : decode cX2_part 175 = .ok (.ireturn, 1) := by decide +kernel
theorem dX2_become_0 : decode cX2_become 0 = .ok (.aload_n 0, 1) := by decide +kernel
theorem dX2_become_1 : decode cX2_become 1 = .ok (.aload_n 1, 1) := by decide +kernel
theorem dX2_become_2 : decode cX2_become 2 = .ok (.getfield 9, 3) := by decide +kernel
theorem dX2_become_5 : decode cX2_become 5 = .ok (.aload_n 0, 1) := by decide +kernel
theorem dX2_become_6 : decode cX2_become 6 = .ok (.getfield 24, 3) := by decide +kernel
theorem dX2_become_9 : decode cX2_become 9 = .ok (.arraylength, 1) := by decide +kernel
theorem dX2_become_10 : decode cX2_become 10 = .ok (.invokestatic 63, 3) := by decide +kernel
theorem dX2_become_13 : decode cX2_become 13 = .ok (.putfield 9, 3) := by decide +kernel
theorem dX2_become_16 : decode cX2_become 16 = .ok (.aload_n 0, 1) := by decide +kernel
theorem dX2_become_17 : decode cX2_become 17 = .ok (.aload_n 1, 1) := by decide +kernel
theorem dX2_become_18 : decode cX2_become 18 = .ok (.getfield 15, 3) := by decide +kernel
theorem dX2_become_21 : decode cX2_become 21 = .ok (.putfield 15, 3) := by decide +kernel
theorem dX2_become_24 : decode cX2_become 24 = .ok (.iconst 0, 1) := by decide +kernel
theorem dX2_become_25 : decode cX2_become 25 = .ok (.istore_n 2, 1) := by decide +kernel
theorem dX2_become_26 : decode cX2_become 26 = .ok (.iload_n 2, 1) := by decide +kernel
theorem dX2_become_27 : decode cX2_become 27 = .ok (.aload_n 0, 1) := by decide +kernel
theorem dX2_become_28 : decode cX2_become 28 = .ok (.getfield 9, 3) := by decide +kernel
theorem dX2_become_31 : decode cX2_become 31 = .ok (.if_icmp .ge 89, 3) := by decide +kernel
theorem dX2_become_34 : decode cX2_become 34 = .ok (.aload_n 0, 1) := by decide +kernel
theorem dX2_become_35 : decode cX2_become 35 = .ok (.getfield 24, 3) := by decide +kernel
theorem dX2_become_38 : decode cX2_become 38 = .ok (.iload_n 2, 1) := by decide +kernel
theorem dX2_become_39 : decode cX2_become 39 = .ok (.aload_n 1, 1) := by decide +kernel
theorem dX2_become_40 : decode cX2_become 40 = .ok (.getfield 24, 3) := by decide +kernel
theorem dX2_become_43 : decode cX2_become 43 = .ok (.iload_n 2, 1) := by decide +kernel
theorem dX2_become_44 : decode cX2_become 44 = .ok (.invokestatic 40, 3) := by decide +kernel
theorem dX2_become_47 : decode cX2_become 47 = .ok (.invokestatic 52, 3) := by decide +kernel
theorem dX2_become_50 : decode cX2_become 50 = .ok (.aload_n 0, 1) := by decide +kernel
theorem dX2_become_51 : decode cX2_become 51 = .ok (.getfield 28, 3) := by decide +kernel
theorem dX2_become_54 : decode cX2_become 54 = .ok (.iload_n 2, 1) := by decide +kernel
theorem dX2_become_55 : decode cX2_become 55 = .ok (.aload_n 1, 1) := by decide +kernel
theorem dX2_become_56 : decode cX2_become 56 = .ok (.getfield 28, 3) := by decide +kernel
theorem dX2_become_59 : decode cX2_become 59 = .ok (.iload_n 2, 1) := by decide +kernel
theorem dX2_become_60 : decode cX2_become 60 = .ok (.invokestatic 40, 3) := by decide +kernel
theorem dX2_become_63 : decode cX2_become 63 = .ok (.invokestatic 52, 3) := by decide +kernel
theorem dX2_become_66 : decode cX2_become 66 = .ok (.aload_n 0, 1) := by decide +kernel
theorem dX2_become_67 : decode cX2_become 67 = .ok (.getfield 31, 3) := by decide +kernel
theorem dX2_become_70 : decode cX2_become 70 = .ok (.iload_n 2, 1) := by decide +kernel
theorem dX2_become_71 : decode cX2_become 71 = .ok (.aload_n 1, 1) := by decide +kernel
theorem dX2_become_72 : decode cX2_become 72 = .ok (.getfield 31, 3) := by decide +kernel
theorem dX2_become_75 : decode cX2_become 75 = .ok (.iload_n 2, 1) := by decide +kernel
theorem dX2_become_76 : decode cX2_become 76 = .ok (.invokestatic 40, 3) := by decide +kernel
theorem dX2_become_79 : decode cX2_become 79 = .ok (.invokestatic 52, 3) := by decide +kernel
theorem dX2_become_82 : decode cX2_become 82 = .ok (.aload_n 0, 1) := by decide +kernel
theorem dX2_become_83 : decode cX2_become 83 = .ok (.getfield 34, 3) := by decide +kernel
theorem dX2_become_86 : decode cX2_become 86 = .ok (.iload_n 2, 1) := by decide +kernel
theorem dX2_become_87 : decode cX2_become 87 = .ok (.aload_n 1, 1) := by decide +kernel
theorem dX2_become_88 : decode cX2_become 88 = .ok (.getfield 34, 3) := by decide +kernel
theorem dX2_become_91 : decode cX2_become 91 = .ok (.iload_n 2, 1) := by decide +kernel
theorem dX2_become_92 : decode cX2_become 92 = .ok (.invokestatic 40, 3) := by decide +kernel
theorem dX2_become_95 : decode cX2_become 95 = .ok (.invokestatic 52, 3) := by decide +kernel
theorem dX2_become_98 : decode cX2_become 98 = .ok (.aload_n 0, 1) := by decide +kernel
theorem dX2_become_99 : decode cX2_become 99 = .ok (.getfield 37, 3) := by decide +kernel
theorem dX2_become_102 : decode cX2_become 102 = .ok (.iload_n 2, 1) := by decide +kernel
theorem dX2_become_103 : decode cX2_become 103 = .ok (.aload_n 1, 1) := by decide +kernel
theorem dX2_become_104 : decode cX2_become 104 = .ok (.getfield 37, 3) := by decide +kernel
theorem dX2_become_107 : decode cX2_become 107 = .ok (.iload_n 2, 1) := by decide +kernel
theorem dX2_become_108 : decode cX2_become 108 = .ok (.invokestatic 40, 3) := by decide +kernel
theorem dX2_become_111 : decode cX2_become 111 = .ok (.invokestatic 52, 3) := by decide +kernel
theorem dX2_become_114 : decode cX2_become 114 = .ok (.iinc 2 1, 3) := by decide +kernel
theorem dX2_become_117 : decode cX2_become 117 = .ok (.goto (-91), 3) := by decide +kernel
theorem dX2_become_120 : decode cX2_become 120 = .ok (.return_, 1) := by decide +kernel
theorem dX2_takeIn_0 : decode cX2_takeIn 0 = .ok (.iconst 0, 1) := by decide +kernel
theorem dX2_takeIn_1 : decode cX2_takeIn 1 = .ok (.istore_n 3, 1) := by decide +kernel
theorem dX2_takeIn_2 : decode cX2_takeIn 2 = .ok (.iload_n 3, 1) := by decide +kernel
theorem dX2_takeIn_3 : decode cX2_takeIn 3 = .ok (.aload_n 1, 1) := by decide +kernel
theorem dX2_takeIn_4 : decode cX2_takeIn 4 = .ok (.getfield 9, 3) := by decide +kernel
theorem dX2_takeIn_7 : decode cX2_takeIn 7 = .ok (.if_icmp .ge 66, 3) := by decide +kernel
theorem dX2_takeIn_10 : decode cX2_takeIn 10 = .ok (.aload_n 2, 1) := by decide +kernel
theorem dX2_takeIn_11 : decode cX2_takeIn 11 = .ok (.aload_n 1, 1) := by decide +kernel
theorem dX2_takeIn_12 : decode cX2_takeIn 12 = .ok (.getfield 28, 3) := by decide +kernel
theorem dX2_takeIn_15 : decode cX2_takeIn 15 = .ok (.iload_n 3, 1) := by decide +kernel
theorem dX2_takeIn_16 : decode cX2_takeIn 16 = .ok (.invokestatic 40, 3) := by decide +kernel
theorem dX2_takeIn_19 : decode cX2_takeIn 19 = .ok (.invokestatic 66, 3) := by decide +kernel
theorem dX2_takeIn_22 : decode cX2_takeIn 22 = .ok (.istore 4, 2) := by decide +kernel
theorem dX2_takeIn_24 : decode cX2_takeIn 24 = .ok (.aload_n 2, 1) := by decide +kernel
theorem dX2_takeIn_25 : decode cX2_takeIn 25 = .ok (.aload_n 1, 1) := by decide +kernel
theorem dX2_takeIn_26 : decode cX2_takeIn 26 = .ok (.getfield 31, 3) := by decide +kernel
theorem dX2_takeIn_29 : decode cX2_takeIn 29 = .ok (.iload_n 3, 1) := by decide +kernel
theorem dX2_takeIn_30 : decode cX2_takeIn 30 = .ok (.invokestatic 40, 3) := by decide +kernel
theorem dX2_takeIn_33 : decode cX2_takeIn 33 = .ok (.invokestatic 66, 3) := by decide +kernel
theorem dX2_takeIn_36 : decode cX2_takeIn 36 = .ok (.istore 5, 2) := by decide +kernel
theorem dX2_takeIn_38 : decode cX2_takeIn 38 = .ok (.aload_n 2, 1) := by decide +kernel
theorem dX2_takeIn_39 : decode cX2_takeIn 39 = .ok (.iload_n 3, 1) := by decide +kernel
theorem dX2_takeIn_40 : decode cX2_takeIn 40 = .ok (.aload_n 0, 1) := by decide +kernel
theorem dX2_takeIn_41 : decode cX2_takeIn 41 = .ok (.aload_n 1, 1) := by decide +kernel
theorem dX2_takeIn_42 : decode cX2_takeIn 42 = .ok (.getfield 24, 3) := by decide +kernel
theorem dX2_takeIn_45 : decode cX2_takeIn 45 = .ok (.iload_n 3, 1) := by decide +kernel
theorem dX2_takeIn_46 : decode cX2_takeIn 46 = .ok (.invokestatic 40, 3) := by decide +kernel
theorem dX2_takeIn_49 : decode cX2_takeIn 49 = .ok (.iload 4, 2) := by decide +kernel
theorem dX2_takeIn_51 : decode cX2_takeIn 51 = .ok (.iload 5, 2) := by decide +kernel
theorem dX2_takeIn_53 : decode cX2_takeIn 53 = .ok (.aload_n 1, 1) := by decide +kernel
theorem dX2_takeIn_54 : decode cX2_takeIn 54 = .ok (.getfield 34, 3) := by decide +kernel
theorem dX2_takeIn_57 : decode cX2_takeIn 57 = .ok (.iload_n 3, 1) := by decide +kernel
theorem dX2_takeIn_58 : decode cX2_takeIn 58 = .ok (.invokestatic 40, 3) := by decide +kernel
theorem dX2_takeIn_61 : decode cX2_takeIn 61 = .ok (.invokevirtual 69, 3) := by decide +kernel
theorem dX2_takeIn_64 : decode cX2_takeIn 64 = .ok (.invokestatic 52, 3) := by decide +kernel
theorem dX2_takeIn_67 : decode cX2_takeIn 67 = .ok (.iinc 3 1, 3) := by decide +kernel
theorem dX2_takeIn_70 : decode cX2_takeIn 70 = .ok (.goto (-68), 3) := by decide +kernel
theorem dX2_takeIn_73 : decode cX2_takeIn 73 = .ok (.aload_n 2, 1) := by decide +kernel
theorem dX2_takeIn_74 : decode cX2_takeIn 74 = .ok (.aload_n 1, 1) := by decide +kernel
theorem dX2_takeIn_75 : decode cX2_takeIn 75 = .ok (.getfield 9, 3) := by decide +kernel
theorem dX2_takeIn_78 : decode cX2_takeIn 78 = .ok (.iconst 1, 1) := by decide +kernel
theorem dX2_takeIn_79 : decode cX2_takeIn 79 = .ok (.isub, 1) := by decide +kernel
theorem dX2_takeIn_80 : decode cX2_takeIn 80 = .ok (.invokestatic 40, 3) := by decide +kernel
theorem dX2_takeIn_83 : decode cX2_takeIn 83 = .ok (.ireturn, 1) := by decide +kernel
theorem dX2_movedTo_0 : decode cX2_movedTo 0 = .ok (.iload_n 1, 1) := by decide +kernel
theorem dX2_movedTo_1 : decode cX2_movedTo 1 = .ok (.iconst (-1), 1) := by decide +kernel
theorem dX2_movedTo_2 : decode cX2_movedTo 2 = .ok (.if_icmp .ne 7, 3) := by decide +kernel
theorem dX2_movedTo_5 : decode cX2_movedTo 5 = .ok (.iconst (-1), 1) := by decide +kernel
theorem dX2_movedTo_6 : decode cX2_movedTo 6 = .ok (.goto 8, 3) := by decide +kernel
theorem dX2_movedTo_9 : decode cX2_movedTo 9 = .ok (.aload_n 0, 1) := by decide +kernel
theorem dX2_movedTo_10 : decode cX2_movedTo 10 = .ok (.iload_n 1, 1) := by decide +kernel
theorem dX2_movedTo_11 : decode cX2_movedTo 11 = .ok (.invokestatic 40, 3) := by decide +kernel
theorem dX2_movedTo_14 : decode cX2_movedTo 14 = .ok (.ireturn, 1) := by decide +kernel
theorem dX3_init_0 : decode cX3_init 0 = .ok (.aload_n 0, 1) := by decide +kernel
theorem dX3_init_1 : decode cX3_init 1 = .ok (.invokespecial 3, 3) := by decide +kernel
theorem dX3_init_4 : decode cX3_init 4 = .ok (.aload_n 0, 1) := by decide +kernel
theorem dX3_init_5 : decode cX3_init 5 = .ok (.bipush 81, 2) := by decide +kernel
theorem dX3_init_7 : decode cX3_init 7 = .ok (.newarray .int, 2) := by decide +kernel
theorem dX3_init_9 : decode cX3_init 9 = .ok (.putfield 9, 3) := by decide +kernel
theorem dX3_init_12 : decode cX3_init 12 = .ok (.aload_n 0, 1) := by decide +kernel
theorem dX3_init_13 : decode cX3_init 13 = .ok (.bipush 81, 2) := by decide +kernel
theorem dX3_init_15 : decode cX3_init 15 = .ok (.newarray .int, 2) := by decide +kernel
theorem dX3_init_17 : decode cX3_init 17 = .ok (.putfield 15, 3) := by decide +kernel
theorem dX3_init_20 : decode cX3_init 20 = .ok (.aload_n 0, 1) := by decide +kernel
theorem dX3_init_21 : decode cX3_init 21 = .ok (.sipush 1024, 3) := by decide +kernel
theorem dX3_init_24 : decode cX3_init 24 = .ok (.newarray .int, 2) := by decide +kernel
theorem dX3_init_26 : decode cX3_init 26 = .ok (.putfield 18, 3) := by decide +kernel
theorem dX3_init_29 : decode cX3_init 29 = .ok (.aload_n 0, 1) := by decide +kernel
theorem dX3_init_30 : decode cX3_init 30 = .ok (.sipush 1024, 3) := by decide +kernel
theorem dX3_init_33 : decode cX3_init 33 = .ok (.newarray .int, 2) := by decide +kernel
theorem dX3_init_35 : decode cX3_init 35 = .ok (.putfield 21, 3) := by decide +kernel
theorem dX3_init_38 : decode cX3_init 38 = .ok (.aload_n 0, 1) := by decide +kernel
theorem dX3_init_39 : decode cX3_init 39 = .ok (.sipush 1024, 3) := by decide +kernel
theorem dX3_init_42 : decode cX3_init 42 = .ok (.newarray .int, 2) := by decide +kernel
theorem dX3_init_44 : decode cX3_init 44 = .ok (.putfield 24, 3) := by decide +kernel
theorem dX3_init_47 : decode cX3_init 47 = .ok (.aload_n 0, 1) := by decide +kernel
theorem dX3_init_48 : decode cX3_init 48 = .ok (.sipush 1024, 3) := by decide +kernel
theorem dX3_init_51 : decode cX3_init 51 = .ok (.newarray .int, 2) := by decide +kernel
theorem dX3_init_53 : decode cX3_init 53 = .ok (.putfield 27, 3) := by decide +kernel
theorem dX3_init_56 : decode cX3_init 56 = .ok (.aload_n 0, 1) := by decide +kernel
theorem dX3_init_57 : decode cX3_init 57 = .ok (.sipush 1024, 3) := by decide +kernel
theorem dX3_init_60 : decode cX3_init 60 = .ok (.newarray .int, 2) := by decide +kernel
theorem dX3_init_62 : decode cX3_init 62 = .ok (.putfield 30, 3) := by decide +kernel
theorem dX3_init_65 : decode cX3_init 65 = .ok (.aload_n 0, 1) := by decide +kernel
theorem dX3_init_66 : decode cX3_init 66 = .ok (.iconst 0, 1) := by decide +kernel
theorem dX3_init_67 : decode cX3_init 67 = .ok (.putfield 33, 3) := by decide +kernel
theorem dX3_init_70 : decode cX3_init 70 = .ok (.aload_n 0, 1) := by decide +kernel
theorem dX3_init_71 : decode cX3_init 71 = .ok (.iconst 0, 1) := by decide +kernel
theorem dX3_init_72 : decode cX3_init 72 = .ok (.putfield 37, 3) := by decide +kernel
theorem dX3_init_75 : decode cX3_init 75 = .ok (.aload_n 0, 1) := by decide +kernel
theorem dX3_init_76 : decode cX3_init 76 = .ok (.iconst 0, 1) := by decide +kernel
theorem dX3_init_77 : decode cX3_init 77 = .ok (.putfield 40, 3) := by decide +kernel
theorem dX3_init_80 : decode cX3_init 80 = .ok (.aload_n 0, 1) := by decide +kernel
theorem dX3_init_81 : decode cX3_init 81 = .ok (.iconst 0, 1) := by decide +kernel
theorem dX3_init_82 : decode cX3_init 82 = .ok (.putfield 43, 3) := by decide +kernel
theorem dX3_init_85 : decode cX3_init 85 = .ok (.aload_n 0, 1) := by decide +kernel
theorem dX3_init_86 : decode cX3_init 86 = .ok (.iconst 0, 1) := by decide +kernel
theorem dX3_init_87 : decode cX3_init 87 = .ok (.putfield 46, 3) := by decide +kernel
theorem dX3_init_90 : decode cX3_init 90 = .ok (.aload_n 0, 1) := by decide +kernel
theorem dX3_init_91 : decode cX3_init 91 = .ok (.iconst 0, 1) := by decide +kernel
theorem dX3_init_92 : decode cX3_init 92 = .ok (.putfield 49, 3) := by decide +kernel
theorem dX3_init_95 : decode cX3_init 95 = .ok (.aload_n 0, 1) := by decide +kernel
theorem dX3_init_96 : decode cX3_init 96 = .ok (.iconst 0, 1) := by decide +kernel
theorem dX3_init_97 : decode cX3_init 97 = .ok (.putfield 52, 3) := by decide +kernel
theorem dX3_init_100 : decode cX3_init 100 = .ok (.return_, 1) := by decide +kernel
theorem dX3_howMany_0 : decode cX3_howMany 0 = .ok (.lconst 1, 1) := by decide +kernel
theorem dX3_howMany_1 : decode cX3_howMany 1 = .ok (.aload_n 1, 1) := by decide +kernel
theorem dX3_howMany_2 : decode cX3_howMany 2 = .ok (.iload_n 2, 1) := by decide +kernel
theorem dX3_howMany_3 : decode cX3_howMany 3 = .ok (.invokestatic 55, 3) := by decide +kernel
theorem dX3_howMany_6 : decode cX3_howMany 6 = .ok (.lshl, 1) := by decide +kernel
theorem dX3_howMany_7 : decode cX3_howMany 7 = .ok (.lreturn, 1) := by decide +kernel
theorem dX3_sortOut_0 : decode cX3_sortOut 0 = .ok (.aload_n 1, 1) := by decide +kernel
theorem dX3_sortOut_1 : decode cX3_sortOut 1 = .ok (.iload_n 2, 1) := by decide +kernel
theorem dX3_sortOut_2 : decode cX3_sortOut 2 = .ok (.invokestatic 55, 3) := by decide +kernel
theorem dX3_sortOut_5 : decode cX3_sortOut 5 = .ok (.istore_n 3, 1) := by decide +kernel
theorem dX3_sortOut_6 : decode cX3_sortOut 6 = .ok (.iload_n 3, 1) := by decide +kernel
theorem dX3_sortOut_7 : decode cX3_sortOut 7 = .ok (.bipush 10, 2) := by decide +kernel
theorem dX3_sortOut_9 : decode cX3_sortOut 9 = .ok (.if_icmp .le 5, 3) := by decide +kernel
theorem dX3_sortOut_12 : decode cX3_sortOut 12 = .ok (.iconst 0, 1) := by decide +kernel
theorem dX3_sortOut_13 : decode cX3_sortOut 13 = .ok (.ireturn, 1) := by decide +kernel
theorem dX3_sortOut_14 : decode cX3_sortOut 14 = .ok (.aload_n 0, 1) := by decide +kernel
theorem dX3_sortOut_15 : decode cX3_sortOut 15 = .ok (.iload_n 2, 1) := by decide +kernel
theorem dX3_sortOut_16 : decode cX3_sortOut 16 = .ok (.putfield 33, 3) := by decide +kernel
theorem dX3_sortOut_19 : decode cX3_sortOut 19 = .ok (.aload_n 0, 1) := by decide +kernel
theorem dX3_sortOut_20 : decode cX3_sortOut 20 = .ok (.iconst 1, 1) := by decide +kernel
theorem dX3_sortOut_21 : decode cX3_sortOut 21 = .ok (.iload_n 3, 1) := by decide +kernel
theorem dX3_sortOut_22 : decode cX3_sortOut 22 = .ok (.ishl, 1) := by decide +kernel
theorem dX3_sortOut_23 : decode cX3_sortOut 23 = .ok (.putfield 37, 3) := by decide +kernel
theorem dX3_sortOut_26 : decode cX3_sortOut 26 = .ok (.aload_n 0, 1) := by decide +kernel
theorem dX3_sortOut_27 : decode cX3_sortOut 27 = .ok (.aload_n 1, 1) := by decide +kernel
theorem dX3_sortOut_28 : decode cX3_sortOut 28 = .ok (.invokevirtual 59, 3) := by decide +kernel
theorem dX3_sortOut_31 : decode cX3_sortOut 31 = .ok (.iconst 0, 1) := by decide +kernel
theorem dX3_sortOut_32 : decode cX3_sortOut 32 = .ok (.istore 4, 2) := by decide +kernel
theorem dX3_sortOut_34 : decode cX3_sortOut 34 = .ok (.iload 4, 2) := by decide +kernel
theorem dX3_sortOut_36 : decode cX3_sortOut 36 = .ok (.aload_n 0, 1) := by decide +kernel
theorem dX3_sortOut_37 : decode cX3_sortOut 37 = .ok (.getfield 37, 3) := by decide +kernel
theorem dX3_sortOut_40 : decode cX3_sortOut 40 = .ok (.if_icmp .ge 16, 3) := by decide +kernel
theorem dX3_sortOut_43 : decode cX3_sortOut 43 = .ok (.aload_n 0, 1) := by decide +kernel
theorem dX3_sortOut_44 : decode cX3_sortOut 44 = .ok (.aload_n 1, 1) := by decide +kernel
theorem dX3_sortOut_45 : decode cX3_sortOut 45 = .ok (.iload 4, 2) := by decide +kernel
theorem dX3_sortOut_47 : decode cX3_sortOut 47 = .ok (.invokevirtual 63, 3) := by decide +kernel
theorem dX3_sortOut_50 : decode cX3_sortOut 50 = .ok (.iinc 4 1, 3) := by decide +kernel
theorem dX3_sortOut_53 : decode cX3_sortOut 53 = .ok (.goto (-19), 3) := by decide +kernel
theorem dX3_sortOut_56 : decode cX3_sortOut 56 = .ok (.aload_n 0, 1) := by decide +kernel
theorem dX3_sortOut_57 : decode cX3_sortOut 57 = .ok (.invokevirtual 67, 3) := by decide +kernel
theorem dX3_sortOut_60 : decode cX3_sortOut 60 = .ok (.aload_n 0, 1) := by decide +kernel
theorem dX3_sortOut_61 : decode cX3_sortOut 61 = .ok (.iconst 0, 1) := by decide +kernel
theorem dX3_sortOut_62 : decode cX3_sortOut 62 = .ok (.putfield 49, 3) := by decide +kernel
theorem dX3_sortOut_65 : decode cX3_sortOut 65 = .ok (.aload_n 0, 1) := by decide +kernel
theorem dX3_sortOut_66 : decode cX3_sortOut 66 = .ok (.getfield 49, 3) := by decide +kernel
theorem dX3_sortOut_69 : decode cX3_sortOut 69 = .ok (.aload_n 0, 1) := by decide +kernel
theorem dX3_sortOut_70 : decode cX3_sortOut 70 = .ok (.getfield 37, 3) := by decide +kernel
theorem dX3_sortOut_73 : decode cX3_sortOut 73 = .ok (.if_icmp .ge 29, 3) := by decide +kernel
theorem dX3_sortOut_76 : decode cX3_sortOut 76 = .ok (.aload_n 0, 1) := by decide +kernel
theorem dX3_sortOut_77 : decode cX3_sortOut 77 = .ok (.aload_n 0, 1) := by decide +kernel
theorem dX3_sortOut_78 : decode cX3_sortOut 78 = .ok (.getfield 49, 3) := by decide +kernel
theorem dX3_sortOut_81 : decode cX3_sortOut 81 = .ok (.iconst 1, 1) := by decide +kernel
theorem dX3_sortOut_82 : decode cX3_sortOut 82 = .ok (.iadd, 1) := by decide +kernel
theorem dX3_sortOut_83 : decode cX3_sortOut 83 = .ok (.invokevirtual 70, 3) := by decide +kernel
theorem dX3_sortOut_86 : decode cX3_sortOut 86 = .ok (.ifCond .eq 16, 3) := by decide +kernel
theorem dX3_sortOut_89 : decode cX3_sortOut 89 = .ok (.aload_n 0, 1) := by decide +kernel
theorem dX3_sortOut_90 : decode cX3_sortOut 90 = .ok (.dup, 1) := by decide +kernel
theorem dX3_sortOut_91 : decode cX3_sortOut 91 = .ok (.getfield 49, 3) := by decide +kernel
theorem dX3_sortOut_94 : decode cX3_sortOut 94 = .ok (.iconst 1, 1) := by decide +kernel
theorem dX3_sortOut_95 : decode cX3_sortOut 95 = .ok (.iadd, 1) := by decide +kernel
theorem dX3_sortOut_96 : decode cX3_sortOut 96 = .ok (.putfield 49, 3) := by decide +kernel
theorem dX3_sortOut_99 : decode cX3_sortOut 99 = .ok (.goto (-34), 3) := by decide +kernel
theorem dX3_sortOut_102 : decode cX3_sortOut 102 = .ok (.iconst 1, 1) := by decide +kernel
theorem dX3_sortOut_103 : decode cX3_sortOut 103 = .ok (.ireturn, 1) := by decide +kernel
theorem dX3_hasBit_0 : decode cX3_hasBit 0 = .ok (.iload_n 0, 1) := by decide +kernel
theorem dX3_hasBit_1 : decode cX3_hasBit 1 = .ok (.invokestatic 74, 3) := by decide +kernel
theorem dX3_hasBit_4 : decode cX3_hasBit 4 = .ok (.ifCond .eq 5, 3) := by decide +kernel
theorem dX3_hasBit_7 : decode cX3_hasBit 7 = .ok (.iconst 1, 1) := by decide +kernel
theorem dX3_hasBit_8 : decode cX3_hasBit 8 = .ok (.ireturn, 1) := by decide +kernel
theorem dX3_hasBit_9 : decode cX3_hasBit 9 = .ok (.iload_n 1, 1) := by decide +kernel
theorem dX3_hasBit_10 : decode cX3_hasBit 10 = .ok (.bipush 8, 2) := by decide +kernel
theorem dX3_hasBit_12 : decode cX3_hasBit 12 = .ok (.if_icmp .ne 23, 3) := by decide +kernel
theorem dX3_hasBit_15 : decode cX3_hasBit 15 = .ok (.iload_n 0, 1) := by decide +kernel
theorem dX3_hasBit_16 : decode cX3_hasBit 16 = .ok (.bipush 62, 2) := by decide +kernel
theorem dX3_hasBit_18 : decode cX3_hasBit 18 = .ok (.if_icmp .eq 9, 3) := by decide +kernel
theorem dX3_hasBit_21 : decode cX3_hasBit 21 = .ok (.iload_n 0, 1) := by decide +kernel
theorem dX3_hasBit_22 : decode cX3_hasBit 22 = .ok (.bipush 33, 2) := by decide +kernel
theorem dX3_hasBit_24 : decode cX3_hasBit 24 = .ok (.if_icmp .ne 7, 3) := by decide +kernel
theorem dX3_hasBit_27 : decode cX3_hasBit 27 = .ok (.iconst 1, 1) := by decide +kernel
theorem dX3_hasBit_28 : decode cX3_hasBit 28 = .ok (.goto 11, 3) := by decide +kernel
theorem dX3_hasBit_31 : decode cX3_hasBit 31 = .ok (.iconst 0, 1) := by decide +kernel
theorem dX3_hasBit_32 : decode cX3_hasBit 32 = .ok (.goto 7, 3) := by decide +kernel
theorem dX3_hasBit_35 : decode cX3_hasBit 35 = .ok (.iload_n 0, 1) := by decide +kernel
theorem dX3_hasBit_36 : decode cX3_hasBit 36 = .ok (.invokestatic 77, 3) := by decide +kernel
theorem dX3_hasBit_39 : decode cX3_hasBit 39 = .ok (.ireturn, 1) := by decide +kernel
theorem dX3_countBits_0 : decode cX3_countBits 0 = .ok (.iconst 0, 1) := by decide +kernel
theorem dX3_countBits_1 : decode cX3_countBits 1 = .ok (.istore_n 2, 1) := by decide +kernel
theorem dX3_countBits_2 : decode cX3_countBits 2 = .ok (.iconst 0, 1) := by decide +kernel
theorem dX3_countBits_3 : decode cX3_countBits 3 = .ok (.istore_n 3, 1) := by decide +kernel
theorem dX3_countBits_4 : decode cX3_countBits 4 = .ok (.iload_n 3, 1) := by decide +kernel
theorem dX3_countBits_5 : decode cX3_countBits 5 = .ok (.aload_n 0, 1) := by decide +kernel
theorem dX3_countBits_6 : decode cX3_countBits 6 = .ok (.invokevirtual 80, 3) := by decide +kernel
theorem dX3_countBits_9 : decode cX3_countBits 9 = .ok (.if_icmp .ge 24, 3) := by decide +kernel
theorem dX3_countBits_12 : decode cX3_countBits 12 = .ok (.aload_n 0, 1) := by decide +kernel
theorem dX3_countBits_13 : decode cX3_countBits 13 = .ok (.iload_n 3, 1) := by decide +kernel
theorem dX3_countBits_14 : decode cX3_countBits 14 = .ok (.invokevirtual 86, 3) := by decide +kernel
theorem dX3_countBits_17 : decode cX3_countBits 17 = .ok (.iload_n 1, 1) := by decide +kernel
theorem dX3_countBits_18 : decode cX3_countBits 18 = .ok (.invokestatic 90, 3) := by decide +kernel
theorem dX3_countBits_21 : decode cX3_countBits 21 = .ok (.ifCond .eq 6, 3) := by decide +kernel
theorem dX3_countBits_24 : decode cX3_countBits 24 = .ok (.iinc 2 1, 3) := by decide +kernel
theorem dX3_countBits_27 : decode cX3_countBits 27 = .ok (.iinc 3 1, 3) := by decide +kernel
theorem dX3_countBits_30 : decode cX3_countBits 30 = .ok (.goto (-26), 3) := by decide +kernel
theorem dX3_countBits_33 : decode cX3_countBits 33 = .ok (.iload_n 2, 1) := by decide +kernel
theorem dX3_countBits_34 : decode cX3_countBits 34 = .ok (.ireturn, 1) := by decide +kernel
theorem dX3_giveBits_0 : decode cX3_giveBits 0 = .ok (.aload_n 0, 1) := by decide +kernel
theorem dX3_giveBits_1 : decode cX3_giveBits 1 = .ok (.iconst 0, 1) := by decide +kernel
theorem dX3_giveBits_2 : decode cX3_giveBits 2 = .ok (.putfield 40, 3) := by decide +kernel
theorem dX3_giveBits_5 : decode cX3_giveBits 5 = .ok (.aload_n 0, 1) := by decide +kernel
theorem dX3_giveBits_6 : decode cX3_giveBits 6 = .ok (.iconst 0, 1) := by decide +kernel
theorem dX3_giveBits_7 : decode cX3_giveBits 7 = .ok (.putfield 43, 3) := by decide +kernel
theorem dX3_giveBits_10 : decode cX3_giveBits 10 = .ok (.aload_n 0, 1) := by decide +kernel
theorem dX3_giveBits_11 : decode cX3_giveBits 11 = .ok (.iconst 0, 1) := by decide +kernel
theorem dX3_giveBits_12 : decode cX3_giveBits 12 = .ok (.putfield 46, 3) := by decide +kernel
theorem dX3_giveBits_15 : decode cX3_giveBits 15 = .ok (.iconst 0, 1) := by decide +kernel
theorem dX3_giveBits_16 : decode cX3_giveBits 16 = .ok (.istore_n 2, 1) := by decide +kernel
theorem dX3_giveBits_17 : decode cX3_giveBits 17 = .ok (.iload_n 2, 1) := by decide +kernel
theorem dX3_giveBits_18 : decode cX3_giveBits 18 = .ok (.aload_n 1, 1) := by decide +kernel
theorem dX3_giveBits_19 : decode cX3_giveBits 19 = .ok (.invokevirtual 80, 3) := by decide +kernel
theorem dX3_giveBits_22 : decode cX3_giveBits 22 = .ok (.if_icmp .ge 125, 3) := by decide +kernel
theorem dX3_giveBits_25 : decode cX3_giveBits 25 = .ok (.aload_n 1, 1) := by decide +kernel
theorem dX3_giveBits_26 : decode cX3_giveBits 26 = .ok (.iload_n 2, 1) := by decide +kernel
theorem dX3_giveBits_27 : decode cX3_giveBits 27 = .ok (.invokevirtual 86, 3) := by decide +kernel
theorem dX3_giveBits_30 : decode cX3_giveBits 30 = .ok (.istore_n 3, 1) := by decide +kernel
theorem dX3_giveBits_31 : decode cX3_giveBits 31 = .ok (.aload_n 0, 1) := by decide +kernel
theorem dX3_giveBits_32 : decode cX3_giveBits 32 = .ok (.getfield 9, 3) := by decide +kernel
theorem dX3_giveBits_35 : decode cX3_giveBits 35 = .ok (.iload_n 2, 1) := by decide +kernel
theorem dX3_giveBits_36 : decode cX3_giveBits 36 = .ok (.bipush (-9), 2) := by decide +kernel
theorem dX3_giveBits_38 : decode cX3_giveBits 38 = .ok (.invokestatic 94, 3) := by decide +kernel
theorem dX3_giveBits_41 : decode cX3_giveBits 41 = .ok (.iload_n 3, 1) := by decide +kernel
theorem dX3_giveBits_42 : decode cX3_giveBits 42 = .ok (.aload_n 0, 1) := by decide +kernel
theorem dX3_giveBits_43 : decode cX3_giveBits 43 = .ok (.getfield 33, 3) := by decide +kernel
theorem dX3_giveBits_46 : decode cX3_giveBits 46 = .ok (.invokestatic 90, 3) := by decide +kernel
theorem dX3_giveBits_49 : decode cX3_giveBits 49 = .ok (.ifCond .ne 6, 3) := by decide +kernel
theorem dX3_giveBits_52 : decode cX3_giveBits 52 = .ok (.goto 89, 3) := by decide +kernel
theorem dX3_giveBits_55 : decode cX3_giveBits 55 = .ok (.aload_n 0, 1) := by decide +kernel
theorem dX3_giveBits_56 : decode cX3_giveBits 56 = .ok (.aload_n 1, 1) := by decide +kernel
theorem dX3_giveBits_57 : decode cX3_giveBits 57 = .ok (.iload_n 2, 1) := by decide +kernel
theorem dX3_giveBits_58 : decode cX3_giveBits 58 = .ok (.invokevirtual 98, 3) := by decide +kernel
theorem dX3_giveBits_61 : decode cX3_giveBits 61 = .ok (.istore 4, 2) := by decide +kernel
theorem dX3_giveBits_63 : decode cX3_giveBits 63 = .ok (.aload_n 0, 1) := by decide +kernel
theorem dX3_giveBits_64 : decode cX3_giveBits 64 = .ok (.getfield 9, 3) := by decide +kernel
theorem dX3_giveBits_67 : decode cX3_giveBits 67 = .ok (.iload_n 2, 1) := by decide +kernel
theorem dX3_giveBits_68 : decode cX3_giveBits 68 = .ok (.iload 4, 2) := by decide +kernel
theorem dX3_giveBits_70 : decode cX3_giveBits 70 = .ok (.invokestatic 94, 3) := by decide +kernel
theorem dX3_giveBits_73 : decode cX3_giveBits 73 = .ok (.iload_n 3, 1) := by decide +kernel
theorem dX3_giveBits_74 : decode cX3_giveBits 74 = .ok (.bipush 123, 2) := by decide +kernel
theorem dX3_giveBits_76 : decode cX3_giveBits 76 = .ok (.if_icmp .ne 16, 3) := by decide +kernel
theorem dX3_giveBits_79 : decode cX3_giveBits 79 = .ok (.aload_n 0, 1) := by decide +kernel
theorem dX3_giveBits_80 : decode cX3_giveBits 80 = .ok (.dup, 1) := by decide +kernel
theorem dX3_giveBits_81 : decode cX3_giveBits 81 = .ok (.getfield 43, 3) := by decide +kernel
theorem dX3_giveBits_84 : decode cX3_giveBits 84 = .ok (.iconst 1, 1) := by decide +kernel
theorem dX3_giveBits_85 : decode cX3_giveBits 85 = .ok (.iload 4, 2) := by decide +kernel
theorem dX3_giveBits_87 : decode cX3_giveBits 87 = .ok (.ishl, 1) := by decide +kernel
theorem dX3_giveBits_88 : decode cX3_giveBits 88 = .ok (.ior, 1) := by decide +kernel
theorem dX3_giveBits_89 : decode cX3_giveBits 89 = .ok (.putfield 43, 3) := by decide +kernel
theorem dX3_giveBits_92 : decode cX3_giveBits 92 = .ok (.iload_n 3, 1) := by decide +kernel
theorem dX3_giveBits_93 : decode cX3_giveBits 93 = .ok (.invokestatic 74, 3) := by decide +kernel
theorem dX3_giveBits_96 : decode cX3_giveBits 96 = .ok (.ifCond .ne 16, 3) := by decide +kernel
theorem dX3_giveBits_99 : decode cX3_giveBits 99 = .ok (.aload_n 0, 1) := by decide +kernel
theorem dX3_giveBits_100 : decode cX3_giveBits 100 = .ok (.dup, 1) := by decide +kernel
theorem dX3_giveBits_101 : decode cX3_giveBits 101 = .ok (.getfield 46, 3) := by decide +kernel
theorem dX3_giveBits_104 : decode cX3_giveBits 104 = .ok (.iconst 1, 1) := by decide +kernel
theorem dX3_giveBits_105 : decode cX3_giveBits 105 = .ok (.iload 4, 2) := by decide +kernel
theorem dX3_giveBits_107 : decode cX3_giveBits 107 = .ok (.ishl, 1) := by decide +kernel
theorem dX3_giveBits_108 : decode cX3_giveBits 108 = .ok (.ior, 1) := by decide +kernel
theorem dX3_giveBits_109 : decode cX3_giveBits 109 = .ok (.putfield 46, 3) := by decide +kernel
theorem dX3_giveBits_112 : decode cX3_giveBits 112 = .ok (.iload_n 3, 1) := by decide +kernel
theorem dX3_giveBits_113 : decode cX3_giveBits 113 = .ok (.invokestatic 74, 3) := by decide +kernel
theorem dX3_giveBits_116 : decode cX3_giveBits 116 = .ok (.ifCond .eq 12, 3) := by decide +kernel
theorem dX3_giveBits_119 : decode cX3_giveBits 119 = .ok (.aload_n 0, 1) := by decide +kernel
theorem dX3_giveBits_120 : decode cX3_giveBits 120 = .ok (.getfield 33, 3) := by decide +kernel
theorem dX3_giveBits_123 : decode cX3_giveBits 123 = .ok (.bipush 8, 2) := by decide +kernel
theorem dX3_giveBits_125 : decode cX3_giveBits 125 = .ok (.if_icmp .ne 16, 3) := by decide +kernel
theorem dX3_giveBits_128 : decode cX3_giveBits 128 = .ok (.aload_n 0, 1) := by decide +kernel
theorem dX3_giveBits_129 : decode cX3_giveBits 129 = .ok (.dup, 1) := by decide +kernel
theorem dX3_giveBits_130 : decode cX3_giveBits 130 = .ok (.getfield 40, 3) := by decide +kernel
theorem dX3_giveBits_133 : decode cX3_giveBits 133 = .ok (.iconst 1, 1) := by decide +kernel
theorem dX3_giveBits_134 : decode cX3_giveBits 134 = .ok (.iload 4, 2) := by decide +kernel
theorem dX3_giveBits_136 : decode cX3_giveBits 136 = .ok (.ishl, 1) := by decide +kernel
theorem dX3_giveBits_137 : decode cX3_giveBits 137 = .ok (.ior, 1) := by decide +kernel
theorem dX3_giveBits_138 : decode cX3_giveBits 138 = .ok (.putfield 40, 3) := by decide +kernel
theorem dX3_giveBits_141 : decode cX3_giveBits 141 = .ok (.iinc 2 1, 3) := by decide +kernel
theorem dX3_giveBits_144 : decode cX3_giveBits 144 = .ok (.goto (-127), 3) := by decide +kernel
theorem dX3_giveBits_147 : decode cX3_giveBits 147 = .ok (.return_, 1) := by decide +kernel
theorem dX3_bitsBefore_0 : decode cX3_bitsBefore 0 = .ok (.iconst 0, 1) := by decide +kernel
theorem dX3_bitsBefore_1 : decode cX3_bitsBefore 1 = .ok (.istore_n 3, 1) := by decide +kernel
theorem dX3_bitsBefore_2 : decode cX3_bitsBefore 2 = .ok (.iconst 0, 1) := by decide +kernel
theorem dX3_bitsBefore_3 : decode cX3_bitsBefore 3 = .ok (.istore 4, 2) := by decide +kernel
theorem dX3_bitsBefore_5 : decode cX3_bitsBefore 5 = .ok (.iload 4, 2) := by decide +kernel
theorem dX3_bitsBefore_7 : decode cX3_bitsBefore 7 = .ok (.aload_n 1, 1) := by decide +kernel
theorem dX3_bitsBefore_8 : decode cX3_bitsBefore 8 = .ok (.invokevirtual 80, 3) := by decide +kernel
theorem dX3_bitsBefore_11 : decode cX3_bitsBefore 11 = .ok (.if_icmp .ge 65, 3) := by decide +kernel
theorem dX3_bitsBefore_14 : decode cX3_bitsBefore 14 = .ok (.aload_n 1, 1) := by decide +kernel
theorem dX3_bitsBefore_15 : decode cX3_bitsBefore 15 = .ok (.iload 4, 2) := by decide +kernel
theorem dX3_bitsBefore_17 : decode cX3_bitsBefore 17 = .ok (.invokevirtual 86, 3) := by decide +kernel
theorem dX3_bitsBefore_20 : decode cX3_bitsBefore 20 = .ok (.aload_n 0, 1) := by decide +kernel
theorem dX3_bitsBefore_21 : decode cX3_bitsBefore 21 = .ok (.getfield 33, 3) := by decide +kernel
theorem dX3_bitsBefore_24 : decode cX3_bitsBefore 24 = .ok (.invokestatic 90, 3) := by decide +kernel
theorem dX3_bitsBefore_27 : decode cX3_bitsBefore 27 = .ok (.ifCond .ne 6, 3) := by decide +kernel
theorem dX3_bitsBefore_30 : decode cX3_bitsBefore 30 = .ok (.goto 40, 3) := by decide +kernel
theorem dX3_bitsBefore_33 : decode cX3_bitsBefore 33 = .ok (.aload_n 1, 1) := by decide +kernel
theorem dX3_bitsBefore_34 : decode cX3_bitsBefore 34 = .ok (.iload 4, 2) := by decide +kernel
theorem dX3_bitsBefore_36 : decode cX3_bitsBefore 36 = .ok (.invokevirtual 101, 3) := by decide +kernel
theorem dX3_bitsBefore_39 : decode cX3_bitsBefore 39 = .ok (.aload_n 1, 1) := by decide +kernel
theorem dX3_bitsBefore_40 : decode cX3_bitsBefore 40 = .ok (.iload_n 2, 1) := by decide +kernel
theorem dX3_bitsBefore_41 : decode cX3_bitsBefore 41 = .ok (.invokevirtual 101, 3) := by decide +kernel
theorem dX3_bitsBefore_44 : decode cX3_bitsBefore 44 = .ok (.if_icmp .lt 23, 3) := by decide +kernel
theorem dX3_bitsBefore_47 : decode cX3_bitsBefore 47 = .ok (.aload_n 1, 1) := by decide +kernel
theorem dX3_bitsBefore_48 : decode cX3_bitsBefore 48 = .ok (.iload 4, 2) := by decide +kernel
theorem dX3_bitsBefore_50 : decode cX3_bitsBefore 50 = .ok (.invokevirtual 101, 3) := by decide +kernel
theorem dX3_bitsBefore_53 : decode cX3_bitsBefore 53 = .ok (.aload_n 1, 1) := by decide +kernel
theorem dX3_bitsBefore_54 : decode cX3_bitsBefore 54 = .ok (.iload_n 2, 1) := by decide +kernel
theorem dX3_bitsBefore_55 : decode cX3_bitsBefore 55 = .ok (.invokevirtual 101, 3) := by decide +kernel
theorem dX3_bitsBefore_58 : decode cX3_bitsBefore 58 = .ok (.if_icmp .ne 12, 3) := by decide +kernel
theorem dX3_bitsBefore_61 : decode cX3_bitsBefore 61 = .ok (.iload 4, 2) := by decide +kernel
theorem dX3_bitsBefore_63 : decode cX3_bitsBefore 63 = .ok (.iload_n 2, 1) := by decide +kernel
theorem dX3_bitsBefore_64 : decode cX3_bitsBefore 64 = .ok (.if_icmp .ge 6, 3) := by decide +kernel
theorem dX3_bitsBefore_67 : decode cX3_bitsBefore 67 = .ok (.iinc 3 1, 3) := by decide +kernel
theorem dX3_bitsBefore_70 : decode cX3_bitsBefore 70 = .ok (.iinc 4 1, 3) := by decide +kernel
theorem dX3_bitsBefore_73 : decode cX3_bitsBefore 73 = .ok (.goto (-68), 3) := by decide +kernel
theorem dX3_bitsBefore_76 : decode cX3_bitsBefore 76 = .ok (.iload_n 3, 1) := by decide +kernel
theorem dX3_bitsBefore_77 : decode cX3_bitsBefore 77 = .ok (.ireturn, 1) := by decide +kernel
theorem dX3_weigh_0 : decode cX3_weigh 0 = .ok (.iconst 0, 1) := by decide +kernel
theorem dX3_weigh_1 : decode cX3_weigh 1 = .ok (.istore_n 3, 1) := by decide +kernel
theorem dX3_weigh_2 : decode cX3_weigh 2 = .ok (.iconst 0, 1) := by decide +kernel
theorem dX3_weigh_3 : decode cX3_weigh 3 = .ok (.istore 4, 2) := by decide +kernel
theorem dX3_weigh_5 : decode cX3_weigh 5 = .ok (.iload 4, 2) := by decide +kernel
theorem dX3_weigh_7 : decode cX3_weigh 7 = .ok (.aload_n 1, 1) := by decide +kernel
theorem dX3_weigh_8 : decode cX3_weigh 8 = .ok (.invokevirtual 80, 3) := by decide +kernel
theorem dX3_weigh_11 : decode cX3_weigh 11 = .ok (.if_icmp .ge 121, 3) := by decide +kernel
theorem dX3_weigh_14 : decode cX3_weigh 14 = .ok (.aload_n 1, 1) := by decide +kernel
theorem dX3_weigh_15 : decode cX3_weigh 15 = .ok (.iload 4, 2) := by decide +kernel
theorem dX3_weigh_17 : decode cX3_weigh 17 = .ok (.invokevirtual 86, 3) := by decide +kernel
theorem dX3_weigh_20 : decode cX3_weigh 20 = .ok (.istore 5, 2) := by decide +kernel
theorem dX3_weigh_22 : decode cX3_weigh 22 = .ok (.aload_n 0, 1) := by decide +kernel
theorem dX3_weigh_23 : decode cX3_weigh 23 = .ok (.getfield 9, 3) := by decide +kernel
theorem dX3_weigh_26 : decode cX3_weigh 26 = .ok (.iload 4, 2) := by decide +kernel
theorem dX3_weigh_28 : decode cX3_weigh 28 = .ok (.invokestatic 104, 3) := by decide +kernel
theorem dX3_weigh_31 : decode cX3_weigh 31 = .ok (.istore 6, 2) := by decide +kernel
theorem dX3_weigh_33 : decode cX3_weigh 33 = .ok (.aload_n 0, 1) := by decide +kernel
theorem dX3_weigh_34 : decode cX3_weigh 34 = .ok (.getfield 15, 3) := by decide +kernel
theorem dX3_weigh_37 : decode cX3_weigh 37 = .ok (.aload_n 1, 1) := by decide +kernel
theorem dX3_weigh_38 : decode cX3_weigh 38 = .ok (.iload 4, 2) := by decide +kernel
theorem dX3_weigh_40 : decode cX3_weigh 40 = .ok (.invokevirtual 108, 3) := by decide +kernel
theorem dX3_weigh_43 : decode cX3_weigh 43 = .ok (.invokestatic 104, 3) := by decide +kernel
theorem dX3_weigh_46 : decode cX3_weigh 46 = .ok (.istore 7, 2) := by decide +kernel
theorem dX3_weigh_48 : decode cX3_weigh 48 = .ok (.iload 5, 2) := by decide +kernel
theorem dX3_weigh_50 : decode cX3_weigh 50 = .ok (.iload 7, 2) := by decide +kernel
theorem dX3_weigh_52 : decode cX3_weigh 52 = .ok (.aload_n 0, 1) := by decide +kernel
theorem dX3_weigh_53 : decode cX3_weigh 53 = .ok (.getfield 15, 3) := by decide +kernel
theorem dX3_weigh_56 : decode cX3_weigh 56 = .ok (.aload_n 1, 1) := by decide +kernel
theorem dX3_weigh_57 : decode cX3_weigh 57 = .ok (.iload 4, 2) := by decide +kernel
theorem dX3_weigh_59 : decode cX3_weigh 59 = .ok (.invokevirtual 111, 3) := by decide +kernel
theorem dX3_weigh_62 : decode cX3_weigh 62 = .ok (.invokestatic 104, 3) := by decide +kernel
theorem dX3_weigh_65 : decode cX3_weigh 65 = .ok (.iconst 1, 1) := by decide +kernel
theorem dX3_weigh_66 : decode cX3_weigh 66 = .ok (.invokestatic 114, 3) := by decide +kernel
theorem dX3_weigh_69 : decode cX3_weigh 69 = .ok (.istore 8, 2) := by decide +kernel
theorem dX3_weigh_71 : decode cX3_weigh 71 = .ok (.aload_n 0, 1) := by decide +kernel
theorem dX3_weigh_72 : decode cX3_weigh 72 = .ok (.getfield 15, 3) := by decide +kernel
theorem dX3_weigh_75 : decode cX3_weigh 75 = .ok (.iload 4, 2) := by decide +kernel
theorem dX3_weigh_77 : decode cX3_weigh 77 = .ok (.iload 6, 2) := by decide +kernel
theorem dX3_weigh_79 : decode cX3_weigh 79 = .ok (.bipush (-9), 2) := by decide +kernel
theorem dX3_weigh_81 : decode cX3_weigh 81 = .ok (.if_icmp .ne 8, 3) := by decide +kernel
theorem dX3_weigh_84 : decode cX3_weigh 84 = .ok (.iload 8, 2) := by decide +kernel
theorem dX3_weigh_86 : decode cX3_weigh 86 = .ok (.goto 9, 3) := by decide +kernel
theorem dX3_weigh_89 : decode cX3_weigh 89 = .ok (.iload_n 2, 1) := by decide +kernel
theorem dX3_weigh_90 : decode cX3_weigh 90 = .ok (.iload 6, 2) := by decide +kernel
theorem dX3_weigh_92 : decode cX3_weigh 92 = .ok (.invokestatic 118, 3) := by decide +kernel
theorem dX3_weigh_95 : decode cX3_weigh 95 = .ok (.invokestatic 94, 3) := by decide +kernel
theorem dX3_weigh_98 : decode cX3_weigh 98 = .ok (.iload 6, 2) := by decide +kernel
theorem dX3_weigh_100 : decode cX3_weigh 100 = .ok (.bipush (-9), 2) := by decide +kernel
theorem dX3_weigh_102 : decode cX3_weigh 102 = .ok (.if_icmp .eq 24, 3) := by decide +kernel
theorem dX3_weigh_105 : decode cX3_weigh 105 = .ok (.iload_n 3, 1) := by decide +kernel
theorem dX3_weigh_106 : decode cX3_weigh 106 = .ok (.iload 5, 2) := by decide +kernel
theorem dX3_weigh_108 : decode cX3_weigh 108 = .ok (.iload 7, 2) := by decide +kernel
theorem dX3_weigh_110 : decode cX3_weigh 110 = .ok (.iload 8, 2) := by decide +kernel
theorem dX3_weigh_112 : decode cX3_weigh 112 = .ok (.iload_n 2, 1) := by decide +kernel
theorem dX3_weigh_113 : decode cX3_weigh 113 = .ok (.iload 6, 2) := by decide +kernel
theorem dX3_weigh_115 : decode cX3_weigh 115 = .ok (.invokestatic 118, 3) := by decide +kernel
theorem dX3_weigh_118 : decode cX3_weigh 118 = .ok (.invokestatic 122, 3) := by decide +kernel
theorem dX3_weigh_121 : decode cX3_weigh 121 = .ok (.iload 6, 2) := by decide +kernel
theorem dX3_weigh_123 : decode cX3_weigh 123 = .ok (.ishl, 1) := by decide +kernel
theorem dX3_weigh_124 : decode cX3_weigh 124 = .ok (.ior, 1) := by decide +kernel
theorem dX3_weigh_125 : decode cX3_weigh 125 = .ok (.istore_n 3, 1) := by decide +kernel
theorem dX3_weigh_126 : decode cX3_weigh 126 = .ok (.iinc 4 1, 3) := by decide +kernel
theorem dX3_weigh_129 : decode cX3_weigh 129 = .ok (.goto (-124), 3) := by decide +kernel
theorem dX3_weigh_132 : decode cX3_weigh 132 = .ok (.aload_n 0, 1) := by decide +kernel
theorem dX3_weigh_133 : decode cX3_weigh 133 = .ok (.getfield 18, 3) := by decide +kernel
theorem dX3_weigh_136 : decode cX3_weigh 136 = .ok (.iload_n 2, 1) := by decide +kernel
theorem dX3_weigh_137 : decode cX3_weigh 137 = .ok (.iload_n 2, 1) := by decide +kernel
theorem dX3_weigh_138 : decode cX3_weigh 138 = .ok (.aload_n 0, 1) := by decide +kernel
theorem dX3_weigh_139 : decode cX3_weigh 139 = .ok (.getfield 43, 3) := by decide +kernel
theorem dX3_weigh_142 : decode cX3_weigh 142 = .ok (.ixor, 1) := by decide +kernel
theorem dX3_weigh_143 : decode cX3_weigh 143 = .ok (.aload_n 0, 1) := by decide +kernel
theorem dX3_weigh_144 : decode cX3_weigh 144 = .ok (.getfield 40, 3) := by decide +kernel
theorem dX3_weigh_147 : decode cX3_weigh 147 = .ok (.iand, 1) := by decide +kernel
theorem dX3_weigh_148 : decode cX3_weigh 148 = .ok (.invokestatic 94, 3) := by decide +kernel
theorem dX3_weigh_151 : decode cX3_weigh 151 = .ok (.aload_n 0, 1) := by decide +kernel
theorem dX3_weigh_152 : decode cX3_weigh 152 = .ok (.getfield 21, 3) := by decide +kernel
theorem dX3_weigh_155 : decode cX3_weigh 155 = .ok (.iload_n 2, 1) := by decide +kernel
theorem dX3_weigh_156 : decode cX3_weigh 156 = .ok (.iload_n 3, 1) := by decide +kernel
theorem dX3_weigh_157 : decode cX3_weigh 157 = .ok (.invokestatic 94, 3) := by decide +kernel
theorem dX3_weigh_160 : decode cX3_weigh 160 = .ok (.aload_n 0, 1) := by decide +kernel
theorem dX3_weigh_161 : decode cX3_weigh 161 = .ok (.getfield 24, 3) := by decide +kernel
theorem dX3_weigh_164 : decode cX3_weigh 164 = .ok (.iload_n 2, 1) := by decide +kernel
theorem dX3_weigh_165 : decode cX3_weigh 165 = .ok (.aload_n 0, 1) := by decide +kernel
theorem dX3_weigh_166 : decode cX3_weigh 166 = .ok (.getfield 15, 3) := by decide +kernel
theorem dX3_weigh_169 : decode cX3_weigh 169 = .ok (.aload_n 1, 1) := by decide +kernel
theorem dX3_weigh_170 : decode cX3_weigh 170 = .ok (.invokevirtual 80, 3) := by decide +kernel
theorem dX3_weigh_173 : decode cX3_weigh 173 = .ok (.iconst 1, 1) := by decide +kernel
theorem dX3_weigh_174 : decode cX3_weigh 174 = .ok (.isub, 1) := by decide +kernel
theorem dX3_weigh_175 : decode cX3_weigh 175 = .ok (.invokestatic 104, 3) := by decide +kernel
theorem dX3_weigh_178 : decode cX3_weigh 178 = .ok (.invokestatic 94, 3) := by decide +kernel
theorem dX3_weigh_181 : decode cX3_weigh 181 = .ok (.return_, 1) := by decide +kernel
theorem dX3_bearing_0 : decode cX3_bearing 0 = .ok (.iload_n 0, 1) := by decide +kernel
theorem dX3_bearing_1 : decode cX3_bearing 1 = .ok (.bipush 91, 2) := by decide +kernel
theorem dX3_bearing_3 : decode cX3_bearing 3 = .ok (.if_icmp .ne 5, 3) := by decide +kernel
theorem dX3_bearing_6 : decode cX3_bearing 6 = .ok (.iload_n 1, 1) := by decide +kernel
theorem dX3_bearing_7 : decode cX3_bearing 7 = .ok (.ireturn, 1) := by decide +kernel
theorem dX3_bearing_8 : decode cX3_bearing 8 = .ok (.iload_n 0, 1) := by decide +kernel
theorem dX3_bearing_9 : decode cX3_bearing 9 = .ok (.bipush 123, 2) := by decide +kernel
theorem dX3_bearing_11 : decode cX3_bearing 11 = .ok (.if_icmp .ne 7, 3) := by decide +kernel
theorem dX3_bearing_14 : decode cX3_bearing 14 = .ok (.iconst 1, 1) := by decide +kernel
theorem dX3_bearing_15 : decode cX3_bearing 15 = .ok (.iload_n 1, 1) := by decide +kernel
theorem dX3_bearing_16 : decode cX3_bearing 16 = .ok (.isub, 1) := by decide +kernel
theorem dX3_bearing_17 : decode cX3_bearing 17 = .ok (.ireturn, 1) := by decide +kernel
theorem dX3_bearing_18 : decode cX3_bearing 18 = .ok (.iload_n 0, 1) := by decide +kernel
theorem dX3_bearing_19 : decode cX3_bearing 19 = .ok (.invokestatic 74, 3) := by decide +kernel
theorem dX3_bearing_22 : decode cX3_bearing 22 = .ok (.ifCond .eq 7, 3) := by decide +kernel
theorem dX3_bearing_25 : decode cX3_bearing 25 = .ok (.iload_n 3, 1) := by decide +kernel
theorem dX3_bearing_26 : decode cX3_bearing 26 = .ok (.goto 4, 3) := by decide +kernel
theorem dX3_bearing_29 : decode cX3_bearing 29 = .ok (.iload_n 2, 1) := by decide +kernel
theorem dX3_bearing_30 : decode cX3_bearing 30 = .ok (.ireturn, 1) := by decide +kernel
theorem dX3_maySee_0 : decode cX3_maySee 0 = .ok (.aload_n 0, 1) := by decide +kernel
theorem dX3_maySee_1 : decode cX3_maySee 1 = .ok (.getfield 18, 3) := by decide +kernel
theorem dX3_maySee_4 : decode cX3_maySee 4 = .ok (.iload_n 1, 1) := by decide +kernel
theorem dX3_maySee_5 : decode cX3_maySee 5 = .ok (.invokestatic 104, 3) := by decide +kernel
theorem dX3_maySee_8 : decode cX3_maySee 8 = .ok (.aload_n 0, 1) := by decide +kernel
theorem dX3_maySee_9 : decode cX3_maySee 9 = .ok (.getfield 21, 3) := by decide +kernel
theorem dX3_maySee_12 : decode cX3_maySee 12 = .ok (.iload_n 2, 1) := by decide +kernel
theorem dX3_maySee_13 : decode cX3_maySee 13 = .ok (.invokestatic 104, 3) := by decide +kernel
theorem dX3_maySee_16 : decode cX3_maySee 16 = .ok (.invokestatic 125, 3) := by decide +kernel
theorem dX3_maySee_19 : decode cX3_maySee 19 = .ok (.ifCond .ne 5, 3) := by decide +kernel
theorem dX3_maySee_22 : decode cX3_maySee 22 = .ok (.iconst 0, 1) := by decide +kernel
theorem dX3_maySee_23 : decode cX3_maySee 23 = .ok (.ireturn, 1) := by decide +kernel
theorem dX3_maySee_24 : decode cX3_maySee 24 = .ok (.aload_n 0, 1) := by decide +kernel
theorem dX3_maySee_25 : decode cX3_maySee 25 = .ok (.getfield 33, 3) := by decide +kernel
theorem dX3_maySee_28 : decode cX3_maySee 28 = .ok (.tableswitch 127 3 8 #[40, 40, 60, 60, 80, 40], 40) := by decide +kernel
theorem dX3_maySee_68 : decode cX3_maySee 68 = .ok (.aload_n 0, 1) := by decide +kernel
theorem dX3_maySee_69 : decode cX3_maySee 69 = .ok (.getfield 18, 3) := by decide +kernel
theorem dX3_maySee_72 : decode cX3_maySee 72 = .ok (.iload_n 1, 1) := by decide +kernel
theorem dX3_maySee_73 : decode cX3_maySee 73 = .ok (.invokestatic 104, 3) := by decide +kernel
theorem dX3_maySee_76 : decode cX3_maySee 76 = .ok (.aload_n 0, 1) := by decide +kernel
theorem dX3_maySee_77 : decode cX3_maySee 77 = .ok (.getfield 18, 3) := by decide +kernel
theorem dX3_maySee_80 : decode cX3_maySee 80 = .ok (.iload_n 2, 1) := by decide +kernel
theorem dX3_maySee_81 : decode cX3_maySee 81 = .ok (.invokestatic 104, 3) := by decide +kernel
theorem dX3_maySee_84 : decode cX3_maySee 84 = .ok (.invokestatic 125, 3) := by decide +kernel
theorem dX3_maySee_87 : decode cX3_maySee 87 = .ok (.ireturn, 1) := by decide +kernel
theorem dX3_maySee_88 : decode cX3_maySee 88 = .ok (.aload_n 0, 1) := by decide +kernel
theorem dX3_maySee_89 : decode cX3_maySee 89 = .ok (.getfield 18, 3) := by decide +kernel
theorem dX3_maySee_92 : decode cX3_maySee 92 = .ok (.iload_n 2, 1) := by decide +kernel
theorem dX3_maySee_93 : decode cX3_maySee 93 = .ok (.invokestatic 104, 3) := by decide +kernel
theorem dX3_maySee_96 : decode cX3_maySee 96 = .ok (.aload_n 0, 1) := by decide +kernel
theorem dX3_maySee_97 : decode cX3_maySee 97 = .ok (.getfield 21, 3) := by decide +kernel
theorem dX3_maySee_100 : decode cX3_maySee 100 = .ok (.iload_n 1, 1) := by decide +kernel
theorem dX3_maySee_101 : decode cX3_maySee 101 = .ok (.invokestatic 104, 3) := by decide +kernel
theorem dX3_maySee_104 : decode cX3_maySee 104 = .ok (.invokestatic 125, 3) := by decide +kernel
theorem dX3_maySee_107 : decode cX3_maySee 107 = .ok (.ireturn, 1) := by decide +kernel
theorem dX3_maySee_108 : decode cX3_maySee 108 = .ok (.aload_n 0, 1) := by decide +kernel
theorem dX3_maySee_109 : decode cX3_maySee 109 = .ok (.getfield 18, 3) := by decide +kernel
theorem dX3_maySee_112 : decode cX3_maySee 112 = .ok (.iload_n 2, 1) := by decide +kernel
theorem dX3_maySee_113 : decode cX3_maySee 113 = .ok (.invokestatic 104, 3) := by decide +kernel
theorem dX3_maySee_116 : decode cX3_maySee 116 = .ok (.aload_n 0, 1) := by decide +kernel
theorem dX3_maySee_117 : decode cX3_maySee 117 = .ok (.getfield 21, 3) := by decide +kernel
theorem dX3_maySee_120 : decode cX3_maySee 120 = .ok (.iload_n 1, 1) := by decide +kernel
theorem dX3_maySee_121 : decode cX3_maySee 121 = .ok (.invokestatic 104, 3) := by decide +kernel
theorem dX3_maySee_124 : decode cX3_maySee 124 = .ok (.invokestatic 125, 3) := by decide +kernel
theorem dX3_maySee_127 : decode cX3_maySee 127 = .ok (.ifCond .eq 26, 3) := by decide +kernel
theorem dX3_maySee_130 : decode cX3_maySee 130 = .ok (.aload_n 0, 1) := by decide +kernel
theorem dX3_maySee_131 : decode cX3_maySee 131 = .ok (.getfield 18, 3) := by decide +kernel
theorem dX3_maySee_134 : decode cX3_maySee 134 = .ok (.iload_n 1, 1) := by decide +kernel
theorem dX3_maySee_135 : decode cX3_maySee 135 = .ok (.invokestatic 104, 3) := by decide +kernel
theorem dX3_maySee_138 : decode cX3_maySee 138 = .ok (.aload_n 0, 1) := by decide +kernel
theorem dX3_maySee_139 : decode cX3_maySee 139 = .ok (.getfield 18, 3) := by decide +kernel
theorem dX3_maySee_142 : decode cX3_maySee 142 = .ok (.iload_n 2, 1) := by decide +kernel
theorem dX3_maySee_143 : decode cX3_maySee 143 = .ok (.invokestatic 104, 3) := by decide +kernel
theorem dX3_maySee_146 : decode cX3_maySee 146 = .ok (.if_icmp .ne 7, 3) := by decide +kernel
theorem dX3_maySee_149 : decode cX3_maySee 149 = .ok (.iconst 1, 1) := by decide +kernel
theorem dX3_maySee_150 : decode cX3_maySee 150 = .ok (.goto 4, 3) := by decide +kernel
theorem dX3_maySee_153 : decode cX3_maySee 153 = .ok (.iconst 0, 1) := by decide +kernel
theorem dX3_maySee_154 : decode cX3_maySee 154 = .ok (.ireturn, 1) := by decide +kernel
theorem dX3_maySee_155 : decode cX3_maySee 155 = .ok (.iconst 1, 1) := by decide +kernel
theorem dX3_maySee_156 : decode cX3_maySee 156 = .ok (.ireturn, 1) := by decide +kernel
theorem dX3_isFit_0 : decode cX3_isFit 0 = .ok (.aload_n 0, 1) := by decide +kernel
theorem dX3_isFit_1 : decode cX3_isFit 1 = .ok (.getfield 33, 3) := by decide +kernel
theorem dX3_isFit_4 : decode cX3_isFit 4 = .ok (.tableswitch 51 2 8 #[44, 51, 44, 51, 44, 44, 44], 44) := by decide +kernel
theorem dX3_isFit_48 : decode cX3_isFit 48 = .ok (.aload_n 0, 1) := by decide +kernel
theorem dX3_isFit_49 : decode cX3_isFit 49 = .ok (.iload_n 1, 1) := by decide +kernel
theorem dX3_isFit_50 : decode cX3_isFit 50 = .ok (.iload_n 1, 1) := by decide +kernel
theorem dX3_isFit_51 : decode cX3_isFit 51 = .ok (.invokevirtual 128, 3) := by decide +kernel
theorem dX3_isFit_54 : decode cX3_isFit 54 = .ok (.ireturn, 1) := by decide +kernel
theorem dX3_isFit_55 : decode cX3_isFit 55 = .ok (.iconst 1, 1) := by decide +kernel
theorem dX3_isFit_56 : decode cX3_isFit 56 = .ok (.ireturn, 1) := by decide +kernel
theorem dX3_beginWithFit_0 : decode cX3_beginWithFit 0 = .ok (.aload_n 0, 1) := by decide +kernel
theorem dX3_beginWithFit_1 : decode cX3_beginWithFit 1 = .ok (.iconst 0, 1) := by decide +kernel
theorem dX3_beginWithFit_2 : decode cX3_beginWithFit 2 = .ok (.putfield 52, 3) := by decide +kernel
theorem dX3_beginWithFit_5 : decode cX3_beginWithFit 5 = .ok (.iconst 0, 1) := by decide +kernel
theorem dX3_beginWithFit_6 : decode cX3_beginWithFit 6 = .ok (.istore_n 1, 1) := by decide +kernel
theorem dX3_beginWithFit_7 : decode cX3_beginWithFit 7 = .ok (.iload_n 1, 1) := by decide +kernel
theorem dX3_beginWithFit_8 : decode cX3_beginWithFit 8 = .ok (.aload_n 0, 1) := by decide +kernel
theorem dX3_beginWithFit_9 : decode cX3_beginWithFit 9 = .ok (.getfield 37, 3) := by decide +kernel
theorem dX3_beginWithFit_12 : decode cX3_beginWithFit 12 = .ok (.if_icmp .ge 31, 3) := by decide +kernel
theorem dX3_beginWithFit_15 : decode cX3_beginWithFit 15 = .ok (.aload_n 0, 1) := by decide +kernel
theorem dX3_beginWithFit_16 : decode cX3_beginWithFit 16 = .ok (.getfield 27, 3) := by decide +kernel
theorem dX3_beginWithFit_19 : decode cX3_beginWithFit 19 = .ok (.iload_n 1, 1) := by decide +kernel
theorem dX3_beginWithFit_20 : decode cX3_beginWithFit 20 = .ok (.iconst 0, 1) := by decide +kernel
theorem dX3_beginWithFit_21 : decode cX3_beginWithFit 21 = .ok (.invokestatic 94, 3) := by decide +kernel
theorem dX3_beginWithFit_24 : decode cX3_beginWithFit 24 = .ok (.aload_n 0, 1) := by decide +kernel
theorem dX3_beginWithFit_25 : decode cX3_beginWithFit 25 = .ok (.iload_n 1, 1) := by decide +kernel
theorem dX3_beginWithFit_26 : decode cX3_beginWithFit 26 = .ok (.invokevirtual 131, 3) := by decide +kernel
theorem dX3_beginWithFit_29 : decode cX3_beginWithFit 29 = .ok (.ifCond .eq 8, 3) := by decide +kernel
theorem dX3_beginWithFit_32 : decode cX3_beginWithFit 32 = .ok (.aload_n 0, 1) := by decide +kernel
theorem dX3_beginWithFit_33 : decode cX3_beginWithFit 33 = .ok (.iload_n 1, 1) := by decide +kernel
theorem dX3_beginWithFit_34 : decode cX3_beginWithFit 34 = .ok (.invokevirtual 134, 3) := by decide +kernel
theorem dX3_beginWithFit_37 : decode cX3_beginWithFit 37 = .ok (.iinc 1 1, 3) := by decide +kernel
theorem dX3_beginWithFit_40 : decode cX3_beginWithFit 40 = .ok (.goto (-33), 3) := by decide +kernel
theorem dX3_beginWithFit_43 : decode cX3_beginWithFit 43 = .ok (.return_, 1) := by decide +kernel
theorem dX3_stay_0 : decode cX3_stay 0 = .ok (.aload_n 0, 1) := by decide +kernel
theorem dX3_stay_1 : decode cX3_stay 1 = .ok (.getfield 27, 3) := by decide +kernel
theorem dX3_stay_4 : decode cX3_stay 4 = .ok (.iload_n 1, 1) := by decide +kernel
theorem dX3_stay_5 : decode cX3_stay 5 = .ok (.bipush (-9), 2) := by decide +kernel
theorem dX3_stay_7 : decode cX3_stay 7 = .ok (.invokestatic 94, 3) := by decide +kernel
theorem dX3_stay_10 : decode cX3_stay 10 = .ok (.aload_n 0, 1) := by decide +kernel
theorem dX3_stay_11 : decode cX3_stay 11 = .ok (.getfield 30, 3) := by decide +kernel
theorem dX3_stay_14 : decode cX3_stay 14 = .ok (.aload_n 0, 1) := by decide +kernel
theorem dX3_stay_15 : decode cX3_stay 15 = .ok (.getfield 52, 3) := by decide +kernel
theorem dX3_stay_18 : decode cX3_stay 18 = .ok (.iload_n 1, 1) := by decide +kernel
theorem dX3_stay_19 : decode cX3_stay 19 = .ok (.invokestatic 94, 3) := by decide +kernel
theorem dX3_stay_22 : decode cX3_stay 22 = .ok (.aload_n 0, 1) := by decide +kernel
theorem dX3_stay_23 : decode cX3_stay 23 = .ok (.dup, 1) := by decide +kernel
theorem dX3_stay_24 : decode cX3_stay 24 = .ok (.getfield 52, 3) := by decide +kernel
theorem dX3_stay_27 : decode cX3_stay 27 = .ok (.iconst 1, 1) := by decide +kernel
theorem dX3_stay_28 : decode cX3_stay 28 = .ok (.iadd, 1) := by decide +kernel
theorem dX3_stay_29 : decode cX3_stay 29 = .ok (.putfield 52, 3) := by decide +kernel
theorem dX3_stay_32 : decode cX3_stay 32 = .ok (.return_, 1) := by decide +kernel
theorem dX3_anyFall_0 : decode cX3_anyFall 0 = .ok (.aload_n 0, 1) := by decide +kernel
theorem dX3_anyFall_1 : decode cX3_anyFall 1 = .ok (.getfield 52, 3) := by decide +kernel
theorem dX3_anyFall_4 : decode cX3_anyFall 4 = .ok (.istore_n 2, 1) := by decide +kernel
theorem dX3_anyFall_5 : decode cX3_anyFall 5 = .ok (.iconst 0, 1) := by decide +kernel
theorem dX3_anyFall_6 : decode cX3_anyFall 6 = .ok (.istore_n 3, 1) := by decide +kernel
theorem dX3_anyFall_7 : decode cX3_anyFall 7 = .ok (.iload_n 3, 1) := by decide +kernel
theorem dX3_anyFall_8 : decode cX3_anyFall 8 = .ok (.iload_n 2, 1) := by decide +kernel
theorem dX3_anyFall_9 : decode cX3_anyFall 9 = .ok (.if_icmp .ge 38, 3) := by decide +kernel
theorem dX3_anyFall_12 : decode cX3_anyFall 12 = .ok (.aload_n 0, 1) := by decide +kernel
theorem dX3_anyFall_13 : decode cX3_anyFall 13 = .ok (.getfield 30, 3) := by decide +kernel
theorem dX3_anyFall_16 : decode cX3_anyFall 16 = .ok (.iload_n 3, 1) := by decide +kernel
theorem dX3_anyFall_17 : decode cX3_anyFall 17 = .ok (.invokestatic 104, 3) := by decide +kernel
theorem dX3_anyFall_20 : decode cX3_anyFall 20 = .ok (.istore 4, 2) := by decide +kernel
theorem dX3_anyFall_22 : decode cX3_anyFall 22 = .ok (.aload_n 0, 1) := by decide +kernel
theorem dX3_anyFall_23 : decode cX3_anyFall 23 = .ok (.iload 4, 2) := by decide +kernel
theorem dX3_anyFall_25 : decode cX3_anyFall 25 = .ok (.invokevirtual 138, 3) := by decide +kernel
theorem dX3_anyFall_28 : decode cX3_anyFall 28 = .ok (.ifCond .eq 13, 3) := by decide +kernel
theorem dX3_anyFall_31 : decode cX3_anyFall 31 = .ok (.aload_n 0, 1) := by decide +kernel
theorem dX3_anyFall_32 : decode cX3_anyFall 32 = .ok (.getfield 27, 3) := by decide +kernel
theorem dX3_anyFall_35 : decode cX3_anyFall 35 = .ok (.iload 4, 2) := by decide +kernel
theorem dX3_anyFall_37 : decode cX3_anyFall 37 = .ok (.iload_n 1, 1) := by decide +kernel
theorem dX3_anyFall_38 : decode cX3_anyFall 38 = .ok (.invokestatic 94, 3) := by decide +kernel
theorem dX3_anyFall_41 : decode cX3_anyFall 41 = .ok (.iinc 3 1, 3) := by decide +kernel
theorem dX3_anyFall_44 : decode cX3_anyFall 44 = .ok (.goto (-37), 3) := by decide +kernel
theorem dX3_anyFall_47 : decode cX3_anyFall 47 = .ok (.aload_n 0, 1) := by decide +kernel
theorem dX3_anyFall_48 : decode cX3_anyFall 48 = .ok (.iconst 0, 1) := by decide +kernel
theorem dX3_anyFall_49 : decode cX3_anyFall 49 = .ok (.putfield 52, 3) := by decide +kernel
theorem dX3_anyFall_52 : decode cX3_anyFall 52 = .ok (.iconst 0, 1) := by decide +kernel
theorem dX3_anyFall_53 : decode cX3_anyFall 53 = .ok (.istore_n 3, 1) := by decide +kernel
theorem dX3_anyFall_54 : decode cX3_anyFall 54 = .ok (.iload_n 3, 1) := by decide +kernel
theorem dX3_anyFall_55 : decode cX3_anyFall 55 = .ok (.iload_n 2, 1) := by decide +kernel
theorem dX3_anyFall_56 : decode cX3_anyFall 56 = .ok (.if_icmp .ge 39, 3) := by decide +kernel
theorem dX3_anyFall_59 : decode cX3_anyFall 59 = .ok (.aload_n 0, 1) := by decide +kernel
theorem dX3_anyFall_60 : decode cX3_anyFall 60 = .ok (.getfield 30, 3) := by decide +kernel
theorem dX3_anyFall_63 : decode cX3_anyFall 63 = .ok (.iload_n 3, 1) := by decide +kernel
theorem dX3_anyFall_64 : decode cX3_anyFall 64 = .ok (.invokestatic 104, 3) := by decide +kernel
theorem dX3_anyFall_67 : decode cX3_anyFall 67 = .ok (.istore 4, 2) := by decide +kernel
theorem dX3_anyFall_69 : decode cX3_anyFall 69 = .ok (.aload_n 0, 1) := by decide +kernel
theorem dX3_anyFall_70 : decode cX3_anyFall 70 = .ok (.getfield 27, 3) := by decide +kernel
theorem dX3_anyFall_73 : decode cX3_anyFall 73 = .ok (.iload 4, 2) := by decide +kernel
theorem dX3_anyFall_75 : decode cX3_anyFall 75 = .ok (.invokestatic 104, 3) := by decide +kernel
theorem dX3_anyFall_78 : decode cX3_anyFall 78 = .ok (.bipush (-9), 2) := by decide +kernel
theorem dX3_anyFall_80 : decode cX3_anyFall 80 = .ok (.if_icmp .ne 9, 3) := by decide +kernel
theorem dX3_anyFall_83 : decode cX3_anyFall 83 = .ok (.aload_n 0, 1) := by decide +kernel
theorem dX3_anyFall_84 : decode cX3_anyFall 84 = .ok (.iload 4, 2) := by decide +kernel
theorem dX3_anyFall_86 : decode cX3_anyFall 86 = .ok (.invokevirtual 134, 3) := by decide +kernel
theorem dX3_anyFall_89 : decode cX3_anyFall 89 = .ok (.iinc 3 1, 3) := by decide +kernel
theorem dX3_anyFall_92 : decode cX3_anyFall 92 = .ok (.goto (-38), 3) := by decide +kernel
theorem dX3_anyFall_95 : decode cX3_anyFall 95 = .ok (.aload_n 0, 1) := by decide +kernel
theorem dX3_anyFall_96 : decode cX3_anyFall 96 = .ok (.getfield 52, 3) := by decide +kernel
theorem dX3_anyFall_99 : decode cX3_anyFall 99 = .ok (.iload_n 2, 1) := by decide +kernel
theorem dX3_anyFall_100 : decode cX3_anyFall 100 = .ok (.if_icmp .ge 7, 3) := by decide +kernel
theorem dX3_anyFall_103 : decode cX3_anyFall 103 = .ok (.iconst 1, 1) := by decide +kernel
theorem dX3_anyFall_104 : decode cX3_anyFall 104 = .ok (.goto 4, 3) := by decide +kernel
theorem dX3_anyFall_107 : decode cX3_anyFall 107 = .ok (.iconst 0, 1) := by decide +kernel
theorem dX3_anyFall_108 : decode cX3_anyFall 108 = .ok (.ireturn, 1) := by decide +kernel
theorem dX3_mustFall_0 : decode cX3_mustFall 0 = .ok (.aload_n 0, 1) := by decide +kernel
theorem dX3_mustFall_1 : decode cX3_mustFall 1 = .ok (.getfield 46, 3) := by decide +kernel
theorem dX3_mustFall_4 : decode cX3_mustFall 4 = .ok (.aload_n 0, 1) := by decide +kernel
theorem dX3_mustFall_5 : decode cX3_mustFall 5 = .ok (.getfield 18, 3) := by decide +kernel
theorem dX3_mustFall_8 : decode cX3_mustFall 8 = .ok (.iload_n 1, 1) := by decide +kernel
theorem dX3_mustFall_9 : decode cX3_mustFall 9 = .ok (.invokestatic 104, 3) := by decide +kernel
theorem dX3_mustFall_12 : decode cX3_mustFall 12 = .ok (.iconst (-1), 1) := by decide +kernel
theorem dX3_mustFall_13 : decode cX3_mustFall 13 = .ok (.ixor, 1) := by decide +kernel
theorem dX3_mustFall_14 : decode cX3_mustFall 14 = .ok (.iand, 1) := by decide +kernel
theorem dX3_mustFall_15 : decode cX3_mustFall 15 = .ok (.istore_n 2, 1) := by decide +kernel
theorem dX3_mustFall_16 : decode cX3_mustFall 16 = .ok (.aload_n 0, 1) := by decide +kernel
theorem dX3_mustFall_17 : decode cX3_mustFall 17 = .ok (.getfield 33, 3) := by decide +kernel
theorem dX3_mustFall_20 : decode cX3_mustFall 20 = .ok (.iconst 1, 1) := by decide +kernel
theorem dX3_mustFall_21 : decode cX3_mustFall 21 = .ok (.if_icmp .ne 7, 3) := by decide +kernel
theorem dX3_mustFall_24 : decode cX3_mustFall 24 = .ok (.iconst 1, 1) := by decide +kernel
theorem dX3_mustFall_25 : decode cX3_mustFall 25 = .ok (.goto 4, 3) := by decide +kernel
theorem dX3_mustFall_28 : decode cX3_mustFall 28 = .ok (.iconst 0, 1) := by decide +kernel
theorem dX3_mustFall_29 : decode cX3_mustFall 29 = .ok (.istore_n 3, 1) := by decide +kernel
theorem dX3_mustFall_30 : decode cX3_mustFall 30 = .ok (.iconst 0, 1) := by decide +kernel
theorem dX3_mustFall_31 : decode cX3_mustFall 31 = .ok (.istore 4, 2) := by decide +kernel
theorem dX3_mustFall_33 : decode cX3_mustFall 33 = .ok (.iload 4, 2) := by decide +kernel
theorem dX3_mustFall_35 : decode cX3_mustFall 35 = .ok (.aload_n 0, 1) := by decide +kernel
theorem dX3_mustFall_36 : decode cX3_mustFall 36 = .ok (.getfield 52, 3) := by decide +kernel
theorem dX3_mustFall_39 : decode cX3_mustFall 39 = .ok (.if_icmp .ge 57, 3) := by decide +kernel
theorem dX3_mustFall_42 : decode cX3_mustFall 42 = .ok (.iload_n 2, 1) := by decide +kernel
theorem dX3_mustFall_43 : decode cX3_mustFall 43 = .ok (.ifCond .ne 9, 3) := by decide +kernel
theorem dX3_mustFall_46 : decode cX3_mustFall 46 = .ok (.iload_n 3, 1) := by decide +kernel
theorem dX3_mustFall_47 : decode cX3_mustFall 47 = .ok (.ifCond .ne 5, 3) := by decide +kernel
theorem dX3_mustFall_50 : decode cX3_mustFall 50 = .ok (.iconst 0, 1) := by decide +kernel
theorem dX3_mustFall_51 : decode cX3_mustFall 51 = .ok (.ireturn, 1) := by decide +kernel
theorem dX3_mustFall_52 : decode cX3_mustFall 52 = .ok (.aload_n 0, 1) := by decide +kernel
theorem dX3_mustFall_53 : decode cX3_mustFall 53 = .ok (.getfield 30, 3) := by decide +kernel
theorem dX3_mustFall_56 : decode cX3_mustFall 56 = .ok (.iload 4, 2) := by decide +kernel
theorem dX3_mustFall_58 : decode cX3_mustFall 58 = .ok (.invokestatic 104, 3) := by decide +kernel
theorem dX3_mustFall_61 : decode cX3_mustFall 61 = .ok (.istore 5, 2) := by decide +kernel
theorem dX3_mustFall_63 : decode cX3_mustFall 63 = .ok (.aload_n 0, 1) := by decide +kernel
theorem dX3_mustFall_64 : decode cX3_mustFall 64 = .ok (.iload_n 1, 1) := by decide +kernel
theorem dX3_mustFall_65 : decode cX3_mustFall 65 = .ok (.iload 5, 2) := by decide +kernel
theorem dX3_mustFall_67 : decode cX3_mustFall 67 = .ok (.invokevirtual 128, 3) := by decide +kernel
theorem dX3_mustFall_70 : decode cX3_mustFall 70 = .ok (.ifCond .ne 6, 3) := by decide +kernel
theorem dX3_mustFall_73 : decode cX3_mustFall 73 = .ok (.goto 17, 3) := by decide +kernel
theorem dX3_mustFall_76 : decode cX3_mustFall 76 = .ok (.iload_n 2, 1) := by decide +kernel
theorem dX3_mustFall_77 : decode cX3_mustFall 77 = .ok (.aload_n 0, 1) := by decide +kernel
theorem dX3_mustFall_78 : decode cX3_mustFall 78 = .ok (.getfield 21, 3) := by decide +kernel
theorem dX3_mustFall_81 : decode cX3_mustFall 81 = .ok (.iload 5, 2) := by decide +kernel
theorem dX3_mustFall_83 : decode cX3_mustFall 83 = .ok (.invokestatic 104, 3) := by decide +kernel
theorem dX3_mustFall_86 : decode cX3_mustFall 86 = .ok (.iand, 1) := by decide +kernel
theorem dX3_mustFall_87 : decode cX3_mustFall 87 = .ok (.istore_n 2, 1) := by decide +kernel
theorem dX3_mustFall_88 : decode cX3_mustFall 88 = .ok (.iconst 0, 1) := by decide +kernel
theorem dX3_mustFall_89 : decode cX3_mustFall 89 = .ok (.istore_n 3, 1) := by decide +kernel
theorem dX3_mustFall_90 : decode cX3_mustFall 90 = .ok (.iinc 4 1, 3) := by decide +kernel
theorem dX3_mustFall_93 : decode cX3_mustFall 93 = .ok (.goto (-60), 3) := by decide +kernel
theorem dX3_mustFall_96 : decode cX3_mustFall 96 = .ok (.iload_n 2, 1) := by decide +kernel
theorem dX3_mustFall_97 : decode cX3_mustFall 97 = .ok (.ifCond .ne 7, 3) := by decide +kernel
theorem dX3_mustFall_100 : decode cX3_mustFall 100 = .ok (.iload_n 3, 1) := by decide +kernel
theorem dX3_mustFall_101 : decode cX3_mustFall 101 = .ok (.ifCond .eq 7, 3) := by decide +kernel
theorem dX3_mustFall_104 : decode cX3_mustFall 104 = .ok (.iconst 1, 1) := by decide +kernel
theorem dX3_mustFall_105 : decode cX3_mustFall 105 = .ok (.goto 4, 3) := by decide +kernel
theorem dX3_mustFall_108 : decode cX3_mustFall 108 = .ok (.iconst 0, 1) := by decide +kernel
theorem dX3_mustFall_109 : decode cX3_mustFall 109 = .ok (.ireturn, 1) := by decide +kernel
theorem dX3_fallOf_0 : decode cX3_fallOf 0 = .ok (.aload_n 0, 1) := by decide +kernel
theorem dX3_fallOf_1 : decode cX3_fallOf 1 = .ok (.getfield 27, 3) := by decide +kernel
theorem dX3_fallOf_4 : decode cX3_fallOf 4 = .ok (.iload_n 1, 1) := by decide +kernel
theorem dX3_fallOf_5 : decode cX3_fallOf 5 = .ok (.invokestatic 104, 3) := by decide +kernel
theorem dX3_fallOf_8 : decode cX3_fallOf 8 = .ok (.ireturn, 1) := by decide +kernel
theorem dX3_answer_0 : decode cX3_answer 0 = .ok (.iload_n 1, 1) := by decide +kernel
theorem dX3_answer_1 : decode cX3_answer 1 = .ok (.tableswitch 125 0 5 #[39, 58, 77, 105, 115, 120], 39) := by decide +kernel
theorem dX3_answer_40 : decode cX3_answer 40 = .ok (.aload_n 0, 1) := by decide +kernel
theorem dX3_answer_41 : decode cX3_answer 41 = .ok (.iconst 1, 1) := by decide +kernel
theorem dX3_answer_42 : decode cX3_answer 42 = .ok (.invokevirtual 141, 3) := by decide +kernel
theorem dX3_answer_45 : decode cX3_answer 45 = .ok (.bipush (-9), 2) := by decide +kernel
theorem dX3_answer_47 : decode cX3_answer 47 = .ok (.if_icmp .eq 7, 3) := by decide +kernel
theorem dX3_answer_50 : decode cX3_answer 50 = .ok (.iconst 1, 1) := by decide +kernel
theorem dX3_answer_51 : decode cX3_answer 51 = .ok (.goto 4, 3) := by decide +kernel
theorem dX3_answer_54 : decode cX3_answer 54 = .ok (.iconst 0, 1) := by decide +kernel
theorem dX3_answer_55 : decode cX3_answer 55 = .ok (.invokestatic 144, 3) := by decide +kernel
theorem dX3_answer_58 : decode cX3_answer 58 = .ok (.ireturn, 1) := by decide +kernel
theorem dX3_answer_59 : decode cX3_answer 59 = .ok (.aload_n 0, 1) := by decide +kernel
theorem dX3_answer_60 : decode cX3_answer 60 = .ok (.iconst 0, 1) := by decide +kernel
theorem dX3_answer_61 : decode cX3_answer 61 = .ok (.invokevirtual 141, 3) := by decide +kernel
theorem dX3_answer_64 : decode cX3_answer 64 = .ok (.bipush (-9), 2) := by decide +kernel
theorem dX3_answer_66 : decode cX3_answer 66 = .ok (.if_icmp .ne 7, 3) := by decide +kernel
theorem dX3_answer_69 : decode cX3_answer 69 = .ok (.iconst 1, 1) := by decide +kernel
theorem dX3_answer_70 : decode cX3_answer 70 = .ok (.goto 4, 3) := by decide +kernel
theorem dX3_answer_73 : decode cX3_answer 73 = .ok (.iconst 0, 1) := by decide +kernel
theorem dX3_answer_74 : decode cX3_answer 74 = .ok (.invokestatic 144, 3) := by decide +kernel
theorem dX3_answer_77 : decode cX3_answer 77 = .ok (.ireturn, 1) := by decide +kernel
theorem dX3_answer_78 : decode cX3_answer 78 = .ok (.aload_n 0, 1) := by decide +kernel
theorem dX3_answer_79 : decode cX3_answer 79 = .ok (.iconst 1, 1) := by decide +kernel
theorem dX3_answer_80 : decode cX3_answer 80 = .ok (.invokevirtual 141, 3) := by decide +kernel
theorem dX3_answer_83 : decode cX3_answer 83 = .ok (.bipush (-9), 2) := by decide +kernel
theorem dX3_answer_85 : decode cX3_answer 85 = .ok (.if_icmp .ne 8, 3) := by decide +kernel
theorem dX3_answer_88 : decode cX3_answer 88 = .ok (.bipush (-9), 2) := by decide +kernel
theorem dX3_answer_90 : decode cX3_answer 90 = .ok (.goto 15, 3) := by decide +kernel
theorem dX3_answer_93 : decode cX3_answer 93 = .ok (.aload_n 0, 1) := by decide +kernel
theorem dX3_answer_94 : decode cX3_answer 94 = .ok (.getfield 30, 3) := by decide +kernel
theorem dX3_answer_97 : decode cX3_answer 97 = .ok (.aload_n 0, 1) := by decide +kernel
theorem dX3_answer_98 : decode cX3_answer 98 = .ok (.iconst 1, 1) := by decide +kernel
theorem dX3_answer_99 : decode cX3_answer 99 = .ok (.invokevirtual 141, 3) := by decide +kernel
theorem dX3_answer_102 : decode cX3_answer 102 = .ok (.invokestatic 104, 3) := by decide +kernel
theorem dX3_answer_105 : decode cX3_answer 105 = .ok (.ireturn, 1) := by decide +kernel
theorem dX3_answer_106 : decode cX3_answer 106 = .ok (.aload_n 0, 1) := by decide +kernel
theorem dX3_answer_107 : decode cX3_answer 107 = .ok (.aload_n 0, 1) := by decide +kernel
theorem dX3_answer_108 : decode cX3_answer 108 = .ok (.iconst 1, 1) := by decide +kernel
theorem dX3_answer_109 : decode cX3_answer 109 = .ok (.invokevirtual 141, 3) := by decide +kernel
theorem dX3_answer_112 : decode cX3_answer 112 = .ok (.invokevirtual 148, 3) := by decide +kernel
theorem dX3_answer_115 : decode cX3_answer 115 = .ok (.ireturn, 1) := by decide +kernel
theorem dX3_answer_116 : decode cX3_answer 116 = .ok (.aload_n 0, 1) := by decide +kernel
theorem dX3_answer_117 : decode cX3_answer 117 = .ok (.invokevirtual 151, 3) := by decide +kernel
theorem dX3_answer_120 : decode cX3_answer 120 = .ok (.ireturn, 1) := by decide +kernel
theorem dX3_answer_121 : decode cX3_answer 121 = .ok (.aload_n 0, 1) := by decide +kernel
theorem dX3_answer_122 : decode cX3_answer 122 = .ok (.getfield 52, 3) := by decide +kernel
theorem dX3_answer_125 : decode cX3_answer 125 = .ok (.ireturn, 1) := by decide +kernel
theorem dX3_answer_126 : decode cX3_answer 126 = .ok (.aload_n 0, 1) := by decide +kernel
theorem dX3_answer_127 : decode cX3_answer 127 = .ok (.getfield 49, 3) := by decide +kernel
theorem dX3_answer_130 : decode cX3_answer 130 = .ok (.ireturn, 1) := by decide +kernel
theorem dX3_placeWhere_0 : decode cX3_placeWhere 0 = .ok (.iconst 0, 1) := by decide +kernel
theorem dX3_placeWhere_1 : decode cX3_placeWhere 1 = .ok (.istore_n 2, 1) := by decide +kernel
theorem dX3_placeWhere_2 : decode cX3_placeWhere 2 = .ok (.iload_n 2, 1) := by decide +kernel
theorem dX3_placeWhere_3 : decode cX3_placeWhere 3 = .ok (.aload_n 0, 1) := by decide +kernel
theorem dX3_placeWhere_4 : decode cX3_placeWhere 4 = .ok (.getfield 52, 3) := by decide +kernel
theorem dX3_placeWhere_7 : decode cX3_placeWhere 7 = .ok (.if_icmp .ge 30, 3) := by decide +kernel
theorem dX3_placeWhere_10 : decode cX3_placeWhere 10 = .ok (.aload_n 0, 1) := by decide +kernel
theorem dX3_placeWhere_11 : decode cX3_placeWhere 11 = .ok (.getfield 24, 3) := by decide +kernel
theorem dX3_placeWhere_14 : decode cX3_placeWhere 14 = .ok (.aload_n 0, 1) := by decide +kernel
theorem dX3_placeWhere_15 : decode cX3_placeWhere 15 = .ok (.getfield 30, 3) := by decide +kernel
theorem dX3_placeWhere_18 : decode cX3_placeWhere 18 = .ok (.iload_n 2, 1) := by decide +kernel
theorem dX3_placeWhere_19 : decode cX3_placeWhere 19 = .ok (.invokestatic 104, 3) := by decide +kernel
theorem dX3_placeWhere_22 : decode cX3_placeWhere 22 = .ok (.invokestatic 104, 3) := by decide +kernel
theorem dX3_placeWhere_25 : decode cX3_placeWhere 25 = .ok (.iload_n 1, 1) := by decide +kernel
theorem dX3_placeWhere_26 : decode cX3_placeWhere 26 = .ok (.if_icmp .ne 5, 3) := by decide +kernel
theorem dX3_placeWhere_29 : decode cX3_placeWhere 29 = .ok (.iload_n 2, 1) := by decide +kernel
theorem dX3_placeWhere_30 : decode cX3_placeWhere 30 = .ok (.ireturn, 1) := by decide +kernel
theorem dX3_placeWhere_31 : decode cX3_placeWhere 31 = .ok (.iinc 2 1, 3) := by decide +kernel
theorem dX3_placeWhere_34 : decode cX3_placeWhere 34 = .ok (.goto (-32), 3) := by decide +kernel
theorem dX3_placeWhere_37 : decode cX3_placeWhere 37 = .ok (.bipush (-9), 2) := by decide +kernel
theorem dX3_placeWhere_39 : decode cX3_placeWhere 39 = .ok (.ireturn, 1) := by decide +kernel
theorem dX3_howManyFit_0 : decode cX3_howManyFit 0 = .ok (.iconst 0, 1) := by decide +kernel
theorem dX3_howManyFit_1 : decode cX3_howManyFit 1 = .ok (.istore_n 1, 1) := by decide +kernel
theorem dX3_howManyFit_2 : decode cX3_howManyFit 2 = .ok (.iconst 0, 1) := by decide +kernel
theorem dX3_howManyFit_3 : decode cX3_howManyFit 3 = .ok (.istore_n 2, 1) := by decide +kernel
theorem dX3_howManyFit_4 : decode cX3_howManyFit 4 = .ok (.iload_n 2, 1) := by decide +kernel
theorem dX3_howManyFit_5 : decode cX3_howManyFit 5 = .ok (.aload_n 0, 1) := by decide +kernel
theorem dX3_howManyFit_6 : decode cX3_howManyFit 6 = .ok (.getfield 37, 3) := by decide +kernel
theorem dX3_howManyFit_9 : decode cX3_howManyFit 9 = .ok (.if_icmp .ge 23, 3) := by decide +kernel
theorem dX3_howManyFit_12 : decode cX3_howManyFit 12 = .ok (.aload_n 0, 1) := by decide +kernel
theorem dX3_howManyFit_13 : decode cX3_howManyFit 13 = .ok (.getfield 27, 3) := by decide +kernel
theorem dX3_howManyFit_16 : decode cX3_howManyFit 16 = .ok (.iload_n 2, 1) := by decide +kernel
theorem dX3_howManyFit_17 : decode cX3_howManyFit 17 = .ok (.invokestatic 104, 3) := by decide +kernel
theorem dX3_howManyFit_20 : decode cX3_howManyFit 20 = .ok (.ifCond .eq 6, 3) := by decide +kernel
theorem dX3_howManyFit_23 : decode cX3_howManyFit 23 = .ok (.iinc 1 1, 3) := by decide +kernel
theorem dX3_howManyFit_26 : decode cX3_howManyFit 26 = .ok (.iinc 2 1, 3) := by decide +kernel
theorem dX3_howManyFit_29 : decode cX3_howManyFit 29 = .ok (.goto (-25), 3) := by decide +kernel
theorem dX3_howManyFit_32 : decode cX3_howManyFit 32 = .ok (.iload_n 1, 1) := by decide +kernel
theorem dX3_howManyFit_33 : decode cX3_howManyFit 33 = .ok (.ireturn, 1) := by decide +kernel
theorem dX3_howManyReached_0 : decode cX3_howManyReached 0 = .ok (.iload_n 1, 1) := by decide +kernel
theorem dX3_howManyReached_1 : decode cX3_howManyReached 1 = .ok (.bipush (-9), 2) := by decide +kernel
theorem dX3_howManyReached_3 : decode cX3_howManyReached 3 = .ok (.if_icmp .ne 5, 3) := by decide +kernel
theorem dX3_howManyReached_6 : decode cX3_howManyReached 6 = .ok (.iconst 0, 1) := by decide +kernel
theorem dX3_howManyReached_7 : decode cX3_howManyReached 7 = .ok (.ireturn, 1) := by decide +kernel
theorem dX3_howManyReached_8 : decode cX3_howManyReached 8 = .ok (.aload_n 0, 1) := by decide +kernel
theorem dX3_howManyReached_9 : decode cX3_howManyReached 9 = .ok (.iconst 0, 1) := by decide +kernel
theorem dX3_howManyReached_10 : decode cX3_howManyReached 10 = .ok (.iload_n 1, 1) := by decide +kernel
theorem dX3_howManyReached_11 : decode cX3_howManyReached 11 = .ok (.invokevirtual 154, 3) := by decide +kernel
theorem dX3_howManyReached_14 : decode cX3_howManyReached 14 = .ok (.iconst 1, 1) := by decide +kernel
theorem dX3_howManyReached_15 : decode cX3_howManyReached 15 = .ok (.istore_n 2, 1) := by decide +kernel
theorem dX3_howManyReached_16 : decode cX3_howManyReached 16 = .ok (.iconst 0, 1) := by decide +kernel
theorem dX3_howManyReached_17 : decode cX3_howManyReached 17 = .ok (.istore_n 3, 1) := by decide +kernel
theorem dX3_howManyReached_18 : decode cX3_howManyReached 18 = .ok (.iload_n 3, 1) := by decide +kernel
theorem dX3_howManyReached_19 : decode cX3_howManyReached 19 = .ok (.iload_n 2, 1) := by decide +kernel
theorem dX3_howManyReached_20 : decode cX3_howManyReached 20 = .ok (.if_icmp .ge 72, 3) := by decide +kernel
theorem dX3_howManyReached_23 : decode cX3_howManyReached 23 = .ok (.iload_n 3, 1) := by decide +kernel
theorem dX3_howManyReached_24 : decode cX3_howManyReached 24 = .ok (.aload_n 0, 1) := by decide +kernel
theorem dX3_howManyReached_25 : decode cX3_howManyReached 25 = .ok (.getfield 52, 3) := by decide +kernel
theorem dX3_howManyReached_28 : decode cX3_howManyReached 28 = .ok (.if_icmp .ge 64, 3) := by decide +kernel
theorem dX3_howManyReached_31 : decode cX3_howManyReached 31 = .ok (.iload_n 2, 1) := by decide +kernel
theorem dX3_howManyReached_32 : decode cX3_howManyReached 32 = .ok (.istore 4, 2) := by decide +kernel
theorem dX3_howManyReached_34 : decode cX3_howManyReached 34 = .ok (.iload 4, 2) := by decide +kernel
theorem dX3_howManyReached_36 : decode cX3_howManyReached 36 = .ok (.aload_n 0, 1) := by decide +kernel
theorem dX3_howManyReached_37 : decode cX3_howManyReached 37 = .ok (.getfield 52, 3) := by decide +kernel
theorem dX3_howManyReached_40 : decode cX3_howManyReached 40 = .ok (.if_icmp .ge 46, 3) := by decide +kernel
theorem dX3_howManyReached_43 : decode cX3_howManyReached 43 = .ok (.aload_n 0, 1) := by decide +kernel
theorem dX3_howManyReached_44 : decode cX3_howManyReached 44 = .ok (.aload_n 0, 1) := by decide +kernel
theorem dX3_howManyReached_45 : decode cX3_howManyReached 45 = .ok (.getfield 30, 3) := by decide +kernel
theorem dX3_howManyReached_48 : decode cX3_howManyReached 48 = .ok (.iload_n 3, 1) := by decide +kernel
theorem dX3_howManyReached_49 : decode cX3_howManyReached 49 = .ok (.invokestatic 104, 3) := by decide +kernel
theorem dX3_howManyReached_52 : decode cX3_howManyReached 52 = .ok (.aload_n 0, 1) := by decide +kernel
theorem dX3_howManyReached_53 : decode cX3_howManyReached 53 = .ok (.getfield 30, 3) := by decide +kernel
theorem dX3_howManyReached_56 : decode cX3_howManyReached 56 = .ok (.iload 4, 2) := by decide +kernel
theorem dX3_howManyReached_58 : decode cX3_howManyReached 58 = .ok (.invokestatic 104, 3) := by decide +kernel
theorem dX3_howManyReached_61 : decode cX3_howManyReached 61 = .ok (.invokevirtual 128, 3) := by decide +kernel
theorem dX3_howManyReached_64 : decode cX3_howManyReached 64 = .ok (.ifCond .ne 6, 3) := by decide +kernel
theorem dX3_howManyReached_67 : decode cX3_howManyReached 67 = .ok (.goto 13, 3) := by decide +kernel
theorem dX3_howManyReached_70 : decode cX3_howManyReached 70 = .ok (.aload_n 0, 1) := by decide +kernel
theorem dX3_howManyReached_71 : decode cX3_howManyReached 71 = .ok (.iload_n 2, 1) := by decide +kernel
theorem dX3_howManyReached_72 : decode cX3_howManyReached 72 = .ok (.iload 4, 2) := by decide +kernel
theorem dX3_howManyReached_74 : decode cX3_howManyReached 74 = .ok (.invokevirtual 154, 3) := by decide +kernel
theorem dX3_howManyReached_77 : decode cX3_howManyReached 77 = .ok (.iinc 2 1, 3) := by decide +kernel
theorem dX3_howManyReached_80 : decode cX3_howManyReached 80 = .ok (.iinc 4 1, 3) := by decide +kernel
theorem dX3_howManyReached_83 : decode cX3_howManyReached 83 = .ok (.goto (-49), 3) := by decide +kernel
theorem dX3_howManyReached_86 : decode cX3_howManyReached 86 = .ok (.iinc 3 1, 3) := by decide +kernel
theorem dX3_howManyReached_89 : decode cX3_howManyReached 89 = .ok (.goto (-71), 3) := by decide +kernel
theorem dX3_howManyReached_92 : decode cX3_howManyReached 92 = .ok (.iload_n 2, 1) := by decide +kernel
theorem dX3_howManyReached_93 : decode cX3_howManyReached 93 = .ok (.ireturn, 1) := by decide +kernel
theorem dX3_swapStays_0 : decode cX3_swapStays 0 = .ok (.aload_n 0, 1) := by decide +kernel
theorem dX3_swapStays_1 : decode cX3_swapStays 1 = .ok (.getfield 30, 3) := by decide +kernel
theorem dX3_swapStays_4 : decode cX3_swapStays 4 = .ok (.iload_n 1, 1) := by decide +kernel
theorem dX3_swapStays_5 : decode cX3_swapStays 5 = .ok (.invokestatic 104, 3) := by decide +kernel
theorem dX3_swapStays_8 : decode cX3_swapStays 8 = .ok (.istore_n 3, 1) := by decide +kernel
theorem dX3_swapStays_9 : decode cX3_swapStays 9 = .ok (.aload_n 0, 1) := by decide +kernel
theorem dX3_swapStays_10 : decode cX3_swapStays 10 = .ok (.getfield 30, 3) := by decide +kernel
theorem dX3_swapStays_13 : decode cX3_swapStays 13 = .ok (.iload_n 1, 1) := by decide +kernel
theorem dX3_swapStays_14 : decode cX3_swapStays 14 = .ok (.aload_n 0, 1) := by decide +kernel
theorem dX3_swapStays_15 : decode cX3_swapStays 15 = .ok (.getfield 30, 3) := by decide +kernel
theorem dX3_swapStays_18 : decode cX3_swapStays 18 = .ok (.iload_n 2, 1) := by decide +kernel
theorem dX3_swapStays_19 : decode cX3_swapStays 19 = .ok (.invokestatic 104, 3) := by decide +kernel
theorem dX3_swapStays_22 : decode cX3_swapStays 22 = .ok (.invokestatic 94, 3) := by decide +kernel
theorem dX3_swapStays_25 : decode cX3_swapStays 25 = .ok (.aload_n 0, 1) := by decide +kernel
theorem dX3_swapStays_26 : decode cX3_swapStays 26 = .ok (.getfield 30, 3) := by decide +kernel
theorem dX3_swapStays_29 : decode cX3_swapStays 29 = .ok (.iload_n 2, 1) := by decide +kernel
theorem dX3_swapStays_30 : decode cX3_swapStays 30 = .ok (.iload_n 3, 1) := by decide +kernel
theorem dX3_swapStays_31 : decode cX3_swapStays 31 = .ok (.invokestatic 94, 3) := by decide +kernel
theorem dX3_swapStays_34 : decode cX3_swapStays 34 = .ok (.return_, 1) := by decide +kernel
theorem dX4_init_0 : decode cX4_init 0 = .ok (.aload_n 0, 1) := by decide +kernel
theorem dX4_init_1 : decode cX4_init 1 = .ok (.invokespecial 3, 3) := by decide +kernel
theorem dX4_init_4 : decode cX4_init 4 = .ok (.aload_n 0, 1) := by decide +kernel
theorem dX4_init_5 : decode cX4_init 5 = .ok (.bipush 8, 2) := by decide +kernel
theorem dX4_init_7 : decode cX4_init 7 = .ok (.newarray .int, 2) := by decide +kernel
theorem dX4_init_9 : decode cX4_init 9 = .ok (.putfield 9, 3) := by decide +kernel
theorem dX4_init_12 : decode cX4_init 12 = .ok (.aload_n 0, 1) := by decide +kernel
theorem dX4_init_13 : decode cX4_init 13 = .ok (.bipush 40, 2) := by decide +kernel
theorem dX4_init_15 : decode cX4_init 15 = .ok (.newarray .int, 2) := by decide +kernel
theorem dX4_init_17 : decode cX4_init 17 = .ok (.putfield 15, 3) := by decide +kernel
theorem dX4_init_20 : decode cX4_init 20 = .ok (.aload_n 0, 1) := by decide +kernel
theorem dX4_init_21 : decode cX4_init 21 = .ok (.bipush 8, 2) := by decide +kernel
theorem dX4_init_23 : decode cX4_init 23 = .ok (.newarray .int, 2) := by decide +kernel
theorem dX4_init_25 : decode cX4_init 25 = .ok (.putfield 18, 3) := by decide +kernel
theorem dX4_init_28 : decode cX4_init 28 = .ok (.aload_n 0, 1) := by decide +kernel
theorem dX4_init_29 : decode cX4_init 29 = .ok (.bipush 8, 2) := by decide +kernel
theorem dX4_init_31 : decode cX4_init 31 = .ok (.newarray .int, 2) := by decide +kernel
theorem dX4_init_33 : decode cX4_init 33 = .ok (.putfield 21, 3) := by decide +kernel
theorem dX4_init_36 : decode cX4_init 36 = .ok (.aload_n 0, 1) := by decide +kernel
theorem dX4_init_37 : decode cX4_init 37 = .ok (.iconst 0, 1) := by decide +kernel
theorem dX4_init_38 : decode cX4_init 38 = .ok (.putfield 24, 3) := by decide +kernel
theorem dX4_init_41 : decode cX4_init 41 = .ok (.return_, 1) := by decide +kernel
theorem dX4_look_0 : decode cX4_look 0 = .ok (.aload_n 0, 1) := by decide +kernel
theorem dX4_look_1 : decode cX4_look 1 = .ok (.aload_n 1, 1) := by decide +kernel
theorem dX4_look_2 : decode cX4_look 2 = .ok (.invokevirtual 28, 3) := by decide +kernel
theorem dX4_look_5 : decode cX4_look 5 = .ok (.putfield 24, 3) := by decide +kernel
theorem dX4_look_8 : decode cX4_look 8 = .ok (.iconst 0, 1) := by decide +kernel
theorem dX4_look_9 : decode cX4_look 9 = .ok (.istore_n 3, 1) := by decide +kernel
theorem dX4_look_10 : decode cX4_look 10 = .ok (.iload_n 3, 1) := by decide +kernel
theorem dX4_look_11 : decode cX4_look 11 = .ok (.aload_n 0, 1) := by decide +kernel
theorem dX4_look_12 : decode cX4_look 12 = .ok (.getfield 24, 3) := by decide +kernel
theorem dX4_look_15 : decode cX4_look 15 = .ok (.if_icmp .ge 23, 3) := by decide +kernel
theorem dX4_look_18 : decode cX4_look 18 = .ok (.aload_n 0, 1) := by decide +kernel
theorem dX4_look_19 : decode cX4_look 19 = .ok (.getfield 9, 3) := by decide +kernel
theorem dX4_look_22 : decode cX4_look 22 = .ok (.iload_n 3, 1) := by decide +kernel
theorem dX4_look_23 : decode cX4_look 23 = .ok (.aload_n 1, 1) := by decide +kernel
theorem dX4_look_24 : decode cX4_look 24 = .ok (.iload_n 2, 1) := by decide +kernel
theorem dX4_look_25 : decode cX4_look 25 = .ok (.iload_n 3, 1) := by decide +kernel
theorem dX4_look_26 : decode cX4_look 26 = .ok (.invokevirtual 33, 3) := by decide +kernel
theorem dX4_look_29 : decode cX4_look 29 = .ok (.invokestatic 37, 3) := by decide +kernel
theorem dX4_look_32 : decode cX4_look 32 = .ok (.iinc 3 1, 3) := by decide +kernel
theorem dX4_look_35 : decode cX4_look 35 = .ok (.goto (-25), 3) := by decide +kernel
theorem dX4_look_38 : decode cX4_look 38 = .ok (.return_, 1) := by decide +kernel
theorem dX4_judge_0 : decode cX4_judge 0 = .ok (.iconst 1, 1) := by decide +kernel
theorem dX4_judge_1 : decode cX4_judge 1 = .ok (.aload_n 0, 1) := by decide +kernel
theorem dX4_judge_2 : decode cX4_judge 2 = .ok (.getfield 24, 3) := by decide +kernel
theorem dX4_judge_5 : decode cX4_judge 5 = .ok (.ishl, 1) := by decide +kernel
theorem dX4_judge_6 : decode cX4_judge 6 = .ok (.iconst 1, 1) := by decide +kernel
theorem dX4_judge_7 : decode cX4_judge 7 = .ok (.isub, 1) := by decide +kernel
theorem dX4_judge_8 : decode cX4_judge 8 = .ok (.istore 4, 2) := by decide +kernel
theorem dX4_judge_10 : decode cX4_judge 10 = .ok (.iconst 0, 1) := by decide +kernel
theorem dX4_judge_11 : decode cX4_judge 11 = .ok (.istore 5, 2) := by decide +kernel
theorem dX4_judge_13 : decode cX4_judge 13 = .ok (.iload 5, 2) := by decide +kernel
theorem dX4_judge_15 : decode cX4_judge 15 = .ok (.aload_n 1, 1) := by decide +kernel
theorem dX4_judge_16 : decode cX4_judge 16 = .ok (.invokevirtual 41, 3) := by decide +kernel
theorem dX4_judge_19 : decode cX4_judge 19 = .ok (.if_icmp .ge 154, 3) := by decide +kernel
theorem dX4_judge_22 : decode cX4_judge 22 = .ok (.aload_n 1, 1) := by decide +kernel
theorem dX4_judge_23 : decode cX4_judge 23 = .ok (.iload 5, 2) := by decide +kernel
theorem dX4_judge_25 : decode cX4_judge 25 = .ok (.invokevirtual 46, 3) := by decide +kernel
theorem dX4_judge_28 : decode cX4_judge 28 = .ok (.istore 6, 2) := by decide +kernel
theorem dX4_judge_30 : decode cX4_judge 30 = .ok (.aload_n 0, 1) := by decide +kernel
theorem dX4_judge_31 : decode cX4_judge 31 = .ok (.getfield 15, 3) := by decide +kernel
theorem dX4_judge_34 : decode cX4_judge 34 = .ok (.aload_n 1, 1) := by decide +kernel
theorem dX4_judge_35 : decode cX4_judge 35 = .ok (.iload 5, 2) := by decide +kernel
theorem dX4_judge_37 : decode cX4_judge 37 = .ok (.invokevirtual 50, 3) := by decide +kernel
theorem dX4_judge_40 : decode cX4_judge 40 = .ok (.invokestatic 53, 3) := by decide +kernel
theorem dX4_judge_43 : decode cX4_judge 43 = .ok (.istore 7, 2) := by decide +kernel
theorem dX4_judge_45 : decode cX4_judge 45 = .ok (.aload_n 0, 1) := by decide +kernel
theorem dX4_judge_46 : decode cX4_judge 46 = .ok (.getfield 15, 3) := by decide +kernel
theorem dX4_judge_49 : decode cX4_judge 49 = .ok (.aload_n 1, 1) := by decide +kernel
theorem dX4_judge_50 : decode cX4_judge 50 = .ok (.iload 5, 2) := by decide +kernel
theorem dX4_judge_52 : decode cX4_judge 52 = .ok (.invokevirtual 57, 3) := by decide +kernel
theorem dX4_judge_55 : decode cX4_judge 55 = .ok (.invokestatic 53, 3) := by decide +kernel
theorem dX4_judge_58 : decode cX4_judge 58 = .ok (.istore 8, 2) := by decide +kernel
theorem dX4_judge_60 : decode cX4_judge 60 = .ok (.iload 6, 2) := by decide +kernel
theorem dX4_judge_62 : decode cX4_judge 62 = .ok (.invokestatic 60, 3) := by decide +kernel
theorem dX4_judge_65 : decode cX4_judge 65 = .ok (.ifCond .eq 15, 3) := by decide +kernel
theorem dX4_judge_68 : decode cX4_judge 68 = .ok (.aload_n 2, 1) := by decide +kernel
theorem dX4_judge_69 : decode cX4_judge 69 = .ok (.iload 6, 2) := by decide +kernel
theorem dX4_judge_71 : decode cX4_judge 71 = .ok (.bipush 112, 2) := by decide +kernel
theorem dX4_judge_73 : decode cX4_judge 73 = .ok (.isub, 1) := by decide +kernel
theorem dX4_judge_74 : decode cX4_judge 74 = .ok (.invokestatic 53, 3) := by decide +kernel
theorem dX4_judge_77 : decode cX4_judge 77 = .ok (.goto 14, 3) := by decide +kernel
theorem dX4_judge_80 : decode cX4_judge 80 = .ok (.iload 6, 2) := by decide +kernel
theorem dX4_judge_82 : decode cX4_judge 82 = .ok (.iload 7, 2) := by decide +kernel
theorem dX4_judge_84 : decode cX4_judge 84 = .ok (.iload 8, 2) := by decide +kernel
theorem dX4_judge_86 : decode cX4_judge 86 = .ok (.iload 4, 2) := by decide +kernel
theorem dX4_judge_88 : decode cX4_judge 88 = .ok (.invokestatic 64, 3) := by decide +kernel
theorem dX4_judge_91 : decode cX4_judge 91 = .ok (.istore 9, 2) := by decide +kernel
theorem dX4_judge_93 : decode cX4_judge 93 = .ok (.iload 6, 2) := by decide +kernel
theorem dX4_judge_95 : decode cX4_judge 95 = .ok (.bipush 91, 2) := by decide +kernel
theorem dX4_judge_97 : decode cX4_judge 97 = .ok (.if_icmp .ne 11, 3) := by decide +kernel
theorem dX4_judge_100 : decode cX4_judge 100 = .ok (.aload_n 0, 1) := by decide +kernel
theorem dX4_judge_101 : decode cX4_judge 101 = .ok (.iload 7, 2) := by decide +kernel
theorem dX4_judge_103 : decode cX4_judge 103 = .ok (.invokevirtual 68, 3) := by decide +kernel
theorem dX4_judge_106 : decode cX4_judge 106 = .ok (.istore 9, 2) := by decide +kernel
theorem dX4_judge_108 : decode cX4_judge 108 = .ok (.iload 6, 2) := by decide +kernel
theorem dX4_judge_110 : decode cX4_judge 110 = .ok (.bipush 123, 2) := by decide +kernel
theorem dX4_judge_112 : decode cX4_judge 112 = .ok (.if_icmp .ne 18, 3) := by decide +kernel
theorem dX4_judge_115 : decode cX4_judge 115 = .ok (.iload 4, 2) := by decide +kernel
theorem dX4_judge_117 : decode cX4_judge 117 = .ok (.aload_n 0, 1) := by decide +kernel
theorem dX4_judge_118 : decode cX4_judge 118 = .ok (.iload 7, 2) := by decide +kernel
theorem dX4_judge_120 : decode cX4_judge 120 = .ok (.iconst (-1), 1) := by decide +kernel
theorem dX4_judge_121 : decode cX4_judge 121 = .ok (.ixor, 1) := by decide +kernel
theorem dX4_judge_122 : decode cX4_judge 122 = .ok (.invokevirtual 68, 3) := by decide +kernel
theorem dX4_judge_125 : decode cX4_judge 125 = .ok (.iconst (-1), 1) := by decide +kernel
theorem dX4_judge_126 : decode cX4_judge 126 = .ok (.ixor, 1) := by decide +kernel
theorem dX4_judge_127 : decode cX4_judge 127 = .ok (.iand, 1) := by decide +kernel
theorem dX4_judge_128 : decode cX4_judge 128 = .ok (.istore 9, 2) := by decide +kernel
theorem dX4_judge_130 : decode cX4_judge 130 = .ok (.iload_n 3, 1) := by decide +kernel
theorem dX4_judge_131 : decode cX4_judge 131 = .ok (.ifCond .eq 25, 3) := by decide +kernel
theorem dX4_judge_134 : decode cX4_judge 134 = .ok (.iload 6, 2) := by decide +kernel
theorem dX4_judge_136 : decode cX4_judge 136 = .ok (.bipush 62, 2) := by decide +kernel
theorem dX4_judge_138 : decode cX4_judge 138 = .ok (.if_icmp .eq 10, 3) := by decide +kernel
theorem dX4_judge_141 : decode cX4_judge 141 = .ok (.iload 6, 2) := by decide +kernel
theorem dX4_judge_143 : decode cX4_judge 143 = .ok (.bipush 33, 2) := by decide +kernel
theorem dX4_judge_145 : decode cX4_judge 145 = .ok (.if_icmp .ne 11, 3) := by decide +kernel
theorem dX4_judge_148 : decode cX4_judge 148 = .ok (.aload_n 0, 1) := by decide +kernel
theorem dX4_judge_149 : decode cX4_judge 149 = .ok (.iload 9, 2) := by decide +kernel
theorem dX4_judge_151 : decode cX4_judge 151 = .ok (.invokevirtual 68, 3) := by decide +kernel
theorem dX4_judge_154 : decode cX4_judge 154 = .ok (.istore 9, 2) := by decide +kernel
theorem dX4_judge_156 : decode cX4_judge 156 = .ok (.aload_n 0, 1) := by decide +kernel
theorem dX4_judge_157 : decode cX4_judge 157 = .ok (.getfield 15, 3) := by decide +kernel
theorem dX4_judge_160 : decode cX4_judge 160 = .ok (.iload 5, 2) := by decide +kernel
theorem dX4_judge_162 : decode cX4_judge 162 = .ok (.iload 9, 2) := by decide +kernel
theorem dX4_judge_164 : decode cX4_judge 164 = .ok (.invokestatic 37, 3) := by decide +kernel
theorem dX4_judge_167 : decode cX4_judge 167 = .ok (.iinc 5 1, 3) := by decide +kernel
theorem dX4_judge_170 : decode cX4_judge 170 = .ok (.goto (-157), 3) := by decide +kernel
theorem dX4_judge_173 : decode cX4_judge 173 = .ok (.aload_n 0, 1) := by decide +kernel
theorem dX4_judge_174 : decode cX4_judge 174 = .ok (.getfield 15, 3) := by decide +kernel
theorem dX4_judge_177 : decode cX4_judge 177 = .ok (.aload_n 1, 1) := by decide +kernel
theorem dX4_judge_178 : decode cX4_judge 178 = .ok (.invokevirtual 41, 3) := by decide +kernel
theorem dX4_judge_181 : decode cX4_judge 181 = .ok (.iconst 1, 1) := by decide +kernel
theorem dX4_judge_182 : decode cX4_judge 182 = .ok (.isub, 1) := by decide +kernel
theorem dX4_judge_183 : decode cX4_judge 183 = .ok (.invokestatic 53, 3) := by decide +kernel
theorem dX4_judge_186 : decode cX4_judge 186 = .ok (.ireturn, 1) := by decide +kernel
theorem dX4_must_0 : decode cX4_must 0 = .ok (.iconst 0, 1) := by decide +kernel
theorem dX4_must_1 : decode cX4_must 1 = .ok (.istore_n 2, 1) := by decide +kernel
theorem dX4_must_2 : decode cX4_must 2 = .ok (.iconst 0, 1) := by decide +kernel
theorem dX4_must_3 : decode cX4_must 3 = .ok (.istore_n 3, 1) := by decide +kernel
theorem dX4_must_4 : decode cX4_must 4 = .ok (.iload_n 3, 1) := by decide +kernel
theorem dX4_must_5 : decode cX4_must 5 = .ok (.aload_n 0, 1) := by decide +kernel
theorem dX4_must_6 : decode cX4_must 6 = .ok (.getfield 24, 3) := by decide +kernel
theorem dX4_must_9 : decode cX4_must 9 = .ok (.if_icmp .ge 30, 3) := by decide +kernel
theorem dX4_must_12 : decode cX4_must 12 = .ok (.aload_n 0, 1) := by decide +kernel
theorem dX4_must_13 : decode cX4_must 13 = .ok (.getfield 9, 3) := by decide +kernel
theorem dX4_must_16 : decode cX4_must 16 = .ok (.iload_n 3, 1) := by decide +kernel
theorem dX4_must_17 : decode cX4_must 17 = .ok (.invokestatic 53, 3) := by decide +kernel
theorem dX4_must_20 : decode cX4_must 20 = .ok (.iload_n 1, 1) := by decide +kernel
theorem dX4_must_21 : decode cX4_must 21 = .ok (.invokestatic 71, 3) := by decide +kernel
theorem dX4_must_24 : decode cX4_must 24 = .ok (.ifCond .eq 9, 3) := by decide +kernel
theorem dX4_must_27 : decode cX4_must 27 = .ok (.iload_n 2, 1) := by decide +kernel
theorem dX4_must_28 : decode cX4_must 28 = .ok (.iconst 1, 1) := by decide +kernel
theorem dX4_must_29 : decode cX4_must 29 = .ok (.iload_n 3, 1) := by decide +kernel
theorem dX4_must_30 : decode cX4_must 30 = .ok (.ishl, 1) := by decide +kernel
theorem dX4_must_31 : decode cX4_must 31 = .ok (.ior, 1) := by decide +kernel
theorem dX4_must_32 : decode cX4_must 32 = .ok (.istore_n 2, 1) := by decide +kernel
theorem dX4_must_33 : decode cX4_must 33 = .ok (.iinc 3 1, 3) := by decide +kernel
theorem dX4_must_36 : decode cX4_must 36 = .ok (.goto (-32), 3) := by decide +kernel
theorem dX4_must_39 : decode cX4_must 39 = .ok (.iload_n 2, 1) := by decide +kernel
theorem dX4_must_40 : decode cX4_must 40 = .ok (.ireturn, 1) := by decide +kernel
theorem dX4_depthApart_0 : decode cX4_depthApart 0 = .ok (.aload_n 0, 1) := by decide +kernel
theorem dX4_depthApart_1 : decode cX4_depthApart 1 = .ok (.aload_n 1, 1) := by decide +kernel
theorem dX4_depthApart_2 : decode cX4_depthApart 2 = .ok (.invokevirtual 75, 3) := by decide +kernel
theorem dX4_depthApart_5 : decode cX4_depthApart 5 = .ok (.iconst 0, 1) := by decide +kernel
theorem dX4_depthApart_6 : decode cX4_depthApart 6 = .ok (.istore 4, 2) := by decide +kernel
theorem dX4_depthApart_8 : decode cX4_depthApart 8 = .ok (.iload 4, 2) := by decide +kernel
theorem dX4_depthApart_10 : decode cX4_depthApart 10 = .ok (.aload_n 0, 1) := by decide +kernel
theorem dX4_depthApart_11 : decode cX4_depthApart 11 = .ok (.getfield 24, 3) := by decide +kernel
theorem dX4_depthApart_14 : decode cX4_depthApart 14 = .ok (.if_icmp .gt 35, 3) := by decide +kernel
theorem dX4_depthApart_17 : decode cX4_depthApart 17 = .ok (.aload_n 0, 1) := by decide +kernel
theorem dX4_depthApart_18 : decode cX4_depthApart 18 = .ok (.getfield 18, 3) := by decide +kernel
theorem dX4_depthApart_21 : decode cX4_depthApart 21 = .ok (.iload_n 2, 1) := by decide +kernel
theorem dX4_depthApart_22 : decode cX4_depthApart 22 = .ok (.invokestatic 53, 3) := by decide +kernel
theorem dX4_depthApart_25 : decode cX4_depthApart 25 = .ok (.aload_n 0, 1) := by decide +kernel
theorem dX4_depthApart_26 : decode cX4_depthApart 26 = .ok (.getfield 18, 3) := by decide +kernel
theorem dX4_depthApart_29 : decode cX4_depthApart 29 = .ok (.iload_n 3, 1) := by decide +kernel
theorem dX4_depthApart_30 : decode cX4_depthApart 30 = .ok (.invokestatic 53, 3) := by decide +kernel
theorem dX4_depthApart_33 : decode cX4_depthApart 33 = .ok (.if_icmp .eq 6, 3) := by decide +kernel
theorem dX4_depthApart_36 : decode cX4_depthApart 36 = .ok (.iload 4, 2) := by decide +kernel
theorem dX4_depthApart_38 : decode cX4_depthApart 38 = .ok (.ireturn, 1) := by decide +kernel
theorem dX4_depthApart_39 : decode cX4_depthApart 39 = .ok (.aload_n 0, 1) := by decide +kernel
theorem dX4_depthApart_40 : decode cX4_depthApart 40 = .ok (.invokevirtual 79, 3) := by decide +kernel
theorem dX4_depthApart_43 : decode cX4_depthApart 43 = .ok (.iinc 4 1, 3) := by decide +kernel
theorem dX4_depthApart_46 : decode cX4_depthApart 46 = .ok (.goto (-38), 3) := by decide +kernel
theorem dX4_depthApart_49 : decode cX4_depthApart 49 = .ok (.bipush (-9), 2) := by decide +kernel
theorem dX4_depthApart_51 : decode cX4_depthApart 51 = .ok (.ireturn, 1) := by decide +kernel
theorem dX4_heapUp_0 : decode cX4_heapUp 0 = .ok (.aload_n 0, 1) := by decide +kernel
theorem dX4_heapUp_1 : decode cX4_heapUp 1 = .ok (.aload_n 1, 1) := by decide +kernel
theorem dX4_heapUp_2 : decode cX4_heapUp 2 = .ok (.invokevirtual 75, 3) := by decide +kernel
theorem dX4_heapUp_5 : decode cX4_heapUp 5 = .ok (.iconst 0, 1) := by decide +kernel
theorem dX4_heapUp_6 : decode cX4_heapUp 6 = .ok (.istore_n 2, 1) := by decide +kernel
theorem dX4_heapUp_7 : decode cX4_heapUp 7 = .ok (.iload_n 2, 1) := by decide +kernel
theorem dX4_heapUp_8 : decode cX4_heapUp 8 = .ok (.aload_n 0, 1) := by decide +kernel
theorem dX4_heapUp_9 : decode cX4_heapUp 9 = .ok (.getfield 24, 3) := by decide +kernel
theorem dX4_heapUp_12 : decode cX4_heapUp 12 = .ok (.if_icmp .ge 13, 3) := by decide +kernel
theorem dX4_heapUp_15 : decode cX4_heapUp 15 = .ok (.aload_n 0, 1) := by decide +kernel
theorem dX4_heapUp_16 : decode cX4_heapUp 16 = .ok (.invokevirtual 79, 3) := by decide +kernel
theorem dX4_heapUp_19 : decode cX4_heapUp 19 = .ok (.iinc 2 1, 3) := by decide +kernel
theorem dX4_heapUp_22 : decode cX4_heapUp 22 = .ok (.goto (-15), 3) := by decide +kernel
theorem dX4_heapUp_25 : decode cX4_heapUp 25 = .ok (.return_, 1) := by decide +kernel
theorem dX4_howManyHeaps_0 : decode cX4_howManyHeaps 0 = .ok (.iconst 0, 1) := by decide +kernel
theorem dX4_howManyHeaps_1 : decode cX4_howManyHeaps 1 = .ok (.istore_n 1, 1) := by decide +kernel
theorem dX4_howManyHeaps_2 : decode cX4_howManyHeaps 2 = .ok (.iconst 0, 1) := by decide +kernel
theorem dX4_howManyHeaps_3 : decode cX4_howManyHeaps 3 = .ok (.istore_n 2, 1) := by decide +kernel
theorem dX4_howManyHeaps_4 : decode cX4_howManyHeaps 4 = .ok (.iload_n 2, 1) := by decide +kernel
theorem dX4_howManyHeaps_5 : decode cX4_howManyHeaps 5 = .ok (.aload_n 0, 1) := by decide +kernel
theorem dX4_howManyHeaps_6 : decode cX4_howManyHeaps 6 = .ok (.getfield 24, 3) := by decide +kernel
theorem dX4_howManyHeaps_9 : decode cX4_howManyHeaps 9 = .ok (.if_icmp .ge 24, 3) := by decide +kernel
theorem dX4_howManyHeaps_12 : decode cX4_howManyHeaps 12 = .ok (.aload_n 0, 1) := by decide +kernel
theorem dX4_howManyHeaps_13 : decode cX4_howManyHeaps 13 = .ok (.getfield 18, 3) := by decide +kernel
theorem dX4_howManyHeaps_16 : decode cX4_howManyHeaps 16 = .ok (.iload_n 2, 1) := by decide +kernel
theorem dX4_howManyHeaps_17 : decode cX4_howManyHeaps 17 = .ok (.invokestatic 53, 3) := by decide +kernel
theorem dX4_howManyHeaps_20 : decode cX4_howManyHeaps 20 = .ok (.iload_n 2, 1) := by decide +kernel
theorem dX4_howManyHeaps_21 : decode cX4_howManyHeaps 21 = .ok (.if_icmp .ne 6, 3) := by decide +kernel
theorem dX4_howManyHeaps_24 : decode cX4_howManyHeaps 24 = .ok (.iinc 1 1, 3) := by decide +kernel
theorem dX4_howManyHeaps_27 : decode cX4_howManyHeaps 27 = .ok (.iinc 2 1, 3) := by decide +kernel
theorem dX4_howManyHeaps_30 : decode cX4_howManyHeaps 30 = .ok (.goto (-26), 3) := by decide +kernel
theorem dX4_howManyHeaps_33 : decode cX4_howManyHeaps 33 = .ok (.iload_n 1, 1) := by decide +kernel
theorem dX4_howManyHeaps_34 : decode cX4_howManyHeaps 34 = .ok (.ireturn, 1) := by decide +kernel
theorem dX4_heapByAtoms_0 : decode cX4_heapByAtoms 0 = .ok (.iconst 0, 1) := by decide +kernel
theorem dX4_heapByAtoms_1 : decode cX4_heapByAtoms 1 = .ok (.istore_n 2, 1) := by decide +kernel
theorem dX4_heapByAtoms_2 : decode cX4_heapByAtoms 2 = .ok (.iload_n 2, 1) := by decide +kernel
theorem dX4_heapByAtoms_3 : decode cX4_heapByAtoms 3 = .ok (.aload_n 0, 1) := by decide +kernel
theorem dX4_heapByAtoms_4 : decode cX4_heapByAtoms 4 = .ok (.getfield 24, 3) := by decide +kernel
theorem dX4_heapByAtoms_7 : decode cX4_heapByAtoms 7 = .ok (.if_icmp .ge 40, 3) := by decide +kernel
theorem dX4_heapByAtoms_10 : decode cX4_heapByAtoms 10 = .ok (.iconst 0, 1) := by decide +kernel
theorem dX4_heapByAtoms_11 : decode cX4_heapByAtoms 11 = .ok (.istore_n 3, 1) := by decide +kernel
theorem dX4_heapByAtoms_12 : decode cX4_heapByAtoms 12 = .ok (.iload_n 3, 1) := by decide +kernel
theorem dX4_heapByAtoms_13 : decode cX4_heapByAtoms 13 = .ok (.iload_n 2, 1) := by decide +kernel
theorem dX4_heapByAtoms_14 : decode cX4_heapByAtoms 14 = .ok (.if_icmp .ge 18, 3) := by decide +kernel
theorem dX4_heapByAtoms_17 : decode cX4_heapByAtoms 17 = .ok (.aload_n 1, 1) := by decide +kernel
theorem dX4_heapByAtoms_18 : decode cX4_heapByAtoms 18 = .ok (.iload_n 3, 1) := by decide +kernel
theorem dX4_heapByAtoms_19 : decode cX4_heapByAtoms 19 = .ok (.iload_n 2, 1) := by decide +kernel
theorem dX4_heapByAtoms_20 : decode cX4_heapByAtoms 20 = .ok (.invokestatic 82, 3) := by decide +kernel
theorem dX4_heapByAtoms_23 : decode cX4_heapByAtoms 23 = .ok (.ifCond .ne 9, 3) := by decide +kernel
theorem dX4_heapByAtoms_26 : decode cX4_heapByAtoms 26 = .ok (.iinc 3 1, 3) := by decide +kernel
theorem dX4_heapByAtoms_29 : decode cX4_heapByAtoms 29 = .ok (.goto (-17), 3) := by decide +kernel
theorem dX4_heapByAtoms_32 : decode cX4_heapByAtoms 32 = .ok (.aload_n 0, 1) := by decide +kernel
theorem dX4_heapByAtoms_33 : decode cX4_heapByAtoms 33 = .ok (.getfield 18, 3) := by decide +kernel
theorem dX4_heapByAtoms_36 : decode cX4_heapByAtoms 36 = .ok (.iload_n 2, 1) := by decide +kernel
theorem dX4_heapByAtoms_37 : decode cX4_heapByAtoms 37 = .ok (.iload_n 3, 1) := by decide +kernel
theorem dX4_heapByAtoms_38 : decode cX4_heapByAtoms 38 = .ok (.invokestatic 37, 3) := by decide +kernel
theorem dX4_heapByAtoms_41 : decode cX4_heapByAtoms 41 = .ok (.iinc 2 1, 3) := by decide +kernel
theorem dX4_heapByAtoms_44 : decode cX4_heapByAtoms 44 = .ok (.goto (-42), 3) := by decide +kernel
theorem dX4_heapByAtoms_47 : decode cX4_heapByAtoms 47 = .ok (.return_, 1) := by decide +kernel
theorem dX4_sameAtoms_0 : decode cX4_sameAtoms 0 = .ok (.iconst 0, 1) := by decide +kernel
theorem dX4_sameAtoms_1 : decode cX4_sameAtoms 1 = .ok (.istore_n 3, 1) := by decide +kernel
theorem dX4_sameAtoms_2 : decode cX4_sameAtoms 2 = .ok (.iload_n 3, 1) := by decide +kernel
theorem dX4_sameAtoms_3 : decode cX4_sameAtoms 3 = .ok (.iconst 4, 1) := by decide +kernel
theorem dX4_sameAtoms_4 : decode cX4_sameAtoms 4 = .ok (.if_icmp .ge 36, 3) := by decide +kernel
theorem dX4_sameAtoms_7 : decode cX4_sameAtoms 7 = .ok (.aload_n 0, 1) := by decide +kernel
theorem dX4_sameAtoms_8 : decode cX4_sameAtoms 8 = .ok (.invokevirtual 86, 3) := by decide +kernel
theorem dX4_sameAtoms_11 : decode cX4_sameAtoms 11 = .ok (.iload_n 3, 1) := by decide +kernel
theorem dX4_sameAtoms_12 : decode cX4_sameAtoms 12 = .ok (.invokestatic 53, 3) := by decide +kernel
theorem dX4_sameAtoms_15 : decode cX4_sameAtoms 15 = .ok (.istore 4, 2) := by decide +kernel
theorem dX4_sameAtoms_17 : decode cX4_sameAtoms 17 = .ok (.iload 4, 2) := by decide +kernel
theorem dX4_sameAtoms_19 : decode cX4_sameAtoms 19 = .ok (.iload_n 1, 1) := by decide +kernel
theorem dX4_sameAtoms_20 : decode cX4_sameAtoms 20 = .ok (.invokestatic 90, 3) := by decide +kernel
theorem dX4_sameAtoms_23 : decode cX4_sameAtoms 23 = .ok (.iload 4, 2) := by decide +kernel
theorem dX4_sameAtoms_25 : decode cX4_sameAtoms 25 = .ok (.iload_n 2, 1) := by decide +kernel
theorem dX4_sameAtoms_26 : decode cX4_sameAtoms 26 = .ok (.invokestatic 90, 3) := by decide +kernel
theorem dX4_sameAtoms_29 : decode cX4_sameAtoms 29 = .ok (.if_icmp .eq 5, 3) := by decide +kernel
theorem dX4_sameAtoms_32 : decode cX4_sameAtoms 32 = .ok (.iconst 0, 1) := by decide +kernel
theorem dX4_sameAtoms_33 : decode cX4_sameAtoms 33 = .ok (.ireturn, 1) := by decide +kernel
theorem dX4_sameAtoms_34 : decode cX4_sameAtoms 34 = .ok (.iinc 3 1, 3) := by decide +kernel
theorem dX4_sameAtoms_37 : decode cX4_sameAtoms 37 = .ok (.goto (-35), 3) := by decide +kernel
theorem dX4_sameAtoms_40 : decode cX4_sameAtoms 40 = .ok (.iconst 1, 1) := by decide +kernel
theorem dX4_sameAtoms_41 : decode cX4_sameAtoms 41 = .ok (.ireturn, 1) := by decide +kernel
theorem dX4_heapFiner_0 : decode cX4_heapFiner 0 = .ok (.iconst 0, 1) := by decide +kernel
theorem dX4_heapFiner_1 : decode cX4_heapFiner 1 = .ok (.istore_n 1, 1) := by decide +kernel
theorem dX4_heapFiner_2 : decode cX4_heapFiner 2 = .ok (.iload_n 1, 1) := by decide +kernel
theorem dX4_heapFiner_3 : decode cX4_heapFiner 3 = .ok (.aload_n 0, 1) := by decide +kernel
theorem dX4_heapFiner_4 : decode cX4_heapFiner 4 = .ok (.getfield 24, 3) := by decide +kernel
theorem dX4_heapFiner_7 : decode cX4_heapFiner 7 = .ok (.if_icmp .ge 40, 3) := by decide +kernel
theorem dX4_heapFiner_10 : decode cX4_heapFiner 10 = .ok (.iconst 0, 1) := by decide +kernel
theorem dX4_heapFiner_11 : decode cX4_heapFiner 11 = .ok (.istore_n 2, 1) := by decide +kernel
theorem dX4_heapFiner_12 : decode cX4_heapFiner 12 = .ok (.iload_n 2, 1) := by decide +kernel
theorem dX4_heapFiner_13 : decode cX4_heapFiner 13 = .ok (.iload_n 1, 1) := by decide +kernel
theorem dX4_heapFiner_14 : decode cX4_heapFiner 14 = .ok (.if_icmp .ge 18, 3) := by decide +kernel
theorem dX4_heapFiner_17 : decode cX4_heapFiner 17 = .ok (.aload_n 0, 1) := by decide +kernel
theorem dX4_heapFiner_18 : decode cX4_heapFiner 18 = .ok (.iload_n 2, 1) := by decide +kernel
theorem dX4_heapFiner_19 : decode cX4_heapFiner 19 = .ok (.iload_n 1, 1) := by decide +kernel
theorem dX4_heapFiner_20 : decode cX4_heapFiner 20 = .ok (.invokevirtual 93, 3) := by decide +kernel
theorem dX4_heapFiner_23 : decode cX4_heapFiner 23 = .ok (.ifCond .ne 9, 3) := by decide +kernel
theorem dX4_heapFiner_26 : decode cX4_heapFiner 26 = .ok (.iinc 2 1, 3) := by decide +kernel
theorem dX4_heapFiner_29 : decode cX4_heapFiner 29 = .ok (.goto (-17), 3) := by decide +kernel
theorem dX4_heapFiner_32 : decode cX4_heapFiner 32 = .ok (.aload_n 0, 1) := by decide +kernel
theorem dX4_heapFiner_33 : decode cX4_heapFiner 33 = .ok (.getfield 21, 3) := by decide +kernel
theorem dX4_heapFiner_36 : decode cX4_heapFiner 36 = .ok (.iload_n 1, 1) := by decide +kernel
theorem dX4_heapFiner_37 : decode cX4_heapFiner 37 = .ok (.iload_n 2, 1) := by decide +kernel
theorem dX4_heapFiner_38 : decode cX4_heapFiner 38 = .ok (.invokestatic 37, 3) := by decide +kernel
theorem dX4_heapFiner_41 : decode cX4_heapFiner 41 = .ok (.iinc 1 1, 3) := by decide +kernel
theorem dX4_heapFiner_44 : decode cX4_heapFiner 44 = .ok (.goto (-42), 3) := by decide +kernel
theorem dX4_heapFiner_47 : decode cX4_heapFiner 47 = .ok (.iconst 0, 1) := by decide +kernel
theorem dX4_heapFiner_48 : decode cX4_heapFiner 48 = .ok (.istore_n 1, 1) := by decide +kernel
theorem dX4_heapFiner_49 : decode cX4_heapFiner 49 = .ok (.iload_n 1, 1) := by decide +kernel
theorem dX4_heapFiner_50 : decode cX4_heapFiner 50 = .ok (.aload_n 0, 1) := by decide +kernel
theorem dX4_heapFiner_51 : decode cX4_heapFiner 51 = .ok (.getfield 24, 3) := by decide +kernel
theorem dX4_heapFiner_54 : decode cX4_heapFiner 54 = .ok (.if_icmp .ge 25, 3) := by decide +kernel
theorem dX4_heapFiner_57 : decode cX4_heapFiner 57 = .ok (.aload_n 0, 1) := by decide +kernel
theorem dX4_heapFiner_58 : decode cX4_heapFiner 58 = .ok (.getfield 18, 3) := by decide +kernel
theorem dX4_heapFiner_61 : decode cX4_heapFiner 61 = .ok (.iload_n 1, 1) := by decide +kernel
theorem dX4_heapFiner_62 : decode cX4_heapFiner 62 = .ok (.aload_n 0, 1) := by decide +kernel
theorem dX4_heapFiner_63 : decode cX4_heapFiner 63 = .ok (.getfield 21, 3) := by decide +kernel
theorem dX4_heapFiner_66 : decode cX4_heapFiner 66 = .ok (.iload_n 1, 1) := by decide +kernel
theorem dX4_heapFiner_67 : decode cX4_heapFiner 67 = .ok (.invokestatic 53, 3) := by decide +kernel
theorem dX4_heapFiner_70 : decode cX4_heapFiner 70 = .ok (.invokestatic 37, 3) := by decide +kernel
theorem dX4_heapFiner_73 : decode cX4_heapFiner 73 = .ok (.iinc 1 1, 3) := by decide +kernel
theorem dX4_heapFiner_76 : decode cX4_heapFiner 76 = .ok (.goto (-27), 3) := by decide +kernel
theorem dX4_heapFiner_79 : decode cX4_heapFiner 79 = .ok (.return_, 1) := by decide +kernel
theorem dX4_sameHeaps_0 : decode cX4_sameHeaps 0 = .ok (.aload_n 0, 1) := by decide +kernel
theorem dX4_sameHeaps_1 : decode cX4_sameHeaps 1 = .ok (.getfield 18, 3) := by decide +kernel
theorem dX4_sameHeaps_4 : decode cX4_sameHeaps 4 = .ok (.iload_n 1, 1) := by decide +kernel
theorem dX4_sameHeaps_5 : decode cX4_sameHeaps 5 = .ok (.invokestatic 53, 3) := by decide +kernel
theorem dX4_sameHeaps_8 : decode cX4_sameHeaps 8 = .ok (.aload_n 0, 1) := by decide +kernel
theorem dX4_sameHeaps_9 : decode cX4_sameHeaps 9 = .ok (.getfield 18, 3) := by decide +kernel
theorem dX4_sameHeaps_12 : decode cX4_sameHeaps 12 = .ok (.iload_n 2, 1) := by decide +kernel
theorem dX4_sameHeaps_13 : decode cX4_sameHeaps 13 = .ok (.invokestatic 53, 3) := by decide +kernel
theorem dX4_sameHeaps_16 : decode cX4_sameHeaps 16 = .ok (.if_icmp .ne 20, 3) := by decide +kernel
theorem dX4_sameHeaps_19 : decode cX4_sameHeaps 19 = .ok (.aload_n 0, 1) := by decide +kernel
theorem dX4_sameHeaps_20 : decode cX4_sameHeaps 20 = .ok (.iload_n 1, 1) := by decide +kernel
theorem dX4_sameHeaps_21 : decode cX4_sameHeaps 21 = .ok (.invokevirtual 96, 3) := by decide +kernel
theorem dX4_sameHeaps_24 : decode cX4_sameHeaps 24 = .ok (.aload_n 0, 1) := by decide +kernel
theorem dX4_sameHeaps_25 : decode cX4_sameHeaps 25 = .ok (.iload_n 2, 1) := by decide +kernel
theorem dX4_sameHeaps_26 : decode cX4_sameHeaps 26 = .ok (.invokevirtual 96, 3) := by decide +kernel
theorem dX4_sameHeaps_29 : decode cX4_sameHeaps 29 = .ok (.if_icmp .ne 7, 3) := by decide +kernel
theorem dX4_sameHeaps_32 : decode cX4_sameHeaps 32 = .ok (.iconst 1, 1) := by decide +kernel
theorem dX4_sameHeaps_33 : decode cX4_sameHeaps 33 = .ok (.goto 4, 3) := by decide +kernel
theorem dX4_sameHeaps_36 : decode cX4_sameHeaps 36 = .ok (.iconst 0, 1) := by decide +kernel
theorem dX4_sameHeaps_37 : decode cX4_sameHeaps 37 = .ok (.ireturn, 1) := by decide +kernel
theorem dX4_heapsSeen_0 : decode cX4_heapsSeen 0 = .ok (.iconst 0, 1) := by decide +kernel
theorem dX4_heapsSeen_1 : decode cX4_heapsSeen 1 = .ok (.istore_n 2, 1) := by decide +kernel
theorem dX4_heapsSeen_2 : decode cX4_heapsSeen 2 = .ok (.iconst 0, 1) := by decide +kernel
theorem dX4_heapsSeen_3 : decode cX4_heapsSeen 3 = .ok (.istore_n 3, 1) := by decide +kernel
theorem dX4_heapsSeen_4 : decode cX4_heapsSeen 4 = .ok (.iload_n 3, 1) := by decide +kernel
theorem dX4_heapsSeen_5 : decode cX4_heapsSeen 5 = .ok (.aload_n 0, 1) := by decide +kernel
theorem dX4_heapsSeen_6 : decode cX4_heapsSeen 6 = .ok (.getfield 24, 3) := by decide +kernel
theorem dX4_heapsSeen_9 : decode cX4_heapsSeen 9 = .ok (.if_icmp .ge 38, 3) := by decide +kernel
theorem dX4_heapsSeen_12 : decode cX4_heapsSeen 12 = .ok (.aload_n 0, 1) := by decide +kernel
theorem dX4_heapsSeen_13 : decode cX4_heapsSeen 13 = .ok (.getfield 9, 3) := by decide +kernel
theorem dX4_heapsSeen_16 : decode cX4_heapsSeen 16 = .ok (.iload_n 1, 1) := by decide +kernel
theorem dX4_heapsSeen_17 : decode cX4_heapsSeen 17 = .ok (.invokestatic 53, 3) := by decide +kernel
theorem dX4_heapsSeen_20 : decode cX4_heapsSeen 20 = .ok (.iload_n 3, 1) := by decide +kernel
theorem dX4_heapsSeen_21 : decode cX4_heapsSeen 21 = .ok (.invokestatic 90, 3) := by decide +kernel
theorem dX4_heapsSeen_24 : decode cX4_heapsSeen 24 = .ok (.iconst 1, 1) := by decide +kernel
theorem dX4_heapsSeen_25 : decode cX4_heapsSeen 25 = .ok (.if_icmp .ne 16, 3) := by decide +kernel
theorem dX4_heapsSeen_28 : decode cX4_heapsSeen 28 = .ok (.iload_n 2, 1) := by decide +kernel
theorem dX4_heapsSeen_29 : decode cX4_heapsSeen 29 = .ok (.iconst 1, 1) := by decide +kernel
theorem dX4_heapsSeen_30 : decode cX4_heapsSeen 30 = .ok (.aload_n 0, 1) := by decide +kernel
theorem dX4_heapsSeen_31 : decode cX4_heapsSeen 31 = .ok (.getfield 18, 3) := by decide +kernel
theorem dX4_heapsSeen_34 : decode cX4_heapsSeen 34 = .ok (.iload_n 3, 1) := by decide +kernel
theorem dX4_heapsSeen_35 : decode cX4_heapsSeen 35 = .ok (.invokestatic 53, 3) := by decide +kernel
theorem dX4_heapsSeen_38 : decode cX4_heapsSeen 38 = .ok (.ishl, 1) := by decide +kernel
theorem dX4_heapsSeen_39 : decode cX4_heapsSeen 39 = .ok (.ior, 1) := by decide +kernel
theorem dX4_heapsSeen_40 : decode cX4_heapsSeen 40 = .ok (.istore_n 2, 1) := by decide +kernel
theorem dX4_heapsSeen_41 : decode cX4_heapsSeen 41 = .ok (.iinc 3 1, 3) := by decide +kernel
theorem dX4_heapsSeen_44 : decode cX4_heapsSeen 44 = .ok (.goto (-40), 3) := by decide +kernel
theorem dX4_heapsSeen_47 : decode cX4_heapsSeen 47 = .ok (.iload_n 2, 1) := by decide +kernel
theorem dX4_heapsSeen_48 : decode cX4_heapsSeen 48 = .ok (.ireturn, 1) := by decide +kernel
theorem dX5_init_0 : decode cX5_init 0 = .ok (.aload_n 0, 1) := by decide +kernel
theorem dX5_init_1 : decode cX5_init 1 = .ok (.invokespecial 3, 3) := by decide +kernel
theorem dX5_init_4 : decode cX5_init 4 = .ok (.aload_n 0, 1) := by decide +kernel
theorem dX5_init_5 : decode cX5_init 5 = .ok (.new 9, 3) := by decide +kernel
theorem dX5_init_8 : decode cX5_init 8 = .ok (.dup, 1) := by decide +kernel
theorem dX5_init_9 : decode cX5_init 9 = .ok (.invokespecial 11, 3) := by decide +kernel
theorem dX5_init_12 : decode cX5_init 12 = .ok (.putfield 12, 3) := by decide +kernel
theorem dX5_init_15 : decode cX5_init 15 = .ok (.aload_n 0, 1) := by decide +kernel
theorem dX5_init_16 : decode cX5_init 16 = .ok (.new 16, 3) := by decide +kernel
theorem dX5_init_19 : decode cX5_init 19 = .ok (.dup, 1) := by decide +kernel
theorem dX5_init_20 : decode cX5_init 20 = .ok (.invokespecial 18, 3) := by decide +kernel
theorem dX5_init_23 : decode cX5_init 23 = .ok (.putfield 19, 3) := by decide +kernel
theorem dX5_init_26 : decode cX5_init 26 = .ok (.aload_n 0, 1) := by decide +kernel
theorem dX5_init_27 : decode cX5_init 27 = .ok (.new 23, 3) := by decide +kernel
theorem dX5_init_30 : decode cX5_init 30 = .ok (.dup, 1) := by decide +kernel
theorem dX5_init_31 : decode cX5_init 31 = .ok (.invokespecial 25, 3) := by decide +kernel
theorem dX5_init_34 : decode cX5_init 34 = .ok (.putfield 26, 3) := by decide +kernel
theorem dX5_init_37 : decode cX5_init 37 = .ok (.aload_n 0, 1) := by decide +kernel
theorem dX5_init_38 : decode cX5_init 38 = .ok (.new 30, 3) := by decide +kernel
theorem dX5_init_41 : decode cX5_init 41 = .ok (.dup, 1) := by decide +kernel
theorem dX5_init_42 : decode cX5_init 42 = .ok (.invokespecial 32, 3) := by decide +kernel
theorem dX5_init_45 : decode cX5_init 45 = .ok (.putfield 33, 3) := by decide +kernel
theorem dX5_init_48 : decode cX5_init 48 = .ok (.aload_n 0, 1) := by decide +kernel
theorem dX5_init_49 : decode cX5_init 49 = .ok (.bipush 6, 2) := by decide +kernel
theorem dX5_init_51 : decode cX5_init 51 = .ok (.anewarray 37, 3) := by decide +kernel
theorem dX5_init_54 : decode cX5_init 54 = .ok (.putfield 39, 3) := by decide +kernel
theorem dX5_init_57 : decode cX5_init 57 = .ok (.aload_n 0, 1) := by decide +kernel
theorem dX5_init_58 : decode cX5_init 58 = .ok (.new 37, 3) := by decide +kernel
theorem dX5_init_61 : decode cX5_init 61 = .ok (.dup, 1) := by decide +kernel
theorem dX5_init_62 : decode cX5_init 62 = .ok (.bipush 81, 2) := by decide +kernel
theorem dX5_init_64 : decode cX5_init 64 = .ok (.invokespecial 43, 3) := by decide +kernel
theorem dX5_init_67 : decode cX5_init 67 = .ok (.putfield 46, 3) := by decide +kernel
theorem dX5_init_70 : decode cX5_init 70 = .ok (.aload_n 0, 1) := by decide +kernel
theorem dX5_init_71 : decode cX5_init 71 = .ok (.bipush 40, 2) := by decide +kernel
theorem dX5_init_73 : decode cX5_init 73 = .ok (.newarray .int, 2) := by decide +kernel
theorem dX5_init_75 : decode cX5_init 75 = .ok (.putfield 50, 3) := by decide +kernel
theorem dX5_init_78 : decode cX5_init 78 = .ok (.aload_n 0, 1) := by decide +kernel
theorem dX5_init_79 : decode cX5_init 79 = .ok (.iconst 4, 1) := by decide +kernel
theorem dX5_init_80 : decode cX5_init 80 = .ok (.newarray .int, 2) := by decide +kernel
theorem dX5_init_82 : decode cX5_init 82 = .ok (.putfield 54, 3) := by decide +kernel
theorem dX5_init_85 : decode cX5_init 85 = .ok (.aload_n 0, 1) := by decide +kernel
theorem dX5_init_86 : decode cX5_init 86 = .ok (.sipush 200, 3) := by decide +kernel
theorem dX5_init_89 : decode cX5_init 89 = .ok (.newarray .int, 2) := by decide +kernel
theorem dX5_init_91 : decode cX5_init 91 = .ok (.putfield 57, 3) := by decide +kernel
theorem dX5_init_94 : decode cX5_init 94 = .ok (.aload_n 0, 1) := by decide +kernel
theorem dX5_init_95 : decode cX5_init 95 = .ok (.iconst 0, 1) := by decide +kernel
theorem dX5_init_96 : decode cX5_init 96 = .ok (.putfield 60, 3) := by decide +kernel
theorem dX5_init_99 : decode cX5_init 99 = .ok (.aload_n 0, 1) := by decide +kernel
theorem dX5_init_100 : decode cX5_init 100 = .ok (.lconst 0, 1) := by decide +kernel
theorem dX5_init_101 : decode cX5_init 101 = .ok (.putfield 64, 3) := by decide +kernel
theorem dX5_init_104 : decode cX5_init 104 = .ok (.iconst 0, 1) := by decide +kernel
theorem dX5_init_105 : decode cX5_init 105 = .ok (.istore_n 1, 1) := by decide +kernel
theorem dX5_init_106 : decode cX5_init 106 = .ok (.iload_n 1, 1) := by decide +kernel
theorem dX5_init_107 : decode cX5_init 107 = .ok (.aload_n 0, 1) := by decide +kernel
theorem dX5_init_108 : decode cX5_init 108 = .ok (.getfield 39, 3) := by decide +kernel
theorem dX5_init_111 : decode cX5_init 111 = .ok (.arraylength, 1) := by decide +kernel
theorem dX5_init_112 : decode cX5_init 112 = .ok (.if_icmp .ge 24, 3) := by decide +kernel
theorem dX5_init_115 : decode cX5_init 115 = .ok (.aload_n 0, 1) := by decide +kernel
theorem dX5_init_116 : decode cX5_init 116 = .ok (.getfield 39, 3) := by decide +kernel
theorem dX5_init_119 : decode cX5_init 119 = .ok (.iload_n 1, 1) := by decide +kernel
theorem dX5_init_120 : decode cX5_init 120 = .ok (.new 37, 3) := by decide +kernel
theorem dX5_init_123 : decode cX5_init 123 = .ok (.dup, 1) := by decide +kernel
theorem dX5_init_124 : decode cX5_init 124 = .ok (.bipush 40, 2) := by decide +kernel
theorem dX5_init_126 : decode cX5_init 126 = .ok (.invokespecial 43, 3) := by decide +kernel
theorem dX5_init_129 : decode cX5_init 129 = .ok (.aastore, 1) := by decide +kernel
theorem dX5_init_130 : decode cX5_init 130 = .ok (.iinc 1 1, 3) := by decide +kernel
theorem dX5_init_133 : decode cX5_init 133 = .ok (.goto (-27), 3) := by decide +kernel
theorem dX5_init_136 : decode cX5_init 136 = .ok (.return_, 1) := by decide +kernel
theorem dX5_worlds_0 : decode cX5_worlds 0 = .ok (.iload_n 1, 1) := by decide +kernel
theorem dX5_worlds_1 : decode cX5_worlds 1 = .ok (.iconst 1, 1) := by decide +kernel
theorem dX5_worlds_2 : decode cX5_worlds 2 = .ok (.if_icmp .lt 9, 3) := by decide +kernel
theorem dX5_worlds_5 : decode cX5_worlds 5 = .ok (.iload_n 1, 1) := by decide +kernel
theorem dX5_worlds_6 : decode cX5_worlds 6 = .ok (.bipush 8, 2) := by decide +kernel
theorem dX5_worlds_8 : decode cX5_worlds 8 = .ok (.if_icmp .le 5, 3) := by decide +kernel
theorem dX5_worlds_11 : decode cX5_worlds 11 = .ok (.iconst (-1), 1) := by decide +kernel
theorem dX5_worlds_12 : decode cX5_worlds 12 = .ok (.ireturn, 1) := by decide +kernel
theorem dX5_worlds_13 : decode cX5_worlds 13 = .ok (.aload_n 0, 1) := by decide +kernel
theorem dX5_worlds_14 : decode cX5_worlds 14 = .ok (.getfield 12, 3) := by decide +kernel
theorem dX5_worlds_17 : decode cX5_worlds 17 = .ok (.invokevirtual 68, 3) := by decide +kernel
theorem dX5_worlds_20 : decode cX5_worlds 20 = .ok (.istore_n 2, 1) := by decide +kernel
theorem dX5_worlds_21 : decode cX5_worlds 21 = .ok (.aload_n 0, 1) := by decide +kernel
theorem dX5_worlds_22 : decode cX5_worlds 22 = .ok (.getfield 12, 3) := by decide +kernel
theorem dX5_worlds_25 : decode cX5_worlds 25 = .ok (.iload_n 1, 1) := by decide +kernel
theorem dX5_worlds_26 : decode cX5_worlds 26 = .ok (.invokevirtual 72, 3) := by decide +kernel
theorem dX5_worlds_29 : decode cX5_worlds 29 = .ok (.iload_n 2, 1) := by decide +kernel
theorem dX5_worlds_30 : decode cX5_worlds 30 = .ok (.ireturn, 1) := by decide +kernel
theorem dX5_see_0 : decode cX5_see 0 = .ok (.aload_n 0, 1) := by decide +kernel
theorem dX5_see_1 : decode cX5_see 1 = .ok (.getfield 12, 3) := by decide +kernel
theorem dX5_see_4 : decode cX5_see 4 = .ok (.iload_n 1, 1) := by decide +kernel
theorem dX5_see_5 : decode cX5_see 5 = .ok (.invokevirtual 75, 3) := by decide +kernel
theorem dX5_see_8 : decode cX5_see 8 = .ok (.ifCond .eq 21, 3) := by decide +kernel
theorem dX5_see_11 : decode cX5_see 11 = .ok (.aload_n 0, 1) := by decide +kernel
theorem dX5_see_12 : decode cX5_see 12 = .ok (.getfield 12, 3) := by decide +kernel
theorem dX5_see_15 : decode cX5_see 15 = .ok (.iload_n 2, 1) := by decide +kernel
theorem dX5_see_16 : decode cX5_see 16 = .ok (.invokevirtual 75, 3) := by decide +kernel
theorem dX5_see_19 : decode cX5_see 19 = .ok (.ifCond .eq 10, 3) := by decide +kernel
theorem dX5_see_22 : decode cX5_see 22 = .ok (.iload_n 3, 1) := by decide +kernel
theorem dX5_see_23 : decode cX5_see 23 = .ok (.invokestatic 79, 3) := by decide +kernel
theorem dX5_see_26 : decode cX5_see 26 = .ok (.ifCond .ne 5, 3) := by decide +kernel
theorem dX5_see_29 : decode cX5_see 29 = .ok (.iconst (-1), 1) := by decide +kernel
theorem dX5_see_30 : decode cX5_see 30 = .ok (.ireturn, 1) := by decide +kernel
theorem dX5_see_31 : decode cX5_see 31 = .ok (.aload_n 0, 1) := by decide +kernel
theorem dX5_see_32 : decode cX5_see 32 = .ok (.getfield 12, 3) := by decide +kernel
theorem dX5_see_35 : decode cX5_see 35 = .ok (.iconst 0, 1) := by decide +kernel
theorem dX5_see_36 : decode cX5_see 36 = .ok (.iload_n 1, 1) := by decide +kernel
theorem dX5_see_37 : decode cX5_see 37 = .ok (.invokevirtual 82, 3) := by decide +kernel
theorem dX5_see_40 : decode cX5_see 40 = .ok (.iload_n 2, 1) := by decide +kernel
theorem dX5_see_41 : decode cX5_see 41 = .ok (.invokestatic 86, 3) := by decide +kernel
theorem dX5_see_44 : decode cX5_see 44 = .ok (.istore 4, 2) := by decide +kernel
theorem dX5_see_46 : decode cX5_see 46 = .ok (.aload_n 0, 1) := by decide +kernel
theorem dX5_see_47 : decode cX5_see 47 = .ok (.getfield 12, 3) := by decide +kernel
theorem dX5_see_50 : decode cX5_see 50 = .ok (.iload_n 1, 1) := by decide +kernel
theorem dX5_see_51 : decode cX5_see 51 = .ok (.iload_n 2, 1) := by decide +kernel
theorem dX5_see_52 : decode cX5_see 52 = .ok (.iload_n 3, 1) := by decide +kernel
theorem dX5_see_53 : decode cX5_see 53 = .ok (.invokevirtual 89, 3) := by decide +kernel
theorem dX5_see_56 : decode cX5_see 56 = .ok (.iload 4, 2) := by decide +kernel
theorem dX5_see_58 : decode cX5_see 58 = .ok (.ireturn, 1) := by decide +kernel
theorem dX5_atom_0 : decode cX5_atom 0 = .ok (.iload_n 1, 1) := by decide +kernel
theorem dX5_atom_1 : decode cX5_atom 1 = .ok (.ifCond .lt 23, 3) := by decide +kernel
theorem dX5_atom_4 : decode cX5_atom 4 = .ok (.iload_n 1, 1) := by decide +kernel
theorem dX5_atom_5 : decode cX5_atom 5 = .ok (.iconst 4, 1) := by decide +kernel
theorem dX5_atom_6 : decode cX5_atom 6 = .ok (.if_icmp .ge 18, 3) := by decide +kernel
theorem dX5_atom_9 : decode cX5_atom 9 = .ok (.iload_n 2, 1) := by decide +kernel
theorem dX5_atom_10 : decode cX5_atom 10 = .ok (.ifCond .lt 14, 3) := by decide +kernel
theorem dX5_atom_13 : decode cX5_atom 13 = .ok (.iload_n 2, 1) := by decide +kernel
theorem dX5_atom_14 : decode cX5_atom 14 = .ok (.aload_n 0, 1) := by decide +kernel
theorem dX5_atom_15 : decode cX5_atom 15 = .ok (.getfield 12, 3) := by decide +kernel
theorem dX5_atom_18 : decode cX5_atom 18 = .ok (.invokevirtual 93, 3) := by decide +kernel
theorem dX5_atom_21 : decode cX5_atom 21 = .ok (.if_icmp .le 5, 3) := by decide +kernel
theorem dX5_atom_24 : decode cX5_atom 24 = .ok (.iconst (-1), 1) := by decide +kernel
theorem dX5_atom_25 : decode cX5_atom 25 = .ok (.ireturn, 1) := by decide +kernel
theorem dX5_atom_26 : decode cX5_atom 26 = .ok (.aload_n 0, 1) := by decide +kernel
theorem dX5_atom_27 : decode cX5_atom 27 = .ok (.getfield 12, 3) := by decide +kernel
theorem dX5_atom_30 : decode cX5_atom 30 = .ok (.invokevirtual 96, 3) := by decide +kernel
theorem dX5_atom_33 : decode cX5_atom 33 = .ok (.iload_n 1, 1) := by decide +kernel
theorem dX5_atom_34 : decode cX5_atom 34 = .ok (.invokestatic 100, 3) := by decide +kernel
theorem dX5_atom_37 : decode cX5_atom 37 = .ok (.istore_n 3, 1) := by decide +kernel
theorem dX5_atom_38 : decode cX5_atom 38 = .ok (.aload_n 0, 1) := by decide +kernel
theorem dX5_atom_39 : decode cX5_atom 39 = .ok (.getfield 12, 3) := by decide +kernel
theorem dX5_atom_42 : decode cX5_atom 42 = .ok (.invokevirtual 96, 3) := by decide +kernel
theorem dX5_atom_45 : decode cX5_atom 45 = .ok (.iload_n 1, 1) := by decide +kernel
theorem dX5_atom_46 : decode cX5_atom 46 = .ok (.iload_n 2, 1) := by decide +kernel
theorem dX5_atom_47 : decode cX5_atom 47 = .ok (.invokestatic 104, 3) := by decide +kernel
theorem dX5_atom_50 : decode cX5_atom 50 = .ok (.iload_n 3, 1) := by decide +kernel
theorem dX5_atom_51 : decode cX5_atom 51 = .ok (.ireturn, 1) := by decide +kernel
theorem dX5_seen_0 : decode cX5_seen 0 = .ok (.iload_n 1, 1) := by decide +kernel
theorem dX5_seen_1 : decode cX5_seen 1 = .ok (.invokestatic 108, 3) := by decide +kernel
theorem dX5_seen_4 : decode cX5_seen 4 = .ok (.ifCond .eq 14, 3) := by decide +kernel
theorem dX5_seen_7 : decode cX5_seen 7 = .ok (.aload_n 0, 1) := by decide +kernel
theorem dX5_seen_8 : decode cX5_seen 8 = .ok (.getfield 12, 3) := by decide +kernel
theorem dX5_seen_11 : decode cX5_seen 11 = .ok (.iload_n 2, 1) := by decide +kernel
theorem dX5_seen_12 : decode cX5_seen 12 = .ok (.invokevirtual 75, 3) := by decide +kernel
theorem dX5_seen_15 : decode cX5_seen 15 = .ok (.ifCond .ne 5, 3) := by decide +kernel
theorem dX5_seen_18 : decode cX5_seen 18 = .ok (.iconst (-1), 1) := by decide +kernel
theorem dX5_seen_19 : decode cX5_seen 19 = .ok (.ireturn, 1) := by decide +kernel
theorem dX5_seen_20 : decode cX5_seen 20 = .ok (.aload_n 0, 1) := by decide +kernel
theorem dX5_seen_21 : decode cX5_seen 21 = .ok (.dup, 1) := by decide +kernel
theorem dX5_seen_22 : decode cX5_seen 22 = .ok (.getfield 64, 3) := by decide +kernel
theorem dX5_seen_25 : decode cX5_seen 25 = .ok (.getstatic 111, 3) := by decide +kernel
theorem dX5_seen_28 : decode cX5_seen 28 = .ok (.iload_n 1, 1) := by decide +kernel
theorem dX5_seen_29 : decode cX5_seen 29 = .ok (.invokestatic 100, 3) := by decide +kernel
theorem dX5_seen_32 : decode cX5_seen 32 = .ok (.i2l, 1) := by decide +kernel
theorem dX5_seen_33 : decode cX5_seen 33 = .ok (.ladd, 1) := by decide +kernel
theorem dX5_seen_34 : decode cX5_seen 34 = .ok (.putfield 64, 3) := by decide +kernel
theorem dX5_seen_37 : decode cX5_seen 37 = .ok (.aload_n 0, 1) := by decide +kernel
theorem dX5_seen_38 : decode cX5_seen 38 = .ok (.getfield 12, 3) := by decide +kernel
theorem dX5_seen_41 : decode cX5_seen 41 = .ok (.iload_n 1, 1) := by decide +kernel
theorem dX5_seen_42 : decode cX5_seen 42 = .ok (.iload_n 2, 1) := by decide +kernel
theorem dX5_seen_43 : decode cX5_seen 43 = .ok (.invokevirtual 82, 3) := by decide +kernel
theorem dX5_seen_46 : decode cX5_seen 46 = .ok (.ireturn, 1) := by decide +kernel
theorem dX5_sorts_0 : decode cX5_sorts 0 = .ok (.aload_n 0, 1) := by decide +kernel
theorem dX5_sorts_1 : decode cX5_sorts 1 = .ok (.getfield 12, 3) := by decide +kernel
theorem dX5_sorts_4 : decode cX5_sorts 4 = .ok (.invokevirtual 114, 3) := by decide +kernel
theorem dX5_sorts_7 : decode cX5_sorts 7 = .ok (.ireturn, 1) := by decide +kernel
theorem dX5_type_0 : decode cX5_type 0 = .ok (.iload_n 3, 1) := by decide +kernel
theorem dX5_type_1 : decode cX5_type 1 = .ok (.iconst 1, 1) := by decide +kernel
theorem dX5_type_2 : decode cX5_type 2 = .ok (.if_icmp .lt 9, 3) := by decide +kernel
theorem dX5_type_5 : decode cX5_type 5 = .ok (.iload_n 3, 1) := by decide +kernel
theorem dX5_type_6 : decode cX5_type 6 = .ok (.bipush 8, 2) := by decide +kernel
theorem dX5_type_8 : decode cX5_type 8 = .ok (.if_icmp .le 5, 3) := by decide +kernel
theorem dX5_type_11 : decode cX5_type 11 = .ok (.iconst (-1), 1) := by decide +kernel
theorem dX5_type_12 : decode cX5_type 12 = .ok (.ireturn, 1) := by decide +kernel
theorem dX5_type_13 : decode cX5_type 13 = .ok (.aload_n 0, 1) := by decide +kernel
theorem dX5_type_14 : decode cX5_type 14 = .ok (.getfield 60, 3) := by decide +kernel
theorem dX5_type_17 : decode cX5_type 17 = .ok (.iload_n 3, 1) := by decide +kernel
theorem dX5_type_18 : decode cX5_type 18 = .ok (.iadd, 1) := by decide +kernel
theorem dX5_type_19 : decode cX5_type 19 = .ok (.sipush 200, 3) := by decide +kernel
theorem dX5_type_22 : decode cX5_type 22 = .ok (.if_icmp .le 6, 3) := by decide +kernel
theorem dX5_type_25 : decode cX5_type 25 = .ok (.bipush (-3), 2) := by decide +kernel
theorem dX5_type_27 : decode cX5_type 27 = .ok (.ireturn, 1) := by decide +kernel
theorem dX5_type_28 : decode cX5_type 28 = .ok (.iload_n 3, 1) := by decide +kernel
theorem dX5_type_29 : decode cX5_type 29 = .ok (.iconst 1, 1) := by decide +kernel
theorem dX5_type_30 : decode cX5_type 30 = .ok (.isub, 1) := by decide +kernel
theorem dX5_type_31 : decode cX5_type 31 = .ok (.istore 4, 2) := by decide +kernel
theorem dX5_type_33 : decode cX5_type 33 = .ok (.iload 4, 2) := by decide +kernel
theorem dX5_type_35 : decode cX5_type 35 = .ok (.ifCond .lt 42, 3) := by decide +kernel
theorem dX5_type_38 : decode cX5_type 38 = .ok (.aload_n 0, 1) := by decide +kernel
theorem dX5_type_39 : decode cX5_type 39 = .ok (.getfield 57, 3) := by decide +kernel
theorem dX5_type_42 : decode cX5_type 42 = .ok (.aload_n 0, 1) := by decide +kernel
theorem dX5_type_43 : decode cX5_type 43 = .ok (.getfield 60, 3) := by decide +kernel
theorem dX5_type_46 : decode cX5_type 46 = .ok (.lload_n 1, 1) := by decide +kernel
theorem dX5_type_47 : decode cX5_type 47 = .ok (.bipush 8, 2) := by decide +kernel
theorem dX5_type_49 : decode cX5_type 49 = .ok (.iload 4, 2) := by decide +kernel
theorem dX5_type_51 : decode cX5_type 51 = .ok (.imul, 1) := by decide +kernel
theorem dX5_type_52 : decode cX5_type 52 = .ok (.lushr, 1) := by decide +kernel
theorem dX5_type_53 : decode cX5_type 53 = .ok (.l2i, 1) := by decide +kernel
theorem dX5_type_54 : decode cX5_type 54 = .ok (.sipush 255, 3) := by decide +kernel
theorem dX5_type_57 : decode cX5_type 57 = .ok (.iand, 1) := by decide +kernel
theorem dX5_type_58 : decode cX5_type 58 = .ok (.invokestatic 104, 3) := by decide +kernel
theorem dX5_type_61 : decode cX5_type 61 = .ok (.aload_n 0, 1) := by decide +kernel
theorem dX5_type_62 : decode cX5_type 62 = .ok (.dup, 1) := by decide +kernel
theorem dX5_type_63 : decode cX5_type 63 = .ok (.getfield 60, 3) := by decide +kernel
theorem dX5_type_66 : decode cX5_type 66 = .ok (.iconst 1, 1) := by decide +kernel
theorem dX5_type_67 : decode cX5_type 67 = .ok (.iadd, 1) := by decide +kernel
theorem dX5_type_68 : decode cX5_type 68 = .ok (.putfield 60, 3) := by decide +kernel
theorem dX5_type_71 : decode cX5_type 71 = .ok (.iinc 4 (-1), 3) := by decide +kernel
theorem dX5_type_74 : decode cX5_type 74 = .ok (.goto (-41), 3) := by decide +kernel
theorem dX5_type_77 : decode cX5_type 77 = .ok (.aload_n 0, 1) := by decide +kernel
theorem dX5_type_78 : decode cX5_type 78 = .ok (.getfield 60, 3) := by decide +kernel
theorem dX5_type_81 : decode cX5_type 81 = .ok (.ireturn, 1) := by decide +kernel
theorem dX5_clear_0 : decode cX5_clear 0 = .ok (.aload_n 0, 1) := by decide +kernel
theorem dX5_clear_1 : decode cX5_clear 1 = .ok (.getfield 60, 3) := by decide +kernel
theorem dX5_clear_4 : decode cX5_clear 4 = .ok (.istore_n 1, 1) := by decide +kernel
theorem dX5_clear_5 : decode cX5_clear 5 = .ok (.aload_n 0, 1) := by decide +kernel
theorem dX5_clear_6 : decode cX5_clear 6 = .ok (.iconst 0, 1) := by decide +kernel
theorem dX5_clear_7 : decode cX5_clear 7 = .ok (.putfield 60, 3) := by decide +kernel
theorem dX5_clear_10 : decode cX5_clear 10 = .ok (.iload_n 1, 1) := by decide +kernel
theorem dX5_clear_11 : decode cX5_clear 11 = .ok (.ireturn, 1) := by decide +kernel
theorem dX5_read_0 : decode cX5_read 0 = .ok (.aload_n 0, 1) := by decide +kernel
theorem dX5_read_1 : decode cX5_read 1 = .ok (.iload_n 1, 1) := by decide +kernel
theorem dX5_read_2 : decode cX5_read 2 = .ok (.invokevirtual 117, 3) := by decide +kernel
theorem dX5_read_5 : decode cX5_read 5 = .ok (.astore_n 2, 1) := by decide +kernel
theorem dX5_read_6 : decode cX5_read 6 = .ok (.aload_n 2, 1) := by decide +kernel
theorem dX5_read_7 : decode cX5_read 7 = .ok (.ifnonnull 5, 3) := by decide +kernel
theorem dX5_read_10 : decode cX5_read 10 = .ok (.iconst (-1), 1) := by decide +kernel
theorem dX5_read_11 : decode cX5_read 11 = .ok (.ireturn, 1) := by decide +kernel
theorem dX5_read_12 : decode cX5_read 12 = .ok (.aload_n 0, 1) := by decide +kernel
theorem dX5_read_13 : decode cX5_read 13 = .ok (.getfield 26, 3) := by decide +kernel
theorem dX5_read_16 : decode cX5_read 16 = .ok (.aload_n 0, 1) := by decide +kernel
theorem dX5_read_17 : decode cX5_read 17 = .ok (.getfield 57, 3) := by decide +kernel
theorem dX5_read_20 : decode cX5_read 20 = .ok (.aload_n 0, 1) := by decide +kernel
theorem dX5_read_21 : decode cX5_read 21 = .ok (.getfield 60, 3) := by decide +kernel
theorem dX5_read_24 : decode cX5_read 24 = .ok (.aload_n 0, 1) := by decide +kernel
theorem dX5_read_25 : decode cX5_read 25 = .ok (.getfield 46, 3) := by decide +kernel
theorem dX5_read_28 : decode cX5_read 28 = .ok (.invokevirtual 121, 3) := by decide +kernel
theorem dX5_read_31 : decode cX5_read 31 = .ok (.istore_n 3, 1) := by decide +kernel
theorem dX5_read_32 : decode cX5_read 32 = .ok (.iload_n 3, 1) := by decide +kernel
theorem dX5_read_33 : decode cX5_read 33 = .ok (.iconst (-1), 1) := by decide +kernel
theorem dX5_read_34 : decode cX5_read 34 = .ok (.if_icmp .eq 8, 3) := by decide +kernel
theorem dX5_read_37 : decode cX5_read 37 = .ok (.bipush (-10), 2) := by decide +kernel
theorem dX5_read_39 : decode cX5_read 39 = .ok (.iload_n 3, 1) := by decide +kernel
theorem dX5_read_40 : decode cX5_read 40 = .ok (.isub, 1) := by decide +kernel
theorem dX5_read_41 : decode cX5_read 41 = .ok (.ireturn, 1) := by decide +kernel
theorem dX5_read_42 : decode cX5_read 42 = .ok (.aload_n 2, 1) := by decide +kernel
theorem dX5_read_43 : decode cX5_read 43 = .ok (.aload_n 0, 1) := by decide +kernel
theorem dX5_read_44 : decode cX5_read 44 = .ok (.getfield 46, 3) := by decide +kernel
theorem dX5_read_47 : decode cX5_read 47 = .ok (.invokevirtual 125, 3) := by decide +kernel
theorem dX5_read_50 : decode cX5_read 50 = .ok (.aload_n 0, 1) := by decide +kernel
theorem dX5_read_51 : decode cX5_read 51 = .ok (.iconst 0, 1) := by decide +kernel
theorem dX5_read_52 : decode cX5_read 52 = .ok (.putfield 60, 3) := by decide +kernel
theorem dX5_read_55 : decode cX5_read 55 = .ok (.aload_n 2, 1) := by decide +kernel
theorem dX5_read_56 : decode cX5_read 56 = .ok (.invokevirtual 129, 3) := by decide +kernel
theorem dX5_read_59 : decode cX5_read 59 = .ok (.ireturn, 1) := by decide +kernel
theorem dX5_about_0 : decode cX5_about 0 = .ok (.aload_n 0, 1) := by decide +kernel
theorem dX5_about_1 : decode cX5_about 1 = .ok (.iload_n 1, 1) := by decide +kernel
theorem dX5_about_2 : decode cX5_about 2 = .ok (.invokevirtual 117, 3) := by decide +kernel
theorem dX5_about_5 : decode cX5_about 5 = .ok (.astore_n 3, 1) := by decide +kernel
theorem dX5_about_6 : decode cX5_about 6 = .ok (.aload_n 3, 1) := by decide +kernel
theorem dX5_about_7 : decode cX5_about 7 = .ok (.ifnonnull 5, 3) := by decide +kernel
theorem dX5_about_10 : decode cX5_about 10 = .ok (.iconst (-1), 1) := by decide +kernel
theorem dX5_about_11 : decode cX5_about 11 = .ok (.ireturn, 1) := by decide +kernel
theorem dX5_about_12 : decode cX5_about 12 = .ok (.iload_n 2, 1) := by decide +kernel
theorem dX5_about_13 : decode cX5_about 13 = .ok (.tableswitch 63 0 4 #[35, 40, 45, 50, 55], 35) := by decide +kernel
theorem dX5_about_48 : decode cX5_about 48 = .ok (.aload_n 3, 1) := by decide +kernel
theorem dX5_about_49 : decode cX5_about 49 = .ok (.invokevirtual 129, 3) := by decide +kernel
theorem dX5_about_52 : decode cX5_about 52 = .ok (.ireturn, 1) := by decide +kernel
theorem dX5_about_53 : decode cX5_about 53 = .ok (.aload_n 3, 1) := by decide +kernel
theorem dX5_about_54 : decode cX5_about 54 = .ok (.invokevirtual 132, 3) := by decide +kernel
theorem dX5_about_57 : decode cX5_about 57 = .ok (.ireturn, 1) := by decide +kernel
theorem dX5_about_58 : decode cX5_about 58 = .ok (.aload_n 3, 1) := by decide +kernel
theorem dX5_about_59 : decode cX5_about 59 = .ok (.invokevirtual 135, 3) := by decide +kernel
theorem dX5_about_62 : decode cX5_about 62 = .ok (.ireturn, 1) := by decide +kernel
theorem dX5_about_63 : decode cX5_about 63 = .ok (.aload_n 3, 1) := by decide +kernel
theorem dX5_about_64 : decode cX5_about 64 = .ok (.invokevirtual 138, 3) := by decide +kernel
theorem dX5_about_67 : decode cX5_about 67 = .ok (.ireturn, 1) := by decide +kernel
theorem dX5_about_68 : decode cX5_about 68 = .ok (.aload_n 3, 1) := by decide +kernel
theorem dX5_about_69 : decode cX5_about 69 = .ok (.invokevirtual 140, 3) := by decide +kernel
theorem dX5_about_72 : decode cX5_about 72 = .ok (.invokestatic 144, 3) := by decide +kernel
theorem dX5_about_75 : decode cX5_about 75 = .ok (.ireturn, 1) := by decide +kernel
theorem dX5_about_76 : decode cX5_about 76 = .ok (.iconst (-1), 1) := by decide +kernel
theorem dX5_about_77 : decode cX5_about 77 = .ok (.ireturn, 1) := by decide +kernel
theorem dX5_holds_0 : decode cX5_holds 0 = .ok (.aload_n 0, 1) := by decide +kernel
theorem dX5_holds_1 : decode cX5_holds 1 = .ok (.iload_n 1, 1) := by decide +kernel
theorem dX5_holds_2 : decode cX5_holds 2 = .ok (.invokevirtual 117, 3) := by decide +kernel
theorem dX5_holds_5 : decode cX5_holds 5 = .ok (.astore_n 3, 1) := by decide +kernel
theorem dX5_holds_6 : decode cX5_holds 6 = .ok (.aload_n 3, 1) := by decide +kernel
theorem dX5_holds_7 : decode cX5_holds 7 = .ok (.ifnull 10, 3) := by decide +kernel
theorem dX5_holds_10 : decode cX5_holds 10 = .ok (.iload_n 2, 1) := by decide +kernel
theorem dX5_holds_11 : decode cX5_holds 11 = .ok (.invokestatic 108, 3) := by decide +kernel
theorem dX5_holds_14 : decode cX5_holds 14 = .ok (.ifCond .ne 5, 3) := by decide +kernel
theorem dX5_holds_17 : decode cX5_holds 17 = .ok (.iconst (-1), 1) := by decide +kernel
theorem dX5_holds_18 : decode cX5_holds 18 = .ok (.ireturn, 1) := by decide +kernel
theorem dX5_holds_19 : decode cX5_holds 19 = .ok (.aload_n 0, 1) := by decide +kernel
theorem dX5_holds_20 : decode cX5_holds 20 = .ok (.aload_n 3, 1) := by decide +kernel
theorem dX5_holds_21 : decode cX5_holds 21 = .ok (.iload_n 2, 1) := by decide +kernel
theorem dX5_holds_22 : decode cX5_holds 22 = .ok (.invokevirtual 148, 3) := by decide +kernel
theorem dX5_holds_25 : decode cX5_holds 25 = .ok (.ireturn, 1) := by decide +kernel
theorem dX5_sure_0 : decode cX5_sure 0 = .ok (.aload_n 0, 1) := by decide +kernel
theorem dX5_sure_1 : decode cX5_sure 1 = .ok (.iload_n 1, 1) := by decide +kernel
theorem dX5_sure_2 : decode cX5_sure 2 = .ok (.invokevirtual 117, 3) := by decide +kernel
theorem dX5_sure_5 : decode cX5_sure 5 = .ok (.astore_n 3, 1) := by decide +kernel
theorem dX5_sure_6 : decode cX5_sure 6 = .ok (.aload_n 3, 1) := by decide +kernel
theorem dX5_sure_7 : decode cX5_sure 7 = .ok (.ifnull 10, 3) := by decide +kernel
theorem dX5_sure_10 : decode cX5_sure 10 = .ok (.iload_n 2, 1) := by decide +kernel
theorem dX5_sure_11 : decode cX5_sure 11 = .ok (.invokestatic 108, 3) := by decide +kernel
theorem dX5_sure_14 : decode cX5_sure 14 = .ok (.ifCond .ne 5, 3) := by decide +kernel
theorem dX5_sure_17 : decode cX5_sure 17 = .ok (.iconst (-1), 1) := by decide +kernel
theorem dX5_sure_18 : decode cX5_sure 18 = .ok (.ireturn, 1) := by decide +kernel
theorem dX5_sure_19 : decode cX5_sure 19 = .ok (.aload_n 0, 1) := by decide +kernel
theorem dX5_sure_20 : decode cX5_sure 20 = .ok (.getfield 12, 3) := by decide +kernel
theorem dX5_sure_23 : decode cX5_sure 23 = .ok (.invokevirtual 68, 3) := by decide +kernel
theorem dX5_sure_26 : decode cX5_sure 26 = .ok (.aload_n 3, 1) := by decide +kernel
theorem dX5_sure_27 : decode cX5_sure 27 = .ok (.invokevirtual 138, 3) := by decide +kernel
theorem dX5_sure_30 : decode cX5_sure 30 = .ok (.invokestatic 152, 3) := by decide +kernel
theorem dX5_sure_33 : decode cX5_sure 33 = .ok (.imul, 1) := by decide +kernel
theorem dX5_sure_34 : decode cX5_sure 34 = .ok (.istore 4, 2) := by decide +kernel
theorem dX5_sure_36 : decode cX5_sure 36 = .ok (.iload 4, 2) := by decide +kernel
theorem dX5_sure_38 : decode cX5_sure 38 = .ok (.bipush 12, 2) := by decide +kernel
theorem dX5_sure_40 : decode cX5_sure 40 = .ok (.if_icmp .le 6, 3) := by decide +kernel
theorem dX5_sure_43 : decode cX5_sure 43 = .ok (.bipush (-2), 2) := by decide +kernel
theorem dX5_sure_45 : decode cX5_sure 45 = .ok (.ireturn, 1) := by decide +kernel
theorem dX5_sure_46 : decode cX5_sure 46 = .ok (.aload_n 0, 1) := by decide +kernel
theorem dX5_sure_47 : decode cX5_sure 47 = .ok (.getfield 19, 3) := by decide +kernel
theorem dX5_sure_50 : decode cX5_sure 50 = .ok (.aload_n 0, 1) := by decide +kernel
theorem dX5_sure_51 : decode cX5_sure 51 = .ok (.getfield 12, 3) := by decide +kernel
theorem dX5_sure_54 : decode cX5_sure 54 = .ok (.iload_n 2, 1) := by decide +kernel
theorem dX5_sure_55 : decode cX5_sure 55 = .ok (.invokevirtual 158, 3) := by decide +kernel
theorem dX5_sure_58 : decode cX5_sure 58 = .ok (.iconst 0, 1) := by decide +kernel
theorem dX5_sure_59 : decode cX5_sure 59 = .ok (.istore 5, 2) := by decide +kernel
theorem dX5_sure_61 : decode cX5_sure 61 = .ok (.iload 5, 2) := by decide +kernel
theorem dX5_sure_63 : decode cX5_sure 63 = .ok (.iconst 1, 1) := by decide +kernel
theorem dX5_sure_64 : decode cX5_sure 64 = .ok (.iload 4, 2) := by decide +kernel
theorem dX5_sure_66 : decode cX5_sure 66 = .ok (.ishl, 1) := by decide +kernel
theorem dX5_sure_67 : decode cX5_sure 67 = .ok (.if_icmp .ge 44, 3) := by decide +kernel
theorem dX5_sure_70 : decode cX5_sure 70 = .ok (.aload_n 0, 1) := by decide +kernel
theorem dX5_sure_71 : decode cX5_sure 71 = .ok (.aload_n 3, 1) := by decide +kernel
theorem dX5_sure_72 : decode cX5_sure 72 = .ok (.invokevirtual 138, 3) := by decide +kernel
theorem dX5_sure_75 : decode cX5_sure 75 = .ok (.iload 5, 2) := by decide +kernel
theorem dX5_sure_77 : decode cX5_sure 77 = .ok (.invokevirtual 162, 3) := by decide +kernel
theorem dX5_sure_80 : decode cX5_sure 80 = .ok (.aload_n 0, 1) := by decide +kernel
theorem dX5_sure_81 : decode cX5_sure 81 = .ok (.getfield 19, 3) := by decide +kernel
theorem dX5_sure_84 : decode cX5_sure 84 = .ok (.aload_n 3, 1) := by decide +kernel
theorem dX5_sure_85 : decode cX5_sure 85 = .ok (.aload_n 0, 1) := by decide +kernel
theorem dX5_sure_86 : decode cX5_sure 86 = .ok (.getfield 54, 3) := by decide +kernel
theorem dX5_sure_89 : decode cX5_sure 89 = .ok (.iconst 0, 1) := by decide +kernel
theorem dX5_sure_90 : decode cX5_sure 90 = .ok (.invokevirtual 166, 3) := by decide +kernel
theorem dX5_sure_93 : decode cX5_sure 93 = .ok (.aload_n 0, 1) := by decide +kernel
theorem dX5_sure_94 : decode cX5_sure 94 = .ok (.getfield 12, 3) := by decide +kernel
theorem dX5_sure_97 : decode cX5_sure 97 = .ok (.invokevirtual 93, 3) := by decide +kernel
theorem dX5_sure_100 : decode cX5_sure 100 = .ok (.if_icmp .eq 5, 3) := by decide +kernel
theorem dX5_sure_103 : decode cX5_sure 103 = .ok (.iconst 0, 1) := by decide +kernel
theorem dX5_sure_104 : decode cX5_sure 104 = .ok (.ireturn, 1) := by decide +kernel
theorem dX5_sure_105 : decode cX5_sure 105 = .ok (.iinc 5 1, 3) := by decide +kernel
theorem dX5_sure_108 : decode cX5_sure 108 = .ok (.goto (-47), 3) := by decide +kernel
theorem dX5_sure_111 : decode cX5_sure 111 = .ok (.iconst 1, 1) := by decide +kernel
theorem dX5_sure_112 : decode cX5_sure 112 = .ok (.ireturn, 1) := by decide +kernel
theorem dX5_logic_0 : decode cX5_logic 0 = .ok (.aload_n 0, 1) := by decide +kernel
theorem dX5_logic_1 : decode cX5_logic 1 = .ok (.iload_n 1, 1) := by decide +kernel
theorem dX5_logic_2 : decode cX5_logic 2 = .ok (.invokevirtual 117, 3) := by decide +kernel
theorem dX5_logic_5 : decode cX5_logic 5 = .ok (.astore 4, 2) := by decide +kernel
theorem dX5_logic_7 : decode cX5_logic 7 = .ok (.aload 4, 2) := by decide +kernel
theorem dX5_logic_9 : decode cX5_logic 9 = .ok (.ifnull 20, 3) := by decide +kernel
theorem dX5_logic_12 : decode cX5_logic 12 = .ok (.iload_n 2, 1) := by decide +kernel
theorem dX5_logic_13 : decode cX5_logic 13 = .ok (.invokestatic 170, 3) := by decide +kernel
theorem dX5_logic_16 : decode cX5_logic 16 = .ok (.ifCond .eq 13, 3) := by decide +kernel
theorem dX5_logic_19 : decode cX5_logic 19 = .ok (.iload_n 3, 1) := by decide +kernel
theorem dX5_logic_20 : decode cX5_logic 20 = .ok (.ifCond .lt 9, 3) := by decide +kernel
theorem dX5_logic_23 : decode cX5_logic 23 = .ok (.iload_n 3, 1) := by decide +kernel
theorem dX5_logic_24 : decode cX5_logic 24 = .ok (.bipush 6, 2) := by decide +kernel
theorem dX5_logic_26 : decode cX5_logic 26 = .ok (.if_icmp .le 5, 3) := by decide +kernel
theorem dX5_logic_29 : decode cX5_logic 29 = .ok (.iconst (-1), 1) := by decide +kernel
theorem dX5_logic_30 : decode cX5_logic 30 = .ok (.ireturn, 1) := by decide +kernel
theorem dX5_logic_31 : decode cX5_logic 31 = .ok (.aload_n 0, 1) := by decide +kernel
theorem dX5_logic_32 : decode cX5_logic 32 = .ok (.getfield 33, 3) := by decide +kernel
theorem dX5_logic_35 : decode cX5_logic 35 = .ok (.aload 4, 2) := by decide +kernel
theorem dX5_logic_37 : decode cX5_logic 37 = .ok (.iload_n 2, 1) := by decide +kernel
theorem dX5_logic_38 : decode cX5_logic 38 = .ok (.invokevirtual 173, 3) := by decide +kernel
theorem dX5_logic_41 : decode cX5_logic 41 = .ok (.ifCond .ne 6, 3) := by decide +kernel
theorem dX5_logic_44 : decode cX5_logic 44 = .ok (.bipush (-2), 2) := by decide +kernel
theorem dX5_logic_46 : decode cX5_logic 46 = .ok (.ireturn, 1) := by decide +kernel
theorem dX5_logic_47 : decode cX5_logic 47 = .ok (.aload_n 0, 1) := by decide +kernel
theorem dX5_logic_48 : decode cX5_logic 48 = .ok (.getfield 33, 3) := by decide +kernel
theorem dX5_logic_51 : decode cX5_logic 51 = .ok (.iload_n 3, 1) := by decide +kernel
theorem dX5_logic_52 : decode cX5_logic 52 = .ok (.invokevirtual 177, 3) := by decide +kernel
theorem dX5_logic_55 : decode cX5_logic 55 = .ok (.ireturn, 1) := by decide +kernel
theorem dX5_falls_0 : decode cX5_falls 0 = .ok (.aload_n 0, 1) := by decide +kernel
theorem dX5_falls_1 : decode cX5_falls 1 = .ok (.iload_n 1, 1) := by decide +kernel
theorem dX5_falls_2 : decode cX5_falls 2 = .ok (.invokevirtual 117, 3) := by decide +kernel
theorem dX5_falls_5 : decode cX5_falls 5 = .ok (.astore 4, 2) := by decide +kernel
theorem dX5_falls_7 : decode cX5_falls 7 = .ok (.aload 4, 2) := by decide +kernel
theorem dX5_falls_9 : decode cX5_falls 9 = .ok (.ifnull 30, 3) := by decide +kernel
theorem dX5_falls_12 : decode cX5_falls 12 = .ok (.iload_n 2, 1) := by decide +kernel
theorem dX5_falls_13 : decode cX5_falls 13 = .ok (.invokestatic 170, 3) := by decide +kernel
theorem dX5_falls_16 : decode cX5_falls 16 = .ok (.ifCond .eq 23, 3) := by decide +kernel
theorem dX5_falls_19 : decode cX5_falls 19 = .ok (.iload_n 3, 1) := by decide +kernel
theorem dX5_falls_20 : decode cX5_falls 20 = .ok (.ifCond .lt 19, 3) := by decide +kernel
theorem dX5_falls_23 : decode cX5_falls 23 = .ok (.iload_n 3, 1) := by decide +kernel
theorem dX5_falls_24 : decode cX5_falls 24 = .ok (.i2l, 1) := by decide +kernel
theorem dX5_falls_25 : decode cX5_falls 25 = .ok (.aload_n 0, 1) := by decide +kernel
theorem dX5_falls_26 : decode cX5_falls 26 = .ok (.getfield 33, 3) := by decide +kernel
theorem dX5_falls_29 : decode cX5_falls 29 = .ok (.aload 4, 2) := by decide +kernel
theorem dX5_falls_31 : decode cX5_falls 31 = .ok (.iload_n 2, 1) := by decide +kernel
theorem dX5_falls_32 : decode cX5_falls 32 = .ok (.invokevirtual 180, 3) := by decide +kernel
theorem dX5_falls_35 : decode cX5_falls 35 = .ok (.lcmp, 1) := by decide +kernel
theorem dX5_falls_36 : decode cX5_falls 36 = .ok (.ifCond .lt 5, 3) := by decide +kernel
theorem dX5_falls_39 : decode cX5_falls 39 = .ok (.iconst (-1), 1) := by decide +kernel
theorem dX5_falls_40 : decode cX5_falls 40 = .ok (.ireturn, 1) := by decide +kernel
theorem dX5_falls_41 : decode cX5_falls 41 = .ok (.aload_n 0, 1) := by decide +kernel
theorem dX5_falls_42 : decode cX5_falls 42 = .ok (.getfield 33, 3) := by decide +kernel
theorem dX5_falls_45 : decode cX5_falls 45 = .ok (.aload 4, 2) := by decide +kernel
theorem dX5_falls_47 : decode cX5_falls 47 = .ok (.iload_n 2, 1) := by decide +kernel
theorem dX5_falls_48 : decode cX5_falls 48 = .ok (.invokevirtual 173, 3) := by decide +kernel
theorem dX5_falls_51 : decode cX5_falls 51 = .ok (.ifCond .ne 6, 3) := by decide +kernel
theorem dX5_falls_54 : decode cX5_falls 54 = .ok (.bipush (-2), 2) := by decide +kernel
theorem dX5_falls_56 : decode cX5_falls 56 = .ok (.ireturn, 1) := by decide +kernel
theorem dX5_falls_57 : decode cX5_falls 57 = .ok (.aload_n 0, 1) := by decide +kernel
theorem dX5_falls_58 : decode cX5_falls 58 = .ok (.getfield 33, 3) := by decide +kernel
theorem dX5_falls_61 : decode cX5_falls 61 = .ok (.iload_n 3, 1) := by decide +kernel
theorem dX5_falls_62 : decode cX5_falls 62 = .ok (.invokevirtual 184, 3) := by decide +kernel
theorem dX5_falls_65 : decode cX5_falls 65 = .ok (.ireturn, 1) := by decide +kernel
theorem dX5_follows_0 : decode cX5_follows 0 = .ok (.aload_n 0, 1) := by decide +kernel
theorem dX5_follows_1 : decode cX5_follows 1 = .ok (.iload_n 1, 1) := by decide +kernel
theorem dX5_follows_2 : decode cX5_follows 2 = .ok (.invokevirtual 117, 3) := by decide +kernel
theorem dX5_follows_5 : decode cX5_follows 5 = .ok (.astore 4, 2) := by decide +kernel
theorem dX5_follows_7 : decode cX5_follows 7 = .ok (.aload_n 0, 1) := by decide +kernel
theorem dX5_follows_8 : decode cX5_follows 8 = .ok (.iload_n 2, 1) := by decide +kernel
theorem dX5_follows_9 : decode cX5_follows 9 = .ok (.invokevirtual 117, 3) := by decide +kernel
theorem dX5_follows_12 : decode cX5_follows 12 = .ok (.astore 5, 2) := by decide +kernel
theorem dX5_follows_14 : decode cX5_follows 14 = .ok (.aload 4, 2) := by decide +kernel
theorem dX5_follows_16 : decode cX5_follows 16 = .ok (.ifnull 15, 3) := by decide +kernel
theorem dX5_follows_19 : decode cX5_follows 19 = .ok (.aload 5, 2) := by decide +kernel
theorem dX5_follows_21 : decode cX5_follows 21 = .ok (.ifnull 10, 3) := by decide +kernel
theorem dX5_follows_24 : decode cX5_follows 24 = .ok (.iload_n 3, 1) := by decide +kernel
theorem dX5_follows_25 : decode cX5_follows 25 = .ok (.invokestatic 170, 3) := by decide +kernel
theorem dX5_follows_28 : decode cX5_follows 28 = .ok (.ifCond .ne 5, 3) := by decide +kernel
theorem dX5_follows_31 : decode cX5_follows 31 = .ok (.iconst (-1), 1) := by decide +kernel
theorem dX5_follows_32 : decode cX5_follows 32 = .ok (.ireturn, 1) := by decide +kernel
theorem dX5_follows_33 : decode cX5_follows 33 = .ok (.aload_n 0, 1) := by decide +kernel
theorem dX5_follows_34 : decode cX5_follows 34 = .ok (.getfield 46, 3) := by decide +kernel
theorem dX5_follows_37 : decode cX5_follows 37 = .ok (.invokevirtual 187, 3) := by decide +kernel
theorem dX5_follows_40 : decode cX5_follows 40 = .ok (.aload_n 0, 1) := by decide +kernel
theorem dX5_follows_41 : decode cX5_follows 41 = .ok (.getfield 46, 3) := by decide +kernel
theorem dX5_follows_44 : decode cX5_follows 44 = .ok (.aload 4, 2) := by decide +kernel
theorem dX5_follows_46 : decode cX5_follows 46 = .ok (.aload_n 0, 1) := by decide +kernel
theorem dX5_follows_47 : decode cX5_follows 47 = .ok (.getfield 50, 3) := by decide +kernel
theorem dX5_follows_50 : decode cX5_follows 50 = .ok (.invokevirtual 189, 3) := by decide +kernel
theorem dX5_follows_53 : decode cX5_follows 53 = .ok (.istore 6, 2) := by decide +kernel
theorem dX5_follows_55 : decode cX5_follows 55 = .ok (.aload_n 0, 1) := by decide +kernel
theorem dX5_follows_56 : decode cX5_follows 56 = .ok (.getfield 46, 3) := by decide +kernel
theorem dX5_follows_59 : decode cX5_follows 59 = .ok (.aload 5, 2) := by decide +kernel
theorem dX5_follows_61 : decode cX5_follows 61 = .ok (.aload_n 0, 1) := by decide +kernel
theorem dX5_follows_62 : decode cX5_follows 62 = .ok (.getfield 50, 3) := by decide +kernel
theorem dX5_follows_65 : decode cX5_follows 65 = .ok (.invokevirtual 189, 3) := by decide +kernel
theorem dX5_follows_68 : decode cX5_follows 68 = .ok (.istore 7, 2) := by decide +kernel
theorem dX5_follows_70 : decode cX5_follows 70 = .ok (.aload_n 0, 1) := by decide +kernel
theorem dX5_follows_71 : decode cX5_follows 71 = .ok (.getfield 46, 3) := by decide +kernel
theorem dX5_follows_74 : decode cX5_follows 74 = .ok (.bipush 62, 2) := by decide +kernel
theorem dX5_follows_76 : decode cX5_follows 76 = .ok (.iload 6, 2) := by decide +kernel
theorem dX5_follows_78 : decode cX5_follows 78 = .ok (.iload 7, 2) := by decide +kernel
theorem dX5_follows_80 : decode cX5_follows 80 = .ok (.iconst 0, 1) := by decide +kernel
theorem dX5_follows_81 : decode cX5_follows 81 = .ok (.invokevirtual 193, 3) := by decide +kernel
theorem dX5_follows_84 : decode cX5_follows 84 = .ok (.pop, 1) := by decide +kernel
theorem dX5_follows_85 : decode cX5_follows 85 = .ok (.aload_n 0, 1) := by decide +kernel
theorem dX5_follows_86 : decode cX5_follows 86 = .ok (.getfield 33, 3) := by decide +kernel
theorem dX5_follows_89 : decode cX5_follows 89 = .ok (.aload_n 0, 1) := by decide +kernel
theorem dX5_follows_90 : decode cX5_follows 90 = .ok (.getfield 46, 3) := by decide +kernel
theorem dX5_follows_93 : decode cX5_follows 93 = .ok (.iload_n 3, 1) := by decide +kernel
theorem dX5_follows_94 : decode cX5_follows 94 = .ok (.invokevirtual 173, 3) := by decide +kernel
theorem dX5_follows_97 : decode cX5_follows 97 = .ok (.ifCond .ne 6, 3) := by decide +kernel
theorem dX5_follows_100 : decode cX5_follows 100 = .ok (.bipush (-2), 2) := by decide +kernel
theorem dX5_follows_102 : decode cX5_follows 102 = .ok (.ireturn, 1) := by decide +kernel
theorem dX5_follows_103 : decode cX5_follows 103 = .ok (.aload_n 0, 1) := by decide +kernel
theorem dX5_follows_104 : decode cX5_follows 104 = .ok (.getfield 33, 3) := by decide +kernel
theorem dX5_follows_107 : decode cX5_follows 107 = .ok (.iconst 1, 1) := by decide +kernel
theorem dX5_follows_108 : decode cX5_follows 108 = .ok (.invokevirtual 177, 3) := by decide +kernel
theorem dX5_follows_111 : decode cX5_follows 111 = .ok (.ireturn, 1) := by decide +kernel
theorem dX5_heaps_0 : decode cX5_heaps 0 = .ok (.iload_n 1, 1) := by decide +kernel
theorem dX5_heaps_1 : decode cX5_heaps 1 = .ok (.invokestatic 108, 3) := by decide +kernel
theorem dX5_heaps_4 : decode cX5_heaps 4 = .ok (.ifCond .ne 5, 3) := by decide +kernel
theorem dX5_heaps_7 : decode cX5_heaps 7 = .ok (.iconst (-1), 1) := by decide +kernel
theorem dX5_heaps_8 : decode cX5_heaps 8 = .ok (.ireturn, 1) := by decide +kernel
theorem dX5_heaps_9 : decode cX5_heaps 9 = .ok (.aload_n 0, 1) := by decide +kernel
theorem dX5_heaps_10 : decode cX5_heaps 10 = .ok (.getfield 19, 3) := by decide +kernel
theorem dX5_heaps_13 : decode cX5_heaps 13 = .ok (.aload_n 0, 1) := by decide +kernel
theorem dX5_heaps_14 : decode cX5_heaps 14 = .ok (.getfield 12, 3) := by decide +kernel
theorem dX5_heaps_17 : decode cX5_heaps 17 = .ok (.iload_n 1, 1) := by decide +kernel
theorem dX5_heaps_18 : decode cX5_heaps 18 = .ok (.invokevirtual 158, 3) := by decide +kernel
theorem dX5_heaps_21 : decode cX5_heaps 21 = .ok (.aload_n 0, 1) := by decide +kernel
theorem dX5_heaps_22 : decode cX5_heaps 22 = .ok (.getfield 19, 3) := by decide +kernel
theorem dX5_heaps_25 : decode cX5_heaps 25 = .ok (.aload_n 0, 1) := by decide +kernel
theorem dX5_heaps_26 : decode cX5_heaps 26 = .ok (.getfield 12, 3) := by decide +kernel
theorem dX5_heaps_29 : decode cX5_heaps 29 = .ok (.invokevirtual 197, 3) := by decide +kernel
theorem dX5_heaps_32 : decode cX5_heaps 32 = .ok (.aload_n 0, 1) := by decide +kernel
theorem dX5_heaps_33 : decode cX5_heaps 33 = .ok (.getfield 19, 3) := by decide +kernel
theorem dX5_heaps_36 : decode cX5_heaps 36 = .ok (.invokevirtual 201, 3) := by decide +kernel
theorem dX5_heaps_39 : decode cX5_heaps 39 = .ok (.ireturn, 1) := by decide +kernel
theorem dX5_alike_0 : decode cX5_alike 0 = .ok (.aload_n 0, 1) := by decide +kernel
theorem dX5_alike_1 : decode cX5_alike 1 = .ok (.getfield 12, 3) := by decide +kernel
theorem dX5_alike_4 : decode cX5_alike 4 = .ok (.iload_n 1, 1) := by decide +kernel
theorem dX5_alike_5 : decode cX5_alike 5 = .ok (.invokevirtual 75, 3) := by decide +kernel
theorem dX5_alike_8 : decode cX5_alike 8 = .ok (.ifCond .eq 21, 3) := by decide +kernel
theorem dX5_alike_11 : decode cX5_alike 11 = .ok (.aload_n 0, 1) := by decide +kernel
theorem dX5_alike_12 : decode cX5_alike 12 = .ok (.getfield 12, 3) := by decide +kernel
theorem dX5_alike_15 : decode cX5_alike 15 = .ok (.iload_n 2, 1) := by decide +kernel
theorem dX5_alike_16 : decode cX5_alike 16 = .ok (.invokevirtual 75, 3) := by decide +kernel
theorem dX5_alike_19 : decode cX5_alike 19 = .ok (.ifCond .eq 10, 3) := by decide +kernel
theorem dX5_alike_22 : decode cX5_alike 22 = .ok (.iload_n 3, 1) := by decide +kernel
theorem dX5_alike_23 : decode cX5_alike 23 = .ok (.invokestatic 108, 3) := by decide +kernel
theorem dX5_alike_26 : decode cX5_alike 26 = .ok (.ifCond .ne 5, 3) := by decide +kernel
theorem dX5_alike_29 : decode cX5_alike 29 = .ok (.iconst (-1), 1) := by decide +kernel
theorem dX5_alike_30 : decode cX5_alike 30 = .ok (.ireturn, 1) := by decide +kernel
theorem dX5_alike_31 : decode cX5_alike 31 = .ok (.aload_n 0, 1) := by decide +kernel
theorem dX5_alike_32 : decode cX5_alike 32 = .ok (.iload_n 1, 1) := by decide +kernel
theorem dX5_alike_33 : decode cX5_alike 33 = .ok (.iload_n 2, 1) := by decide +kernel
theorem dX5_alike_34 : decode cX5_alike 34 = .ok (.iload_n 3, 1) := by decide +kernel
theorem dX5_alike_35 : decode cX5_alike 35 = .ok (.invokevirtual 204, 3) := by decide +kernel
theorem dX5_alike_38 : decode cX5_alike 38 = .ok (.bipush (-9), 2) := by decide +kernel
theorem dX5_alike_40 : decode cX5_alike 40 = .ok (.if_icmp .ne 7, 3) := by decide +kernel
theorem dX5_alike_43 : decode cX5_alike 43 = .ok (.iconst 1, 1) := by decide +kernel
theorem dX5_alike_44 : decode cX5_alike 44 = .ok (.goto 4, 3) := by decide +kernel
theorem dX5_alike_47 : decode cX5_alike 47 = .ok (.iconst 0, 1) := by decide +kernel
theorem dX5_alike_48 : decode cX5_alike 48 = .ok (.invokestatic 144, 3) := by decide +kernel
theorem dX5_alike_51 : decode cX5_alike 51 = .ok (.ireturn, 1) := by decide +kernel
theorem dX5_apart_0 : decode cX5_apart 0 = .ok (.aload_n 0, 1) := by decide +kernel
theorem dX5_apart_1 : decode cX5_apart 1 = .ok (.getfield 12, 3) := by decide +kernel
theorem dX5_apart_4 : decode cX5_apart 4 = .ok (.iload_n 1, 1) := by decide +kernel
theorem dX5_apart_5 : decode cX5_apart 5 = .ok (.invokevirtual 75, 3) := by decide +kernel
theorem dX5_apart_8 : decode cX5_apart 8 = .ok (.ifCond .eq 21, 3) := by decide +kernel
theorem dX5_apart_11 : decode cX5_apart 11 = .ok (.aload_n 0, 1) := by decide +kernel
theorem dX5_apart_12 : decode cX5_apart 12 = .ok (.getfield 12, 3) := by decide +kernel
theorem dX5_apart_15 : decode cX5_apart 15 = .ok (.iload_n 2, 1) := by decide +kernel
theorem dX5_apart_16 : decode cX5_apart 16 = .ok (.invokevirtual 75, 3) := by decide +kernel
theorem dX5_apart_19 : decode cX5_apart 19 = .ok (.ifCond .eq 10, 3) := by decide +kernel
theorem dX5_apart_22 : decode cX5_apart 22 = .ok (.iload_n 3, 1) := by decide +kernel
theorem dX5_apart_23 : decode cX5_apart 23 = .ok (.invokestatic 108, 3) := by decide +kernel
theorem dX5_apart_26 : decode cX5_apart 26 = .ok (.ifCond .ne 5, 3) := by decide +kernel
theorem dX5_apart_29 : decode cX5_apart 29 = .ok (.iconst (-1), 1) := by decide +kernel
theorem dX5_apart_30 : decode cX5_apart 30 = .ok (.ireturn, 1) := by decide +kernel
theorem dX5_apart_31 : decode cX5_apart 31 = .ok (.aload_n 0, 1) := by decide +kernel
theorem dX5_apart_32 : decode cX5_apart 32 = .ok (.iload_n 1, 1) := by decide +kernel
theorem dX5_apart_33 : decode cX5_apart 33 = .ok (.iload_n 2, 1) := by decide +kernel
theorem dX5_apart_34 : decode cX5_apart 34 = .ok (.iload_n 3, 1) := by decide +kernel
theorem dX5_apart_35 : decode cX5_apart 35 = .ok (.invokevirtual 204, 3) := by decide +kernel
theorem dX5_apart_38 : decode cX5_apart 38 = .ok (.ireturn, 1) := by decide +kernel
theorem dX5_growing_0 : decode cX5_growing 0 = .ok (.aload_n 0, 1) := by decide +kernel
theorem dX5_growing_1 : decode cX5_growing 1 = .ok (.getfield 12, 3) := by decide +kernel
theorem dX5_growing_4 : decode cX5_growing 4 = .ok (.invokevirtual 208, 3) := by decide +kernel
theorem dX5_growing_7 : decode cX5_growing 7 = .ok (.invokestatic 144, 3) := by decide +kernel
theorem dX5_growing_10 : decode cX5_growing 10 = .ok (.ireturn, 1) := by decide +kernel
theorem dX5_grows_0 : decode cX5_grows 0 = .ok (.aload_n 0, 1) := by decide +kernel
theorem dX5_grows_1 : decode cX5_grows 1 = .ok (.iload_n 1, 1) := by decide +kernel
theorem dX5_grows_2 : decode cX5_grows 2 = .ok (.invokevirtual 117, 3) := by decide +kernel
theorem dX5_grows_5 : decode cX5_grows 5 = .ok (.astore_n 2, 1) := by decide +kernel
theorem dX5_grows_6 : decode cX5_grows 6 = .ok (.aload_n 2, 1) := by decide +kernel
theorem dX5_grows_7 : decode cX5_grows 7 = .ok (.ifnonnull 5, 3) := by decide +kernel
theorem dX5_grows_10 : decode cX5_grows 10 = .ok (.iconst (-1), 1) := by decide +kernel
theorem dX5_grows_11 : decode cX5_grows 11 = .ok (.ireturn, 1) := by decide +kernel
theorem dX5_grows_12 : decode cX5_grows 12 = .ok (.aload_n 2, 1) := by decide +kernel
theorem dX5_grows_13 : decode cX5_grows 13 = .ok (.invokevirtual 140, 3) := by decide +kernel
theorem dX5_grows_16 : decode cX5_grows 16 = .ok (.ifCond .eq 13, 3) := by decide +kernel
theorem dX5_grows_19 : decode cX5_grows 19 = .ok (.aload_n 0, 1) := by decide +kernel
theorem dX5_grows_20 : decode cX5_grows 20 = .ok (.getfield 12, 3) := by decide +kernel
theorem dX5_grows_23 : decode cX5_grows 23 = .ok (.invokevirtual 208, 3) := by decide +kernel
theorem dX5_grows_26 : decode cX5_grows 26 = .ok (.ifCond .ne 6, 3) := by decide +kernel
theorem dX5_grows_29 : decode cX5_grows 29 = .ok (.bipush (-2), 2) := by decide +kernel
theorem dX5_grows_31 : decode cX5_grows 31 = .ok (.ireturn, 1) := by decide +kernel
theorem dX5_grows_32 : decode cX5_grows 32 = .ok (.aload_n 0, 1) := by decide +kernel
theorem dX5_grows_33 : decode cX5_grows 33 = .ok (.getfield 19, 3) := by decide +kernel
theorem dX5_grows_36 : decode cX5_grows 36 = .ok (.aload_n 0, 1) := by decide +kernel
theorem dX5_grows_37 : decode cX5_grows 37 = .ok (.getfield 12, 3) := by decide +kernel
theorem dX5_grows_40 : decode cX5_grows 40 = .ok (.iconst 2, 1) := by decide +kernel
theorem dX5_grows_41 : decode cX5_grows 41 = .ok (.invokevirtual 158, 3) := by decide +kernel
theorem dX5_grows_44 : decode cX5_grows 44 = .ok (.aload_n 0, 1) := by decide +kernel
theorem dX5_grows_45 : decode cX5_grows 45 = .ok (.getfield 19, 3) := by decide +kernel
theorem dX5_grows_48 : decode cX5_grows 48 = .ok (.aload_n 2, 1) := by decide +kernel
theorem dX5_grows_49 : decode cX5_grows 49 = .ok (.aload_n 0, 1) := by decide +kernel
theorem dX5_grows_50 : decode cX5_grows 50 = .ok (.getfield 12, 3) := by decide +kernel
theorem dX5_grows_53 : decode cX5_grows 53 = .ok (.invokevirtual 96, 3) := by decide +kernel
theorem dX5_grows_56 : decode cX5_grows 56 = .ok (.iconst 1, 1) := by decide +kernel
theorem dX5_grows_57 : decode cX5_grows 57 = .ok (.invokevirtual 166, 3) := by decide +kernel
theorem dX5_grows_60 : decode cX5_grows 60 = .ok (.ireturn, 1) := by decide +kernel
theorem dX5_shown_0 : decode cX5_shown 0 = .ok (.aload_n 0, 1) := by decide +kernel
theorem dX5_shown_1 : decode cX5_shown 1 = .ok (.iload_n 1, 1) := by decide +kernel
theorem dX5_shown_2 : decode cX5_shown 2 = .ok (.invokevirtual 117, 3) := by decide +kernel
theorem dX5_shown_5 : decode cX5_shown 5 = .ok (.astore_n 3, 1) := by decide +kernel
theorem dX5_shown_6 : decode cX5_shown 6 = .ok (.aload_n 3, 1) := by decide +kernel
theorem dX5_shown_7 : decode cX5_shown 7 = .ok (.ifnull 12, 3) := by decide +kernel
theorem dX5_shown_10 : decode cX5_shown 10 = .ok (.iload_n 2, 1) := by decide +kernel
theorem dX5_shown_11 : decode cX5_shown 11 = .ok (.ifCond .lt 8, 3) := by decide +kernel
theorem dX5_shown_14 : decode cX5_shown 14 = .ok (.iload_n 2, 1) := by decide +kernel
theorem dX5_shown_15 : decode cX5_shown 15 = .ok (.iconst 1, 1) := by decide +kernel
theorem dX5_shown_16 : decode cX5_shown 16 = .ok (.if_icmp .le 5, 3) := by decide +kernel
theorem dX5_shown_19 : decode cX5_shown 19 = .ok (.iconst (-1), 1) := by decide +kernel
theorem dX5_shown_20 : decode cX5_shown 20 = .ok (.ireturn, 1) := by decide +kernel
theorem dX5_shown_21 : decode cX5_shown 21 = .ok (.aload_n 3, 1) := by decide +kernel
theorem dX5_shown_22 : decode cX5_shown 22 = .ok (.invokevirtual 140, 3) := by decide +kernel
theorem dX5_shown_25 : decode cX5_shown 25 = .ok (.ifCond .eq 24, 3) := by decide +kernel
theorem dX5_shown_28 : decode cX5_shown 28 = .ok (.aload_n 0, 1) := by decide +kernel
theorem dX5_shown_29 : decode cX5_shown 29 = .ok (.getfield 33, 3) := by decide +kernel
theorem dX5_shown_32 : decode cX5_shown 32 = .ok (.aload_n 3, 1) := by decide +kernel
theorem dX5_shown_33 : decode cX5_shown 33 = .ok (.iload_n 2, 1) := by decide +kernel
theorem dX5_shown_34 : decode cX5_shown 34 = .ok (.ifCond .ne 8, 3) := by decide +kernel
theorem dX5_shown_37 : decode cX5_shown 37 = .ok (.bipush 8, 2) := by decide +kernel
theorem dX5_shown_39 : decode cX5_shown 39 = .ok (.goto 4, 3) := by decide +kernel
theorem dX5_shown_42 : decode cX5_shown 42 = .ok (.iconst 0, 1) := by decide +kernel
theorem dX5_shown_43 : decode cX5_shown 43 = .ok (.invokevirtual 173, 3) := by decide +kernel
theorem dX5_shown_46 : decode cX5_shown 46 = .ok (.ifCond .ne 6, 3) := by decide +kernel
theorem dX5_shown_49 : decode cX5_shown 49 = .ok (.bipush (-2), 2) := by decide +kernel
theorem dX5_shown_51 : decode cX5_shown 51 = .ok (.ireturn, 1) := by decide +kernel
theorem dX5_shown_52 : decode cX5_shown 52 = .ok (.aload_n 0, 1) := by decide +kernel
theorem dX5_shown_53 : decode cX5_shown 53 = .ok (.getfield 33, 3) := by decide +kernel
theorem dX5_shown_56 : decode cX5_shown 56 = .ok (.iconst 1, 1) := by decide +kernel
theorem dX5_shown_57 : decode cX5_shown 57 = .ok (.invokevirtual 177, 3) := by decide +kernel
theorem dX5_shown_60 : decode cX5_shown 60 = .ok (.ireturn, 1) := by decide +kernel
theorem dX5_tell_0 : decode cX5_tell 0 = .ok (.aload_n 0, 1) := by decide +kernel
theorem dX5_tell_1 : decode cX5_tell 1 = .ok (.iload_n 1, 1) := by decide +kernel
theorem dX5_tell_2 : decode cX5_tell 2 = .ok (.invokevirtual 117, 3) := by decide +kernel
theorem dX5_tell_5 : decode cX5_tell 5 = .ok (.astore_n 2, 1) := by decide +kernel
theorem dX5_tell_6 : decode cX5_tell 6 = .ok (.aload_n 2, 1) := by decide +kernel
theorem dX5_tell_7 : decode cX5_tell 7 = .ok (.ifnonnull 5, 3) := by decide +kernel
theorem dX5_tell_10 : decode cX5_tell 10 = .ok (.iconst (-1), 1) := by decide +kernel
theorem dX5_tell_11 : decode cX5_tell 11 = .ok (.ireturn, 1) := by decide +kernel
theorem dX5_tell_12 : decode cX5_tell 12 = .ok (.aload_n 0, 1) := by decide +kernel
theorem dX5_tell_13 : decode cX5_tell 13 = .ok (.aload_n 2, 1) := by decide +kernel
theorem dX5_tell_14 : decode cX5_tell 14 = .ok (.iconst 0, 1) := by decide +kernel
theorem dX5_tell_15 : decode cX5_tell 15 = .ok (.invokevirtual 148, 3) := by decide +kernel
theorem dX5_tell_18 : decode cX5_tell 18 = .ok (.istore_n 3, 1) := by decide +kernel
theorem dX5_tell_19 : decode cX5_tell 19 = .ok (.iload_n 3, 1) := by decide +kernel
theorem dX5_tell_20 : decode cX5_tell 20 = .ok (.ifCond .ne 6, 3) := by decide +kernel
theorem dX5_tell_23 : decode cX5_tell 23 = .ok (.bipush (-2), 2) := by decide +kernel
theorem dX5_tell_25 : decode cX5_tell 25 = .ok (.ireturn, 1) := by decide +kernel
theorem dX5_tell_26 : decode cX5_tell 26 = .ok (.aload_n 0, 1) := by decide +kernel
theorem dX5_tell_27 : decode cX5_tell 27 = .ok (.getfield 12, 3) := by decide +kernel
theorem dX5_tell_30 : decode cX5_tell 30 = .ok (.iload_n 3, 1) := by decide +kernel
theorem dX5_tell_31 : decode cX5_tell 31 = .ok (.invokevirtual 211, 3) := by decide +kernel
theorem dX5_tell_34 : decode cX5_tell 34 = .ok (.aload_n 0, 1) := by decide +kernel
theorem dX5_tell_35 : decode cX5_tell 35 = .ok (.getfield 12, 3) := by decide +kernel
theorem dX5_tell_38 : decode cX5_tell 38 = .ok (.invokevirtual 68, 3) := by decide +kernel
theorem dX5_tell_41 : decode cX5_tell 41 = .ok (.ireturn, 1) := by decide +kernel
theorem dX5_known_0 : decode cX5_known 0 = .ok (.aload_n 0, 1) := by decide +kernel
theorem dX5_known_1 : decode cX5_known 1 = .ok (.iload_n 1, 1) := by decide +kernel
theorem dX5_known_2 : decode cX5_known 2 = .ok (.invokevirtual 117, 3) := by decide +kernel
theorem dX5_known_5 : decode cX5_known 5 = .ok (.astore_n 2, 1) := by decide +kernel
theorem dX5_known_6 : decode cX5_known 6 = .ok (.aload_n 2, 1) := by decide +kernel
theorem dX5_known_7 : decode cX5_known 7 = .ok (.ifnonnull 5, 3) := by decide +kernel
theorem dX5_known_10 : decode cX5_known 10 = .ok (.iconst (-1), 1) := by decide +kernel
theorem dX5_known_11 : decode cX5_known 11 = .ok (.ireturn, 1) := by decide +kernel
theorem dX5_known_12 : decode cX5_known 12 = .ok (.aload_n 0, 1) := by decide +kernel
theorem dX5_known_13 : decode cX5_known 13 = .ok (.getfield 12, 3) := by decide +kernel
theorem dX5_known_16 : decode cX5_known 16 = .ok (.aload_n 0, 1) := by decide +kernel
theorem dX5_known_17 : decode cX5_known 17 = .ok (.aload_n 2, 1) := by decide +kernel
theorem dX5_known_18 : decode cX5_known 18 = .ok (.iconst 0, 1) := by decide +kernel
theorem dX5_known_19 : decode cX5_known 19 = .ok (.invokevirtual 148, 3) := by decide +kernel
theorem dX5_known_22 : decode cX5_known 22 = .ok (.invokevirtual 214, 3) := by decide +kernel
theorem dX5_known_25 : decode cX5_known 25 = .ok (.ireturn, 1) := by decide +kernel
theorem dX5_steps_0 : decode cX5_steps 0 = .ok (.aload_n 0, 1) := by decide +kernel
theorem dX5_steps_1 : decode cX5_steps 1 = .ok (.iload_n 1, 1) := by decide +kernel
theorem dX5_steps_2 : decode cX5_steps 2 = .ok (.invokevirtual 117, 3) := by decide +kernel
theorem dX5_steps_5 : decode cX5_steps 5 = .ok (.astore_n 3, 1) := by decide +kernel
theorem dX5_steps_6 : decode cX5_steps 6 = .ok (.aload_n 3, 1) := by decide +kernel
theorem dX5_steps_7 : decode cX5_steps 7 = .ok (.ifnull 14, 3) := by decide +kernel
theorem dX5_steps_10 : decode cX5_steps 10 = .ok (.aload_n 0, 1) := by decide +kernel
theorem dX5_steps_11 : decode cX5_steps 11 = .ok (.getfield 12, 3) := by decide +kernel
theorem dX5_steps_14 : decode cX5_steps 14 = .ok (.iload_n 2, 1) := by decide +kernel
theorem dX5_steps_15 : decode cX5_steps 15 = .ok (.invokevirtual 75, 3) := by decide +kernel
theorem dX5_steps_18 : decode cX5_steps 18 = .ok (.ifCond .ne 5, 3) := by decide +kernel
theorem dX5_steps_21 : decode cX5_steps 21 = .ok (.iconst (-1), 1) := by decide +kernel
theorem dX5_steps_22 : decode cX5_steps 22 = .ok (.ireturn, 1) := by decide +kernel
theorem dX5_steps_23 : decode cX5_steps 23 = .ok (.aload_n 0, 1) := by decide +kernel
theorem dX5_steps_24 : decode cX5_steps 24 = .ok (.getfield 12, 3) := by decide +kernel
theorem dX5_steps_27 : decode cX5_steps 27 = .ok (.aload_n 0, 1) := by decide +kernel
theorem dX5_steps_28 : decode cX5_steps 28 = .ok (.aload_n 3, 1) := by decide +kernel
theorem dX5_steps_29 : decode cX5_steps 29 = .ok (.iconst 0, 1) := by decide +kernel
theorem dX5_steps_30 : decode cX5_steps 30 = .ok (.invokevirtual 148, 3) := by decide +kernel
theorem dX5_steps_33 : decode cX5_steps 33 = .ok (.iload_n 2, 1) := by decide +kernel
theorem dX5_steps_34 : decode cX5_steps 34 = .ok (.invokevirtual 217, 3) := by decide +kernel
theorem dX5_steps_37 : decode cX5_steps 37 = .ok (.ireturn, 1) := by decide +kernel
theorem dX5_count_0 : decode cX5_count 0 = .ok (.iload_n 1, 1) := by decide +kernel
theorem dX5_count_1 : decode cX5_count 1 = .ok (.tableswitch 78 0 6 #[43, 51, 59, 64, 64, 64, 64], 43) := by decide +kernel
theorem dX5_count_44 : decode cX5_count 44 = .ok (.aload_n 0, 1) := by decide +kernel
theorem dX5_count_45 : decode cX5_count 45 = .ok (.getfield 12, 3) := by decide +kernel
theorem dX5_count_48 : decode cX5_count 48 = .ok (.invokevirtual 68, 3) := by decide +kernel
theorem dX5_count_51 : decode cX5_count 51 = .ok (.ireturn, 1) := by decide +kernel
theorem dX5_count_52 : decode cX5_count 52 = .ok (.aload_n 0, 1) := by decide +kernel
theorem dX5_count_53 : decode cX5_count 53 = .ok (.getfield 12, 3) := by decide +kernel
theorem dX5_count_56 : decode cX5_count 56 = .ok (.invokevirtual 220, 3) := by decide +kernel
theorem dX5_count_59 : decode cX5_count 59 = .ok (.ireturn, 1) := by decide +kernel
theorem dX5_count_60 : decode cX5_count 60 = .ok (.aload_n 0, 1) := by decide +kernel
theorem dX5_count_61 : decode cX5_count 61 = .ok (.getfield 60, 3) := by decide +kernel
theorem dX5_count_64 : decode cX5_count 64 = .ok (.ireturn, 1) := by decide +kernel
theorem dX5_count_65 : decode cX5_count 65 = .ok (.aload_n 0, 1) := by decide +kernel
theorem dX5_count_66 : decode cX5_count 66 = .ok (.getfield 12, 3) := by decide +kernel
theorem dX5_count_69 : decode cX5_count 69 = .ok (.invokevirtual 96, 3) := by decide +kernel
theorem dX5_count_72 : decode cX5_count 72 = .ok (.iload_n 1, 1) := by decide +kernel
theorem dX5_count_73 : decode cX5_count 73 = .ok (.iconst 3, 1) := by decide +kernel
theorem dX5_count_74 : decode cX5_count 74 = .ok (.isub, 1) := by decide +kernel
theorem dX5_count_75 : decode cX5_count 75 = .ok (.invokestatic 100, 3) := by decide +kernel
theorem dX5_count_78 : decode cX5_count 78 = .ok (.ireturn, 1) := by decide +kernel
theorem dX5_count_79 : decode cX5_count 79 = .ok (.iconst (-1), 1) := by decide +kernel
theorem dX5_count_80 : decode cX5_count 80 = .ok (.ireturn, 1) := by decide +kernel
theorem dX5_trace_0 : decode cX5_trace 0 = .ok (.aload_n 0, 1) := by decide +kernel
theorem dX5_trace_1 : decode cX5_trace 1 = .ok (.getfield 64, 3) := by decide +kernel
theorem dX5_trace_4 : decode cX5_trace 4 = .ok (.lreturn, 1) := by decide +kernel
theorem dX5_sentence_0 : decode cX5_sentence 0 = .ok (.iload_n 1, 1) := by decide +kernel
theorem dX5_sentence_1 : decode cX5_sentence 1 = .ok (.ifCond .lt 21, 3) := by decide +kernel
theorem dX5_sentence_4 : decode cX5_sentence 4 = .ok (.iload_n 1, 1) := by decide +kernel
theorem dX5_sentence_5 : decode cX5_sentence 5 = .ok (.aload_n 0, 1) := by decide +kernel
theorem dX5_sentence_6 : decode cX5_sentence 6 = .ok (.getfield 39, 3) := by decide +kernel
theorem dX5_sentence_9 : decode cX5_sentence 9 = .ok (.arraylength, 1) := by decide +kernel
theorem dX5_sentence_10 : decode cX5_sentence 10 = .ok (.if_icmp .ge 12, 3) := by decide +kernel
theorem dX5_sentence_13 : decode cX5_sentence 13 = .ok (.aload_n 0, 1) := by decide +kernel
theorem dX5_sentence_14 : decode cX5_sentence 14 = .ok (.getfield 39, 3) := by decide +kernel
theorem dX5_sentence_17 : decode cX5_sentence 17 = .ok (.iload_n 1, 1) := by decide +kernel
theorem dX5_sentence_18 : decode cX5_sentence 18 = .ok (.aaload, 1) := by decide +kernel
theorem dX5_sentence_19 : decode cX5_sentence 19 = .ok (.goto 4, 3) := by decide +kernel
theorem dX5_sentence_22 : decode cX5_sentence 22 = .ok (.aconst_null, 1) := by decide +kernel
theorem dX5_sentence_23 : decode cX5_sentence 23 = .ok (.areturn, 1) := by decide +kernel
theorem dX5_whereHolds_0 : decode cX5_whereHolds 0 = .ok (.aload_n 0, 1) := by decide +kernel
theorem dX5_whereHolds_1 : decode cX5_whereHolds 1 = .ok (.getfield 19, 3) := by decide +kernel
theorem dX5_whereHolds_4 : decode cX5_whereHolds 4 = .ok (.aload_n 0, 1) := by decide +kernel
theorem dX5_whereHolds_5 : decode cX5_whereHolds 5 = .ok (.getfield 12, 3) := by decide +kernel
theorem dX5_whereHolds_8 : decode cX5_whereHolds 8 = .ok (.iload_n 2, 1) := by decide +kernel
theorem dX5_whereHolds_9 : decode cX5_whereHolds 9 = .ok (.invokevirtual 158, 3) := by decide +kernel
theorem dX5_whereHolds_12 : decode cX5_whereHolds 12 = .ok (.aload_n 0, 1) := by decide +kernel
theorem dX5_whereHolds_13 : decode cX5_whereHolds 13 = .ok (.getfield 19, 3) := by decide +kernel
theorem dX5_whereHolds_16 : decode cX5_whereHolds 16 = .ok (.aload_n 1, 1) := by decide +kernel
theorem dX5_whereHolds_17 : decode cX5_whereHolds 17 = .ok (.aload_n 0, 1) := by decide +kernel
theorem dX5_whereHolds_18 : decode cX5_whereHolds 18 = .ok (.getfield 12, 3) := by decide +kernel
theorem dX5_whereHolds_21 : decode cX5_whereHolds 21 = .ok (.invokevirtual 96, 3) := by decide +kernel
theorem dX5_whereHolds_24 : decode cX5_whereHolds 24 = .ok (.iconst 0, 1) := by decide +kernel
theorem dX5_whereHolds_25 : decode cX5_whereHolds 25 = .ok (.invokevirtual 166, 3) := by decide +kernel
theorem dX5_whereHolds_28 : decode cX5_whereHolds 28 = .ok (.ireturn, 1) := by decide +kernel
theorem dX5_depthApart_0 : decode cX5_depthApart 0 = .ok (.aload_n 0, 1) := by decide +kernel
theorem dX5_depthApart_1 : decode cX5_depthApart 1 = .ok (.getfield 19, 3) := by decide +kernel
theorem dX5_depthApart_4 : decode cX5_depthApart 4 = .ok (.aload_n 0, 1) := by decide +kernel
theorem dX5_depthApart_5 : decode cX5_depthApart 5 = .ok (.getfield 12, 3) := by decide +kernel
theorem dX5_depthApart_8 : decode cX5_depthApart 8 = .ok (.iload_n 3, 1) := by decide +kernel
theorem dX5_depthApart_9 : decode cX5_depthApart 9 = .ok (.invokevirtual 158, 3) := by decide +kernel
theorem dX5_depthApart_12 : decode cX5_depthApart 12 = .ok (.aload_n 0, 1) := by decide +kernel
theorem dX5_depthApart_13 : decode cX5_depthApart 13 = .ok (.getfield 19, 3) := by decide +kernel
theorem dX5_depthApart_16 : decode cX5_depthApart 16 = .ok (.aload_n 0, 1) := by decide +kernel
theorem dX5_depthApart_17 : decode cX5_depthApart 17 = .ok (.getfield 12, 3) := by decide +kernel
theorem dX5_depthApart_20 : decode cX5_depthApart 20 = .ok (.iload_n 1, 1) := by decide +kernel
theorem dX5_depthApart_21 : decode cX5_depthApart 21 = .ok (.iload_n 2, 1) := by decide +kernel
theorem dX5_depthApart_22 : decode cX5_depthApart 22 = .ok (.invokevirtual 223, 3) := by decide +kernel
theorem dX5_depthApart_25 : decode cX5_depthApart 25 = .ok (.ireturn, 1) := by decide +kernel
theorem dX5_deal_0 : decode cX5_deal 0 = .ok (.iload_n 2, 1) := by decide +kernel
theorem dX5_deal_1 : decode cX5_deal 1 = .ok (.istore_n 3, 1) := by decide +kernel
theorem dX5_deal_2 : decode cX5_deal 2 = .ok (.iconst 0, 1) := by decide +kernel
theorem dX5_deal_3 : decode cX5_deal 3 = .ok (.istore 4, 2) := by decide +kernel
theorem dX5_deal_5 : decode cX5_deal 5 = .ok (.iload 4, 2) := by decide +kernel
theorem dX5_deal_7 : decode cX5_deal 7 = .ok (.iconst 4, 1) := by decide +kernel
theorem dX5_deal_8 : decode cX5_deal 8 = .ok (.if_icmp .ge 49, 3) := by decide +kernel
theorem dX5_deal_11 : decode cX5_deal 11 = .ok (.iload_n 1, 1) := by decide +kernel
theorem dX5_deal_12 : decode cX5_deal 12 = .ok (.iload 4, 2) := by decide +kernel
theorem dX5_deal_14 : decode cX5_deal 14 = .ok (.invokestatic 86, 3) := by decide +kernel
theorem dX5_deal_17 : decode cX5_deal 17 = .ok (.ifCond .ne 6, 3) := by decide +kernel
theorem dX5_deal_20 : decode cX5_deal 20 = .ok (.goto 31, 3) := by decide +kernel
theorem dX5_deal_23 : decode cX5_deal 23 = .ok (.aload_n 0, 1) := by decide +kernel
theorem dX5_deal_24 : decode cX5_deal 24 = .ok (.getfield 54, 3) := by decide +kernel
theorem dX5_deal_27 : decode cX5_deal 27 = .ok (.iload 4, 2) := by decide +kernel
theorem dX5_deal_29 : decode cX5_deal 29 = .ok (.iload_n 3, 1) := by decide +kernel
theorem dX5_deal_30 : decode cX5_deal 30 = .ok (.aload_n 0, 1) := by decide +kernel
theorem dX5_deal_31 : decode cX5_deal 31 = .ok (.getfield 12, 3) := by decide +kernel
theorem dX5_deal_34 : decode cX5_deal 34 = .ok (.invokevirtual 93, 3) := by decide +kernel
theorem dX5_deal_37 : decode cX5_deal 37 = .ok (.iand, 1) := by decide +kernel
theorem dX5_deal_38 : decode cX5_deal 38 = .ok (.invokestatic 104, 3) := by decide +kernel
theorem dX5_deal_41 : decode cX5_deal 41 = .ok (.iload_n 3, 1) := by decide +kernel
theorem dX5_deal_42 : decode cX5_deal 42 = .ok (.aload_n 0, 1) := by decide +kernel
theorem dX5_deal_43 : decode cX5_deal 43 = .ok (.getfield 12, 3) := by decide +kernel
theorem dX5_deal_46 : decode cX5_deal 46 = .ok (.invokevirtual 68, 3) := by decide +kernel
theorem dX5_deal_49 : decode cX5_deal 49 = .ok (.iushr, 1) := by decide +kernel
theorem dX5_deal_50 : decode cX5_deal 50 = .ok (.istore_n 3, 1) := by decide +kernel
theorem dX5_deal_51 : decode cX5_deal 51 = .ok (.iinc 4 1, 3) := by decide +kernel
theorem dX5_deal_54 : decode cX5_deal 54 = .ok (.goto (-49), 3) := by decide +kernel
theorem dX5_deal_57 : decode cX5_deal 57 = .ok (.return_, 1) := by decide +kernel
theorem dX5_isSort_0 : decode cX5_isSort 0 = .ok (.iload_n 0, 1) := by decide +kernel
theorem dX5_isSort_1 : decode cX5_isSort 1 = .ok (.ifCond .lt 12, 3) := by decide +kernel
theorem dX5_isSort_4 : decode cX5_isSort 4 = .ok (.iload_n 0, 1) := by decide +kernel
theorem dX5_isSort_5 : decode cX5_isSort 5 = .ok (.iconst 4, 1) := by decide +kernel
theorem dX5_isSort_6 : decode cX5_isSort 6 = .ok (.if_icmp .ge 7, 3) := by decide +kernel
theorem dX5_isSort_9 : decode cX5_isSort 9 = .ok (.iconst 1, 1) := by decide +kernel
theorem dX5_isSort_10 : decode cX5_isSort 10 = .ok (.goto 4, 3) := by decide +kernel
theorem dX5_isSort_13 : decode cX5_isSort 13 = .ok (.iconst 0, 1) := by decide +kernel
theorem dX5_isSort_14 : decode cX5_isSort 14 = .ok (.ireturn, 1) := by decide +kernel
theorem dX5_isLogic_0 : decode cX5_isLogic 0 = .ok (.iload_n 0, 1) := by decide +kernel
theorem dX5_isLogic_1 : decode cX5_isLogic 1 = .ok (.ifCond .lt 13, 3) := by decide +kernel
theorem dX5_isLogic_4 : decode cX5_isLogic 4 = .ok (.iload_n 0, 1) := by decide +kernel
theorem dX5_isLogic_5 : decode cX5_isLogic 5 = .ok (.bipush 8, 2) := by decide +kernel
theorem dX5_isLogic_7 : decode cX5_isLogic 7 = .ok (.if_icmp .ge 7, 3) := by decide +kernel
theorem dX5_isLogic_10 : decode cX5_isLogic 10 = .ok (.iconst 1, 1) := by decide +kernel
theorem dX5_isLogic_11 : decode cX5_isLogic 11 = .ok (.goto 4, 3) := by decide +kernel
theorem dX5_isLogic_14 : decode cX5_isLogic 14 = .ok (.iconst 0, 1) := by decide +kernel
theorem dX5_isLogic_15 : decode cX5_isLogic 15 = .ok (.ireturn, 1) := by decide +kernel
theorem dX5_isWhether_0 : decode cX5_isWhether 0 = .ok (.iload_n 0, 1) := by decide +kernel
theorem dX5_isWhether_1 : decode cX5_isWhether 1 = .ok (.ifCond .eq 8, 3) := by decide +kernel
theorem dX5_isWhether_4 : decode cX5_isWhether 4 = .ok (.iload_n 0, 1) := by decide +kernel
theorem dX5_isWhether_5 : decode cX5_isWhether 5 = .ok (.iconst 1, 1) := by decide +kernel
theorem dX5_isWhether_6 : decode cX5_isWhether 6 = .ok (.if_icmp .ne 7, 3) := by decide +kernel
theorem dX5_isWhether_9 : decode cX5_isWhether 9 = .ok (.iconst 1, 1) := by decide +kernel
theorem dX5_isWhether_10 : decode cX5_isWhether 10 = .ok (.goto 4, 3) := by decide +kernel
theorem dX5_isWhether_13 : decode cX5_isWhether 13 = .ok (.iconst 0, 1) := by decide +kernel
theorem dX5_isWhether_14 : decode cX5_isWhether 14 = .ok (.ireturn, 1) := by decide +kernel
theorem dX5_whether_0 : decode cX5_whether 0 = .ok (.iload_n 0, 1) := by decide +kernel
theorem dX5_whether_1 : decode cX5_whether 1 = .ok (.ifCond .eq 7, 3) := by decide +kernel
theorem dX5_whether_4 : decode cX5_whether 4 = .ok (.iconst 1, 1) := by decide +kernel
theorem dX5_whether_5 : decode cX5_whether 5 = .ok (.goto 4, 3) := by decide +kernel
theorem dX5_whether_8 : decode cX5_whether 8 = .ok (.iconst 0, 1) := by decide +kernel
theorem dX5_whether_9 : decode cX5_whether 9 = .ok (.ireturn, 1) := by decide +kernel
theorem dX5_bit_0 : decode cX5_bit 0 = .ok (.iload_n 0, 1) := by decide +kernel
theorem dX5_bit_1 : decode cX5_bit 1 = .ok (.iload_n 1, 1) := by decide +kernel
theorem dX5_bit_2 : decode cX5_bit 2 = .ok (.iushr, 1) := by decide +kernel
theorem dX5_bit_3 : decode cX5_bit 3 = .ok (.iconst 1, 1) := by decide +kernel
theorem dX5_bit_4 : decode cX5_bit 4 = .ok (.iand, 1) := by decide +kernel
theorem dX5_bit_5 : decode cX5_bit 5 = .ok (.ireturn, 1) := by decide +kernel
theorem dX5_within_0 : decode cX5_within 0 = .ok (.iload_n 0, 1) := by decide +kernel
theorem dX5_within_1 : decode cX5_within 1 = .ok (.iload_n 1, 1) := by decide +kernel
theorem dX5_within_2 : decode cX5_within 2 = .ok (.iconst (-1), 1) := by decide +kernel
theorem dX5_within_3 : decode cX5_within 3 = .ok (.ixor, 1) := by decide +kernel
theorem dX5_within_4 : decode cX5_within 4 = .ok (.iand, 1) := by decide +kernel
theorem dX5_within_5 : decode cX5_within 5 = .ok (.ifCond .ne 7, 3) := by decide +kernel
theorem dX5_within_8 : decode cX5_within 8 = .ok (.iconst 1, 1) := by decide +kernel
theorem dX5_within_9 : decode cX5_within 9 = .ok (.goto 4, 3) := by decide +kernel
theorem dX5_within_12 : decode cX5_within 12 = .ok (.iconst 0, 1) := by decide +kernel
theorem dX5_within_13 : decode cX5_within 13 = .ok (.ireturn, 1) := by decide +kernel
theorem dX5_at_0 : decode cX5_at 0 = .ok (.iload_n 1, 1) := by decide +kernel
theorem dX5_at_1 : decode cX5_at 1 = .ok (.ifCond .lt 15, 3) := by decide +kernel
theorem dX5_at_4 : decode cX5_at 4 = .ok (.iload_n 1, 1) := by decide +kernel
theorem dX5_at_5 : decode cX5_at 5 = .ok (.aload_n 0, 1) := by decide +kernel
theorem dX5_at_6 : decode cX5_at 6 = .ok (.arraylength, 1) := by decide +kernel
theorem dX5_at_7 : decode cX5_at 7 = .ok (.if_icmp .ge 9, 3) := by decide +kernel
theorem dX5_at_10 : decode cX5_at 10 = .ok (.aload_n 0, 1) := by decide +kernel
theorem dX5_at_11 : decode cX5_at 11 = .ok (.iload_n 1, 1) := by decide +kernel
theorem dX5_at_12 : decode cX5_at 12 = .ok (.iaload, 1) := by decide +kernel
theorem dX5_at_13 : decode cX5_at 13 = .ok (.goto 4, 3) := by decide +kernel
theorem dX5_at_16 : decode cX5_at 16 = .ok (.iconst 0, 1) := by decide +kernel
theorem dX5_at_17 : decode cX5_at 17 = .ok (.ireturn, 1) := by decide +kernel
theorem dX5_put_0 : decode cX5_put 0 = .ok (.iload_n 1, 1) := by decide +kernel
theorem dX5_put_1 : decode cX5_put 1 = .ok (.ifCond .lt 13, 3) := by decide +kernel
theorem dX5_put_4 : decode cX5_put 4 = .ok (.iload_n 1, 1) := by decide +kernel
theorem dX5_put_5 : decode cX5_put 5 = .ok (.aload_n 0, 1) := by decide +kernel
theorem dX5_put_6 : decode cX5_put 6 = .ok (.arraylength, 1) := by decide +kernel
theorem dX5_put_7 : decode cX5_put 7 = .ok (.if_icmp .ge 7, 3) := by decide +kernel
theorem dX5_put_10 : decode cX5_put 10 = .ok (.aload_n 0, 1) := by decide +kernel
theorem dX5_put_11 : decode cX5_put 11 = .ok (.iload_n 1, 1) := by decide +kernel
theorem dX5_put_12 : decode cX5_put 12 = .ok (.iload_n 2, 1) := by decide +kernel
theorem dX5_put_13 : decode cX5_put 13 = .ok (.iastore, 1) := by decide +kernel
theorem dX5_put_14 : decode cX5_put 14 = .ok (.return_, 1) := by decide +kernel
theorem dX5_isAtom_0 : decode cX5_isAtom 0 = .ok (.iload_n 0, 1) := by decide +kernel
theorem dX5_isAtom_1 : decode cX5_isAtom 1 = .ok (.bipush 112, 2) := by decide +kernel
theorem dX5_isAtom_3 : decode cX5_isAtom 3 = .ok (.if_icmp .lt 13, 3) := by decide +kernel
theorem dX5_isAtom_6 : decode cX5_isAtom 6 = .ok (.iload_n 0, 1) := by decide +kernel
theorem dX5_isAtom_7 : decode cX5_isAtom 7 = .ok (.bipush 115, 2) := by decide +kernel
theorem dX5_isAtom_9 : decode cX5_isAtom 9 = .ok (.if_icmp .gt 7, 3) := by decide +kernel
theorem dX5_isAtom_12 : decode cX5_isAtom 12 = .ok (.iconst 1, 1) := by decide +kernel
theorem dX5_isAtom_13 : decode cX5_isAtom 13 = .ok (.goto 4, 3) := by decide +kernel
theorem dX5_isAtom_16 : decode cX5_isAtom 16 = .ok (.iconst 0, 1) := by decide +kernel
theorem dX5_isAtom_17 : decode cX5_isAtom 17 = .ok (.ireturn, 1) := by decide +kernel
theorem dX5_isModal_0 : decode cX5_isModal 0 = .ok (.iload_n 0, 1) := by decide +kernel
theorem dX5_isModal_1 : decode cX5_isModal 1 = .ok (.bipush 91, 2) := by decide +kernel
theorem dX5_isModal_3 : decode cX5_isModal 3 = .ok (.if_icmp .eq 9, 3) := by decide +kernel
theorem dX5_isModal_6 : decode cX5_isModal 6 = .ok (.iload_n 0, 1) := by decide +kernel
theorem dX5_isModal_7 : decode cX5_isModal 7 = .ok (.bipush 123, 2) := by decide +kernel
theorem dX5_isModal_9 : decode cX5_isModal 9 = .ok (.if_icmp .ne 7, 3) := by decide +kernel
theorem dX5_isModal_12 : decode cX5_isModal 12 = .ok (.iconst 1, 1) := by decide +kernel
theorem dX5_isModal_13 : decode cX5_isModal 13 = .ok (.goto 4, 3) := by decide +kernel
theorem dX5_isModal_16 : decode cX5_isModal 16 = .ok (.iconst 0, 1) := by decide +kernel
theorem dX5_isModal_17 : decode cX5_isModal 17 = .ok (.ireturn, 1) := by decide +kernel
theorem dX5_isPrefix_0 : decode cX5_isPrefix 0 = .ok (.iload_n 0, 1) := by decide +kernel
theorem dX5_isPrefix_1 : decode cX5_isPrefix 1 = .ok (.bipush 33, 2) := by decide +kernel
theorem dX5_isPrefix_3 : decode cX5_isPrefix 3 = .ok (.if_icmp .eq 10, 3) := by decide +kernel
theorem dX5_isPrefix_6 : decode cX5_isPrefix 6 = .ok (.iload_n 0, 1) := by decide +kernel
theorem dX5_isPrefix_7 : decode cX5_isPrefix 7 = .ok (.invokestatic 226, 3) := by decide +kernel
theorem dX5_isPrefix_10 : decode cX5_isPrefix 10 = .ok (.ifCond .eq 7, 3) := by decide +kernel
theorem dX5_isPrefix_13 : decode cX5_isPrefix 13 = .ok (.iconst 1, 1) := by decide +kernel
theorem dX5_isPrefix_14 : decode cX5_isPrefix 14 = .ok (.goto 4, 3) := by decide +kernel
theorem dX5_isPrefix_17 : decode cX5_isPrefix 17 = .ok (.iconst 0, 1) := by decide +kernel
theorem dX5_isPrefix_18 : decode cX5_isPrefix 18 = .ok (.ireturn, 1) := by decide +kernel
theorem dX5_isBetween_0 : decode cX5_isBetween 0 = .ok (.iload_n 0, 1) := by decide +kernel
theorem dX5_isBetween_1 : decode cX5_isBetween 1 = .ok (.bipush 38, 2) := by decide +kernel
theorem dX5_isBetween_3 : decode cX5_isBetween 3 = .ok (.if_icmp .eq 15, 3) := by decide +kernel
theorem dX5_isBetween_6 : decode cX5_isBetween 6 = .ok (.iload_n 0, 1) := by decide +kernel
theorem dX5_isBetween_7 : decode cX5_isBetween 7 = .ok (.bipush 124, 2) := by decide +kernel
theorem dX5_isBetween_9 : decode cX5_isBetween 9 = .ok (.if_icmp .eq 9, 3) := by decide +kernel
theorem dX5_isBetween_12 : decode cX5_isBetween 12 = .ok (.iload_n 0, 1) := by decide +kernel
theorem dX5_isBetween_13 : decode cX5_isBetween 13 = .ok (.bipush 62, 2) := by decide +kernel
theorem dX5_isBetween_15 : decode cX5_isBetween 15 = .ok (.if_icmp .ne 7, 3) := by decide +kernel
theorem dX5_isBetween_18 : decode cX5_isBetween 18 = .ok (.iconst 1, 1) := by decide +kernel
theorem dX5_isBetween_19 : decode cX5_isBetween 19 = .ok (.goto 4, 3) := by decide +kernel
theorem dX5_isBetween_22 : decode cX5_isBetween 22 = .ok (.iconst 0, 1) := by decide +kernel
theorem dX5_isBetween_23 : decode cX5_isBetween 23 = .ok (.ireturn, 1) := by decide +kernel
theorem dX5_joined_0 : decode cX5_joined 0 = .ok (.iload_n 0, 1) := by decide +kernel
theorem dX5_joined_1 : decode cX5_joined 1 = .ok (.lookupswitch 75 #[(33, 53), (38, 59), (62, 67), (84, 51), (124, 63)], 51) := by decide +kernel
theorem dX5_joined_52 : decode cX5_joined 52 = .ok (.iload_n 3, 1) := by decide +kernel
theorem dX5_joined_53 : decode cX5_joined 53 = .ok (.ireturn, 1) := by decide +kernel
theorem dX5_joined_54 : decode cX5_joined 54 = .ok (.iload_n 3, 1) := by decide +kernel
theorem dX5_joined_55 : decode cX5_joined 55 = .ok (.iload_n 1, 1) := by decide +kernel
theorem dX5_joined_56 : decode cX5_joined 56 = .ok (.iconst (-1), 1) := by decide +kernel
theorem dX5_joined_57 : decode cX5_joined 57 = .ok (.ixor, 1) := by decide +kernel
theorem dX5_joined_58 : decode cX5_joined 58 = .ok (.iand, 1) := by decide +kernel
theorem dX5_joined_59 : decode cX5_joined 59 = .ok (.ireturn, 1) := by decide +kernel
theorem dX5_joined_60 : decode cX5_joined 60 = .ok (.iload_n 1, 1) := by decide +kernel
theorem dX5_joined_61 : decode cX5_joined 61 = .ok (.iload_n 2, 1) := by decide +kernel
theorem dX5_joined_62 : decode cX5_joined 62 = .ok (.iand, 1) := by decide +kernel
theorem dX5_joined_63 : decode cX5_joined 63 = .ok (.ireturn, 1) := by decide +kernel
theorem dX5_joined_64 : decode cX5_joined 64 = .ok (.iload_n 1, 1) := by decide +kernel
theorem dX5_joined_65 : decode cX5_joined 65 = .ok (.iload_n 2, 1) := by decide +kernel
theorem dX5_joined_66 : decode cX5_joined 66 = .ok (.ior, 1) := by decide +kernel
theorem dX5_joined_67 : decode cX5_joined 67 = .ok (.ireturn, 1) := by decide +kernel
theorem dX5_joined_68 : decode cX5_joined 68 = .ok (.iload_n 3, 1) := by decide +kernel
theorem dX5_joined_69 : decode cX5_joined 69 = .ok (.iload_n 1, 1) := by decide +kernel
theorem dX5_joined_70 : decode cX5_joined 70 = .ok (.iconst (-1), 1) := by decide +kernel
theorem dX5_joined_71 : decode cX5_joined 71 = .ok (.ixor, 1) := by decide +kernel
theorem dX5_joined_72 : decode cX5_joined 72 = .ok (.iload_n 2, 1) := by decide +kernel
theorem dX5_joined_73 : decode cX5_joined 73 = .ok (.ior, 1) := by decide +kernel
theorem dX5_joined_74 : decode cX5_joined 74 = .ok (.iand, 1) := by decide +kernel
theorem dX5_joined_75 : decode cX5_joined 75 = .ok (.ireturn, 1) := by decide +kernel
theorem dX5_joined_76 : decode cX5_joined 76 = .ok (.iconst 0, 1) := by decide +kernel
theorem dX5_joined_77 : decode cX5_joined 77 = .ok (.ireturn, 1) := by decide +kernel
theorem dX6_init_0 : decode cX6_init 0 = .ok (.aload_n 0, 1) := by decide +kernel
theorem dX6_init_1 : decode cX6_init 1 = .ok (.invokespecial 1, 3) := by decide +kernel
theorem dX6_init_4 : decode cX6_init 4 = .ok (.aload_n 0, 1) := by decide +kernel
theorem dX6_init_5 : decode cX6_init 5 = .ok (.iconst 3, 1) := by decide +kernel
theorem dX6_init_6 : decode cX6_init 6 = .ok (.putfield 7, 3) := by decide +kernel
theorem dX6_init_9 : decode cX6_init 9 = .ok (.aload_n 0, 1) := by decide +kernel
theorem dX6_init_10 : decode cX6_init 10 = .ok (.bipush 8, 2) := by decide +kernel
theorem dX6_init_12 : decode cX6_init 12 = .ok (.newarray .int, 2) := by decide +kernel
theorem dX6_init_14 : decode cX6_init 14 = .ok (.putfield 13, 3) := by decide +kernel
theorem dX6_init_17 : decode cX6_init 17 = .ok (.aload_n 0, 1) := by decide +kernel
theorem dX6_init_18 : decode cX6_init 18 = .ok (.iconst 4, 1) := by decide +kernel
theorem dX6_init_19 : decode cX6_init 19 = .ok (.newarray .int, 2) := by decide +kernel
theorem dX6_init_21 : decode cX6_init 21 = .ok (.putfield 17, 3) := by decide +kernel
theorem dX6_init_24 : decode cX6_init 24 = .ok (.aload_n 0, 1) := by decide +kernel
theorem dX6_init_25 : decode cX6_init 25 = .ok (.sipush 200, 3) := by decide +kernel
theorem dX6_init_28 : decode cX6_init 28 = .ok (.newarray .int, 2) := by decide +kernel
theorem dX6_init_30 : decode cX6_init 30 = .ok (.putfield 20, 3) := by decide +kernel
theorem dX6_init_33 : decode cX6_init 33 = .ok (.aload_n 0, 1) := by decide +kernel
theorem dX6_init_34 : decode cX6_init 34 = .ok (.sipush 1200, 3) := by decide +kernel
theorem dX6_init_37 : decode cX6_init 37 = .ok (.newarray .int, 2) := by decide +kernel
theorem dX6_init_39 : decode cX6_init 39 = .ok (.putfield 23, 3) := by decide +kernel
theorem dX6_init_42 : decode cX6_init 42 = .ok (.aload_n 0, 1) := by decide +kernel
theorem dX6_init_43 : decode cX6_init 43 = .ok (.bipush 6, 2) := by decide +kernel
theorem dX6_init_45 : decode cX6_init 45 = .ok (.newarray .int, 2) := by decide +kernel
theorem dX6_init_47 : decode cX6_init 47 = .ok (.putfield 26, 3) := by decide +kernel
theorem dX6_init_50 : decode cX6_init 50 = .ok (.aload_n 0, 1) := by decide +kernel
theorem dX6_init_51 : decode cX6_init 51 = .ok (.bipush 6, 2) := by decide +kernel
theorem dX6_init_53 : decode cX6_init 53 = .ok (.newarray .int, 2) := by decide +kernel
theorem dX6_init_55 : decode cX6_init 55 = .ok (.putfield 29, 3) := by decide +kernel
theorem dX6_init_58 : decode cX6_init 58 = .ok (.aload_n 0, 1) := by decide +kernel
theorem dX6_init_59 : decode cX6_init 59 = .ok (.sipush 240, 3) := by decide +kernel
theorem dX6_init_62 : decode cX6_init 62 = .ok (.newarray .int, 2) := by decide +kernel
theorem dX6_init_64 : decode cX6_init 64 = .ok (.putfield 32, 3) := by decide +kernel
theorem dX6_init_67 : decode cX6_init 67 = .ok (.aload_n 0, 1) := by decide +kernel
theorem dX6_init_68 : decode cX6_init 68 = .ok (.sipush 240, 3) := by decide +kernel
theorem dX6_init_71 : decode cX6_init 71 = .ok (.newarray .int, 2) := by decide +kernel
theorem dX6_init_73 : decode cX6_init 73 = .ok (.putfield 35, 3) := by decide +kernel
theorem dX6_init_76 : decode cX6_init 76 = .ok (.aload_n 0, 1) := by decide +kernel
theorem dX6_init_77 : decode cX6_init 77 = .ok (.sipush 240, 3) := by decide +kernel
theorem dX6_init_80 : decode cX6_init 80 = .ok (.newarray .int, 2) := by decide +kernel
theorem dX6_init_82 : decode cX6_init 82 = .ok (.putfield 38, 3) := by decide +kernel
theorem dX6_init_85 : decode cX6_init 85 = .ok (.aload_n 0, 1) := by decide +kernel
theorem dX6_init_86 : decode cX6_init 86 = .ok (.sipush 240, 3) := by decide +kernel
theorem dX6_init_89 : decode cX6_init 89 = .ok (.newarray .int, 2) := by decide +kernel
theorem dX6_init_91 : decode cX6_init 91 = .ok (.putfield 41, 3) := by decide +kernel
theorem dX6_init_94 : decode cX6_init 94 = .ok (.aload_n 0, 1) := by decide +kernel
theorem dX6_init_95 : decode cX6_init 95 = .ok (.sipush 240, 3) := by decide +kernel
theorem dX6_init_98 : decode cX6_init 98 = .ok (.newarray .int, 2) := by decide +kernel
theorem dX6_init_100 : decode cX6_init 100 = .ok (.putfield 44, 3) := by decide +kernel
theorem dX6_init_103 : decode cX6_init 103 = .ok (.aload_n 0, 1) := by decide +kernel
theorem dX6_init_104 : decode cX6_init 104 = .ok (.bipush 40, 2) := by decide +kernel
theorem dX6_init_106 : decode cX6_init 106 = .ok (.newarray .int, 2) := by decide +kernel
theorem dX6_init_108 : decode cX6_init 108 = .ok (.putfield 47, 3) := by decide +kernel
theorem dX6_init_111 : decode cX6_init 111 = .ok (.aload_n 0, 1) := by decide +kernel
theorem dX6_init_112 : decode cX6_init 112 = .ok (.bipush 40, 2) := by decide +kernel
theorem dX6_init_114 : decode cX6_init 114 = .ok (.newarray .int, 2) := by decide +kernel
theorem dX6_init_116 : decode cX6_init 116 = .ok (.putfield 50, 3) := by decide +kernel
theorem dX6_init_119 : decode cX6_init 119 = .ok (.aload_n 0, 1) := by decide +kernel
theorem dX6_init_120 : decode cX6_init 120 = .ok (.bipush 40, 2) := by decide +kernel
theorem dX6_init_122 : decode cX6_init 122 = .ok (.newarray .int, 2) := by decide +kernel
theorem dX6_init_124 : decode cX6_init 124 = .ok (.putfield 53, 3) := by decide +kernel
theorem dX6_init_127 : decode cX6_init 127 = .ok (.aload_n 0, 1) := by decide +kernel
theorem dX6_init_128 : decode cX6_init 128 = .ok (.bipush 40, 2) := by decide +kernel
theorem dX6_init_130 : decode cX6_init 130 = .ok (.newarray .int, 2) := by decide +kernel
theorem dX6_init_132 : decode cX6_init 132 = .ok (.putfield 56, 3) := by decide +kernel
theorem dX6_init_135 : decode cX6_init 135 = .ok (.aload_n 0, 1) := by decide +kernel
theorem dX6_init_136 : decode cX6_init 136 = .ok (.bipush 40, 2) := by decide +kernel
theorem dX6_init_138 : decode cX6_init 138 = .ok (.newarray .int, 2) := by decide +kernel
theorem dX6_init_140 : decode cX6_init 140 = .ok (.putfield 59, 3) := by decide +kernel
theorem dX6_init_143 : decode cX6_init 143 = .ok (.aload_n 0, 1) := by decide +kernel
theorem dX6_init_144 : decode cX6_init 144 = .ok (.bipush 20, 2) := by decide +kernel
theorem dX6_init_146 : decode cX6_init 146 = .ok (.newarray .int, 2) := by decide +kernel
theorem dX6_init_148 : decode cX6_init 148 = .ok (.putfield 62, 3) := by decide +kernel
theorem dX6_init_151 : decode cX6_init 151 = .ok (.aload_n 0, 1) := by decide +kernel
theorem dX6_init_152 : decode cX6_init 152 = .ok (.bipush 20, 2) := by decide +kernel
theorem dX6_init_154 : decode cX6_init 154 = .ok (.newarray .int, 2) := by decide +kernel
theorem dX6_init_156 : decode cX6_init 156 = .ok (.putfield 65, 3) := by decide +kernel
theorem dX6_init_159 : decode cX6_init 159 = .ok (.aload_n 0, 1) := by decide +kernel
theorem dX6_init_160 : decode cX6_init 160 = .ok (.bipush 20, 2) := by decide +kernel
theorem dX6_init_162 : decode cX6_init 162 = .ok (.newarray .int, 2) := by decide +kernel
theorem dX6_init_164 : decode cX6_init 164 = .ok (.putfield 68, 3) := by decide +kernel
theorem dX6_init_167 : decode cX6_init 167 = .ok (.aload_n 0, 1) := by decide +kernel
theorem dX6_init_168 : decode cX6_init 168 = .ok (.bipush 20, 2) := by decide +kernel
theorem dX6_init_170 : decode cX6_init 170 = .ok (.newarray .int, 2) := by decide +kernel
theorem dX6_init_172 : decode cX6_init 172 = .ok (.putfield 71, 3) := by decide +kernel
theorem dX6_init_175 : decode cX6_init 175 = .ok (.aload_n 0, 1) := by decide +kernel
theorem dX6_init_176 : decode cX6_init 176 = .ok (.sipush 420, 3) := by decide +kernel
theorem dX6_init_179 : decode cX6_init 179 = .ok (.newarray .int, 2) := by decide +kernel
theorem dX6_init_181 : decode cX6_init 181 = .ok (.putfield 74, 3) := by decide +kernel
theorem dX6_init_184 : decode cX6_init 184 = .ok (.aload_n 0, 1) := by decide +kernel
theorem dX6_init_185 : decode cX6_init 185 = .ok (.bipush 90, 2) := by decide +kernel
theorem dX6_init_187 : decode cX6_init 187 = .ok (.newarray .int, 2) := by decide +kernel
theorem dX6_init_189 : decode cX6_init 189 = .ok (.putfield 77, 3) := by decide +kernel
theorem dX6_init_192 : decode cX6_init 192 = .ok (.aload_n 0, 1) := by decide +kernel
theorem dX6_init_193 : decode cX6_init 193 = .ok (.bipush 90, 2) := by decide +kernel
theorem dX6_init_195 : decode cX6_init 195 = .ok (.newarray .int, 2) := by decide +kernel
theorem dX6_init_197 : decode cX6_init 197 = .ok (.putfield 80, 3) := by decide +kernel
theorem dX6_init_200 : decode cX6_init 200 = .ok (.aload_n 0, 1) := by decide +kernel
theorem dX6_init_201 : decode cX6_init 201 = .ok (.bipush 90, 2) := by decide +kernel
theorem dX6_init_203 : decode cX6_init 203 = .ok (.newarray .int, 2) := by decide +kernel
theorem dX6_init_205 : decode cX6_init 205 = .ok (.putfield 83, 3) := by decide +kernel
theorem dX6_init_208 : decode cX6_init 208 = .ok (.aload_n 0, 1) := by decide +kernel
theorem dX6_init_209 : decode cX6_init 209 = .ok (.bipush 90, 2) := by decide +kernel
theorem dX6_init_211 : decode cX6_init 211 = .ok (.newarray .int, 2) := by decide +kernel
theorem dX6_init_213 : decode cX6_init 213 = .ok (.putfield 86, 3) := by decide +kernel
theorem dX6_init_216 : decode cX6_init 216 = .ok (.aload_n 0, 1) := by decide +kernel
theorem dX6_init_217 : decode cX6_init 217 = .ok (.bipush 90, 2) := by decide +kernel
theorem dX6_init_219 : decode cX6_init 219 = .ok (.newarray .int, 2) := by decide +kernel
theorem dX6_init_221 : decode cX6_init 221 = .ok (.putfield 89, 3) := by decide +kernel
theorem dX6_init_224 : decode cX6_init 224 = .ok (.aload_n 0, 1) := by decide +kernel
theorem dX6_init_225 : decode cX6_init 225 = .ok (.bipush 90, 2) := by decide +kernel
theorem dX6_init_227 : decode cX6_init 227 = .ok (.newarray .int, 2) := by decide +kernel
theorem dX6_init_229 : decode cX6_init 229 = .ok (.putfield 92, 3) := by decide +kernel
theorem dX6_init_232 : decode cX6_init 232 = .ok (.aload_n 0, 1) := by decide +kernel
theorem dX6_init_233 : decode cX6_init 233 = .ok (.bipush 10, 2) := by decide +kernel
theorem dX6_init_235 : decode cX6_init 235 = .ok (.newarray .int, 2) := by decide +kernel
theorem dX6_init_237 : decode cX6_init 237 = .ok (.putfield 95, 3) := by decide +kernel
theorem dX6_init_240 : decode cX6_init 240 = .ok (.aload_n 0, 1) := by decide +kernel
theorem dX6_init_241 : decode cX6_init 241 = .ok (.bipush 90, 2) := by decide +kernel
theorem dX6_init_243 : decode cX6_init 243 = .ok (.newarray .int, 2) := by decide +kernel
theorem dX6_init_245 : decode cX6_init 245 = .ok (.putfield 98, 3) := by decide +kernel
theorem dX6_init_248 : decode cX6_init 248 = .ok (.aload_n 0, 1) := by decide +kernel
theorem dX6_init_249 : decode cX6_init 249 = .ok (.sipush 1024, 3) := by decide +kernel
theorem dX6_init_252 : decode cX6_init 252 = .ok (.newarray .int, 2) := by decide +kernel
theorem dX6_init_254 : decode cX6_init 254 = .ok (.putfield 101, 3) := by decide +kernel
theorem dX6_init_257 : decode cX6_init 257 = .ok (.aload_n 0, 1) := by decide +kernel
theorem dX6_init_258 : decode cX6_init 258 = .ok (.sipush 1024, 3) := by decide +kernel
theorem dX6_init_261 : decode cX6_init 261 = .ok (.newarray .int, 2) := by decide +kernel
theorem dX6_init_263 : decode cX6_init 263 = .ok (.putfield 104, 3) := by decide +kernel
theorem dX6_init_266 : decode cX6_init 266 = .ok (.aload_n 0, 1) := by decide +kernel
theorem dX6_init_267 : decode cX6_init 267 = .ok (.sipush 1024, 3) := by decide +kernel
theorem dX6_init_270 : decode cX6_init 270 = .ok (.newarray .boolean, 2) := by decide +kernel
theorem dX6_init_272 : decode cX6_init 272 = .ok (.putfield 107, 3) := by decide +kernel
theorem dX6_init_275 : decode cX6_init 275 = .ok (.aload_n 0, 1) := by decide +kernel
theorem dX6_init_276 : decode cX6_init 276 = .ok (.sipush 1024, 3) := by decide +kernel
theorem dX6_init_279 : decode cX6_init 279 = .ok (.newarray .int, 2) := by decide +kernel
theorem dX6_init_281 : decode cX6_init 281 = .ok (.putfield 111, 3) := by decide +kernel
theorem dX6_init_284 : decode cX6_init 284 = .ok (.aload_n 0, 1) := by decide +kernel
theorem dX6_init_285 : decode cX6_init 285 = .ok (.sipush 1024, 3) := by decide +kernel
theorem dX6_init_288 : decode cX6_init 288 = .ok (.newarray .boolean, 2) := by decide +kernel
theorem dX6_init_290 : decode cX6_init 290 = .ok (.putfield 114, 3) := by decide +kernel
theorem dX6_init_293 : decode cX6_init 293 = .ok (.aload_n 0, 1) := by decide +kernel
theorem dX6_init_294 : decode cX6_init 294 = .ok (.sipush 1024, 3) := by decide +kernel
theorem dX6_init_297 : decode cX6_init 297 = .ok (.newarray .int, 2) := by decide +kernel
theorem dX6_init_299 : decode cX6_init 299 = .ok (.putfield 117, 3) := by decide +kernel
theorem dX6_init_302 : decode cX6_init 302 = .ok (.aload_n 0, 1) := by decide +kernel
theorem dX6_init_303 : decode cX6_init 303 = .ok (.bipush 8, 2) := by decide +kernel
theorem dX6_init_305 : decode cX6_init 305 = .ok (.newarray .int, 2) := by decide +kernel
theorem dX6_init_307 : decode cX6_init 307 = .ok (.putfield 120, 3) := by decide +kernel
theorem dX6_init_310 : decode cX6_init 310 = .ok (.aload_n 0, 1) := by decide +kernel
theorem dX6_init_311 : decode cX6_init 311 = .ok (.bipush 8, 2) := by decide +kernel
theorem dX6_init_313 : decode cX6_init 313 = .ok (.newarray .int, 2) := by decide +kernel
theorem dX6_init_315 : decode cX6_init 315 = .ok (.putfield 123, 3) := by decide +kernel
theorem dX6_init_318 : decode cX6_init 318 = .ok (.aload_n 0, 1) := by decide +kernel
theorem dX6_init_319 : decode cX6_init 319 = .ok (.bipush 8, 2) := by decide +kernel
theorem dX6_init_321 : decode cX6_init 321 = .ok (.newarray .int, 2) := by decide +kernel
theorem dX6_init_323 : decode cX6_init 323 = .ok (.putfield 126, 3) := by decide +kernel
theorem dX6_init_326 : decode cX6_init 326 = .ok (.aload_n 0, 1) := by decide +kernel
theorem dX6_init_327 : decode cX6_init 327 = .ok (.bipush 64, 2) := by decide +kernel
theorem dX6_init_329 : decode cX6_init 329 = .ok (.newarray .int, 2) := by decide +kernel
theorem dX6_init_331 : decode cX6_init 331 = .ok (.putfield 129, 3) := by decide +kernel
theorem dX6_init_334 : decode cX6_init 334 = .ok (.iconst 0, 1) := by decide +kernel
theorem dX6_init_335 : decode cX6_init 335 = .ok (.istore_n 1, 1) := by decide +kernel
theorem dX6_init_336 : decode cX6_init 336 = .ok (.iload_n 1, 1) := by decide +kernel
theorem dX6_init_337 : decode cX6_init 337 = .ok (.bipush 6, 2) := by decide +kernel
theorem dX6_init_339 : decode cX6_init 339 = .ok (.if_icmp .ge 56, 3) := by decide +kernel
theorem dX6_init_342 : decode cX6_init 342 = .ok (.aload_n 0, 1) := by decide +kernel
theorem dX6_init_343 : decode cX6_init 343 = .ok (.getfield 23, 3) := by decide +kernel
theorem dX6_init_346 : decode cX6_init 346 = .ok (.sipush 200, 3) := by decide +kernel
theorem dX6_init_349 : decode cX6_init 349 = .ok (.iload_n 1, 1) := by decide +kernel
theorem dX6_init_350 : decode cX6_init 350 = .ok (.imul, 1) := by decide +kernel
theorem dX6_init_351 : decode cX6_init 351 = .ok (.bipush 84, 2) := by decide +kernel
theorem dX6_init_353 : decode cX6_init 353 = .ok (.iastore, 1) := by decide +kernel
theorem dX6_init_354 : decode cX6_init 354 = .ok (.aload_n 0, 1) := by decide +kernel
theorem dX6_init_355 : decode cX6_init 355 = .ok (.getfield 26, 3) := by decide +kernel
theorem dX6_init_358 : decode cX6_init 358 = .ok (.iload_n 1, 1) := by decide +kernel
theorem dX6_init_359 : decode cX6_init 359 = .ok (.iconst 1, 1) := by decide +kernel
theorem dX6_init_360 : decode cX6_init 360 = .ok (.iastore, 1) := by decide +kernel
theorem dX6_init_361 : decode cX6_init 361 = .ok (.aload_n 0, 1) := by decide +kernel
theorem dX6_init_362 : decode cX6_init 362 = .ok (.getfield 29, 3) := by decide +kernel
theorem dX6_init_365 : decode cX6_init 365 = .ok (.iload_n 1, 1) := by decide +kernel
theorem dX6_init_366 : decode cX6_init 366 = .ok (.iconst 1, 1) := by decide +kernel
theorem dX6_init_367 : decode cX6_init 367 = .ok (.iastore, 1) := by decide +kernel
theorem dX6_init_368 : decode cX6_init 368 = .ok (.aload_n 0, 1) := by decide +kernel
theorem dX6_init_369 : decode cX6_init 369 = .ok (.getfield 32, 3) := by decide +kernel
theorem dX6_init_372 : decode cX6_init 372 = .ok (.bipush 40, 2) := by decide +kernel
theorem dX6_init_374 : decode cX6_init 374 = .ok (.iload_n 1, 1) := by decide +kernel
theorem dX6_init_375 : decode cX6_init 375 = .ok (.imul, 1) := by decide +kernel
theorem dX6_init_376 : decode cX6_init 376 = .ok (.bipush 84, 2) := by decide +kernel
theorem dX6_init_378 : decode cX6_init 378 = .ok (.iastore, 1) := by decide +kernel
theorem dX6_init_379 : decode cX6_init 379 = .ok (.aload_n 0, 1) := by decide +kernel
theorem dX6_init_380 : decode cX6_init 380 = .ok (.getfield 44, 3) := by decide +kernel
theorem dX6_init_383 : decode cX6_init 383 = .ok (.bipush 40, 2) := by decide +kernel
theorem dX6_init_385 : decode cX6_init 385 = .ok (.iload_n 1, 1) := by decide +kernel
theorem dX6_init_386 : decode cX6_init 386 = .ok (.imul, 1) := by decide +kernel
theorem dX6_init_387 : decode cX6_init 387 = .ok (.iconst 1, 1) := by decide +kernel
theorem dX6_init_388 : decode cX6_init 388 = .ok (.iastore, 1) := by decide +kernel
theorem dX6_init_389 : decode cX6_init 389 = .ok (.iinc 1 1, 3) := by decide +kernel
theorem dX6_init_392 : decode cX6_init 392 = .ok (.goto (-56), 3) := by decide +kernel
theorem dX6_init_395 : decode cX6_init 395 = .ok (.return_, 1) := by decide +kernel
theorem dX6_in_0 : decode cX6_in 0 = .ok (.iload_n 0, 1) := by decide +kernel
theorem dX6_in_1 : decode cX6_in 1 = .ok (.iload_n 1, 1) := by decide +kernel
theorem dX6_in_2 : decode cX6_in 2 = .ok (.if_icmp .lt 12, 3) := by decide +kernel
theorem dX6_in_5 : decode cX6_in 5 = .ok (.iload_n 0, 1) := by decide +kernel
theorem dX6_in_6 : decode cX6_in 6 = .ok (.iload_n 2, 1) := by decide +kernel
theorem dX6_in_7 : decode cX6_in 7 = .ok (.if_icmp .gt 7, 3) := by decide +kernel
theorem dX6_in_10 : decode cX6_in 10 = .ok (.iconst 1, 1) := by decide +kernel
theorem dX6_in_11 : decode cX6_in 11 = .ok (.goto 4, 3) := by decide +kernel
theorem dX6_in_14 : decode cX6_in 14 = .ok (.iconst 0, 1) := by decide +kernel
theorem dX6_in_15 : decode cX6_in 15 = .ok (.ireturn, 1) := by decide +kernel
theorem dX6_isWorld_0 : decode cX6_isWorld 0 = .ok (.iload_n 1, 1) := by decide +kernel
theorem dX6_isWorld_1 : decode cX6_isWorld 1 = .ok (.iconst 0, 1) := by decide +kernel
theorem dX6_isWorld_2 : decode cX6_isWorld 2 = .ok (.aload_n 0, 1) := by decide +kernel
theorem dX6_isWorld_3 : decode cX6_isWorld 3 = .ok (.getfield 7, 3) := by decide +kernel
theorem dX6_isWorld_6 : decode cX6_isWorld 6 = .ok (.iconst 1, 1) := by decide +kernel
theorem dX6_isWorld_7 : decode cX6_isWorld 7 = .ok (.isub, 1) := by decide +kernel
theorem dX6_isWorld_8 : decode cX6_isWorld 8 = .ok (.invokestatic 135, 3) := by decide +kernel
theorem dX6_isWorld_11 : decode cX6_isWorld 11 = .ok (.ireturn, 1) := by decide +kernel
theorem dX6_isSentence_0 : decode cX6_isSentence 0 = .ok (.iload_n 0, 1) := by decide +kernel
theorem dX6_isSentence_1 : decode cX6_isSentence 1 = .ok (.iconst 0, 1) := by decide +kernel
theorem dX6_isSentence_2 : decode cX6_isSentence 2 = .ok (.iconst 5, 1) := by decide +kernel
theorem dX6_isSentence_3 : decode cX6_isSentence 3 = .ok (.invokestatic 135, 3) := by decide +kernel
theorem dX6_isSentence_6 : decode cX6_isSentence 6 = .ok (.ireturn, 1) := by decide +kernel
theorem dX6_isSort_0 : decode cX6_isSort 0 = .ok (.iload_n 0, 1) := by decide +kernel
theorem dX6_isSort_1 : decode cX6_isSort 1 = .ok (.iconst 0, 1) := by decide +kernel
theorem dX6_isSort_2 : decode cX6_isSort 2 = .ok (.iconst 3, 1) := by decide +kernel
theorem dX6_isSort_3 : decode cX6_isSort 3 = .ok (.invokestatic 135, 3) := by decide +kernel
theorem dX6_isSort_6 : decode cX6_isSort 6 = .ok (.ireturn, 1) := by decide +kernel
theorem dX6_all_0 : decode cX6_all 0 = .ok (.iconst 1, 1) := by decide +kernel
theorem dX6_all_1 : decode cX6_all 1 = .ok (.aload_n 0, 1) := by decide +kernel
theorem dX6_all_2 : decode cX6_all 2 = .ok (.getfield 7, 3) := by decide +kernel
theorem dX6_all_5 : decode cX6_all 5 = .ok (.ishl, 1) := by decide +kernel
theorem dX6_all_6 : decode cX6_all 6 = .ok (.iconst 1, 1) := by decide +kernel
theorem dX6_all_7 : decode cX6_all 7 = .ok (.isub, 1) := by decide +kernel
theorem dX6_all_8 : decode cX6_all 8 = .ok (.ireturn, 1) := by decide +kernel
theorem dX6_worlds_0 : decode cX6_worlds 0 = .ok (.aload_n 0, 1) := by decide +kernel
theorem dX6_worlds_1 : decode cX6_worlds 1 = .ok (.iconst 0, 1) := by decide +kernel
theorem dX6_worlds_2 : decode cX6_worlds 2 = .ok (.putfield 132, 3) := by decide +kernel
theorem dX6_worlds_5 : decode cX6_worlds 5 = .ok (.iload_n 1, 1) := by decide +kernel
theorem dX6_worlds_6 : decode cX6_worlds 6 = .ok (.iconst 1, 1) := by decide +kernel
theorem dX6_worlds_7 : decode cX6_worlds 7 = .ok (.bipush 8, 2) := by decide +kernel
theorem dX6_worlds_9 : decode cX6_worlds 9 = .ok (.invokestatic 135, 3) := by decide +kernel
theorem dX6_worlds_12 : decode cX6_worlds 12 = .ok (.ifCond .ne 5, 3) := by decide +kernel
theorem dX6_worlds_15 : decode cX6_worlds 15 = .ok (.iconst (-1), 1) := by decide +kernel
theorem dX6_worlds_16 : decode cX6_worlds 16 = .ok (.ireturn, 1) := by decide +kernel
theorem dX6_worlds_17 : decode cX6_worlds 17 = .ok (.aload_n 0, 1) := by decide +kernel
theorem dX6_worlds_18 : decode cX6_worlds 18 = .ok (.getfield 7, 3) := by decide +kernel
theorem dX6_worlds_21 : decode cX6_worlds 21 = .ok (.istore_n 2, 1) := by decide +kernel
theorem dX6_worlds_22 : decode cX6_worlds 22 = .ok (.aload_n 0, 1) := by decide +kernel
theorem dX6_worlds_23 : decode cX6_worlds 23 = .ok (.iload_n 1, 1) := by decide +kernel
theorem dX6_worlds_24 : decode cX6_worlds 24 = .ok (.putfield 7, 3) := by decide +kernel
theorem dX6_worlds_27 : decode cX6_worlds 27 = .ok (.iconst 0, 1) := by decide +kernel
theorem dX6_worlds_28 : decode cX6_worlds 28 = .ok (.istore_n 3, 1) := by decide +kernel
theorem dX6_worlds_29 : decode cX6_worlds 29 = .ok (.iload_n 3, 1) := by decide +kernel
theorem dX6_worlds_30 : decode cX6_worlds 30 = .ok (.bipush 8, 2) := by decide +kernel
theorem dX6_worlds_32 : decode cX6_worlds 32 = .ok (.if_icmp .ge 16, 3) := by decide +kernel
theorem dX6_worlds_35 : decode cX6_worlds 35 = .ok (.aload_n 0, 1) := by decide +kernel
theorem dX6_worlds_36 : decode cX6_worlds 36 = .ok (.getfield 13, 3) := by decide +kernel
theorem dX6_worlds_39 : decode cX6_worlds 39 = .ok (.iload_n 3, 1) := by decide +kernel
theorem dX6_worlds_40 : decode cX6_worlds 40 = .ok (.iconst 0, 1) := by decide +kernel
theorem dX6_worlds_41 : decode cX6_worlds 41 = .ok (.iastore, 1) := by decide +kernel
theorem dX6_worlds_42 : decode cX6_worlds 42 = .ok (.iinc 3 1, 3) := by decide +kernel
theorem dX6_worlds_45 : decode cX6_worlds 45 = .ok (.goto (-16), 3) := by decide +kernel
theorem dX6_worlds_48 : decode cX6_worlds 48 = .ok (.iconst 0, 1) := by decide +kernel
theorem dX6_worlds_49 : decode cX6_worlds 49 = .ok (.istore_n 3, 1) := by decide +kernel
theorem dX6_worlds_50 : decode cX6_worlds 50 = .ok (.iload_n 3, 1) := by decide +kernel
theorem dX6_worlds_51 : decode cX6_worlds 51 = .ok (.iconst 4, 1) := by decide +kernel
theorem dX6_worlds_52 : decode cX6_worlds 52 = .ok (.if_icmp .ge 16, 3) := by decide +kernel
theorem dX6_worlds_55 : decode cX6_worlds 55 = .ok (.aload_n 0, 1) := by decide +kernel
theorem dX6_worlds_56 : decode cX6_worlds 56 = .ok (.getfield 17, 3) := by decide +kernel
theorem dX6_worlds_59 : decode cX6_worlds 59 = .ok (.iload_n 3, 1) := by decide +kernel
theorem dX6_worlds_60 : decode cX6_worlds 60 = .ok (.iconst 0, 1) := by decide +kernel
theorem dX6_worlds_61 : decode cX6_worlds 61 = .ok (.iastore, 1) := by decide +kernel
theorem dX6_worlds_62 : decode cX6_worlds 62 = .ok (.iinc 3 1, 3) := by decide +kernel
theorem dX6_worlds_65 : decode cX6_worlds 65 = .ok (.goto (-15), 3) := by decide +kernel
theorem dX6_worlds_68 : decode cX6_worlds 68 = .ok (.iload_n 2, 1) := by decide +kernel
theorem dX6_worlds_69 : decode cX6_worlds 69 = .ok (.ireturn, 1) := by decide +kernel
theorem dX6_see_0 : decode cX6_see 0 = .ok (.aload_n 0, 1) := by decide +kernel
theorem dX6_see_1 : decode cX6_see 1 = .ok (.iconst 0, 1) := by decide +kernel
theorem dX6_see_2 : decode cX6_see 2 = .ok (.putfield 132, 3) := by decide +kernel
theorem dX6_see_5 : decode cX6_see 5 = .ok (.aload_n 0, 1) := by decide +kernel
theorem dX6_see_6 : decode cX6_see 6 = .ok (.iload_n 1, 1) := by decide +kernel
theorem dX6_see_7 : decode cX6_see 7 = .ok (.invokevirtual 139, 3) := by decide +kernel
theorem dX6_see_10 : decode cX6_see 10 = .ok (.ifCond .eq 20, 3) := by decide +kernel
theorem dX6_see_13 : decode cX6_see 13 = .ok (.aload_n 0, 1) := by decide +kernel
theorem dX6_see_14 : decode cX6_see 14 = .ok (.iload_n 2, 1) := by decide +kernel
theorem dX6_see_15 : decode cX6_see 15 = .ok (.invokevirtual 139, 3) := by decide +kernel
theorem dX6_see_18 : decode cX6_see 18 = .ok (.ifCond .eq 12, 3) := by decide +kernel
theorem dX6_see_21 : decode cX6_see 21 = .ok (.iload_n 3, 1) := by decide +kernel
theorem dX6_see_22 : decode cX6_see 22 = .ok (.iconst 0, 1) := by decide +kernel
theorem dX6_see_23 : decode cX6_see 23 = .ok (.iconst 1, 1) := by decide +kernel
theorem dX6_see_24 : decode cX6_see 24 = .ok (.invokestatic 135, 3) := by decide +kernel
theorem dX6_see_27 : decode cX6_see 27 = .ok (.ifCond .ne 5, 3) := by decide +kernel
theorem dX6_see_30 : decode cX6_see 30 = .ok (.iconst (-1), 1) := by decide +kernel
theorem dX6_see_31 : decode cX6_see 31 = .ok (.ireturn, 1) := by decide +kernel
theorem dX6_see_32 : decode cX6_see 32 = .ok (.aload_n 0, 1) := by decide +kernel
theorem dX6_see_33 : decode cX6_see 33 = .ok (.getfield 13, 3) := by decide +kernel
theorem dX6_see_36 : decode cX6_see 36 = .ok (.iload_n 1, 1) := by decide +kernel
theorem dX6_see_37 : decode cX6_see 37 = .ok (.iaload, 1) := by decide +kernel
theorem dX6_see_38 : decode cX6_see 38 = .ok (.iload_n 2, 1) := by decide +kernel
theorem dX6_see_39 : decode cX6_see 39 = .ok (.ishr, 1) := by decide +kernel
theorem dX6_see_40 : decode cX6_see 40 = .ok (.iconst 1, 1) := by decide +kernel
theorem dX6_see_41 : decode cX6_see 41 = .ok (.iand, 1) := by decide +kernel
theorem dX6_see_42 : decode cX6_see 42 = .ok (.istore 4, 2) := by decide +kernel
theorem dX6_see_44 : decode cX6_see 44 = .ok (.aload_n 0, 1) := by decide +kernel
theorem dX6_see_45 : decode cX6_see 45 = .ok (.getfield 13, 3) := by decide +kernel
theorem dX6_see_48 : decode cX6_see 48 = .ok (.iload_n 1, 1) := by decide +kernel
theorem dX6_see_49 : decode cX6_see 49 = .ok (.aload_n 0, 1) := by decide +kernel
theorem dX6_see_50 : decode cX6_see 50 = .ok (.getfield 13, 3) := by decide +kernel
theorem dX6_see_53 : decode cX6_see 53 = .ok (.iload_n 1, 1) := by decide +kernel
theorem dX6_see_54 : decode cX6_see 54 = .ok (.iaload, 1) := by decide +kernel
theorem dX6_see_55 : decode cX6_see 55 = .ok (.iconst 1, 1) := by decide +kernel
theorem dX6_see_56 : decode cX6_see 56 = .ok (.iload_n 2, 1) := by decide +kernel
theorem dX6_see_57 : decode cX6_see 57 = .ok (.ishl, 1) := by decide +kernel
theorem dX6_see_58 : decode cX6_see 58 = .ok (.iconst (-1), 1) := by decide +kernel
theorem dX6_see_59 : decode cX6_see 59 = .ok (.ixor, 1) := by decide +kernel
theorem dX6_see_60 : decode cX6_see 60 = .ok (.iand, 1) := by decide +kernel
theorem dX6_see_61 : decode cX6_see 61 = .ok (.iload_n 3, 1) := by decide +kernel
theorem dX6_see_62 : decode cX6_see 62 = .ok (.iload_n 2, 1) := by decide +kernel
theorem dX6_see_63 : decode cX6_see 63 = .ok (.ishl, 1) := by decide +kernel
theorem dX6_see_64 : decode cX6_see 64 = .ok (.ior, 1) := by decide +kernel
theorem dX6_see_65 : decode cX6_see 65 = .ok (.iastore, 1) := by decide +kernel
theorem dX6_see_66 : decode cX6_see 66 = .ok (.iload 4, 2) := by decide +kernel
theorem dX6_see_68 : decode cX6_see 68 = .ok (.ireturn, 1) := by decide +kernel
theorem dX6_atom_0 : decode cX6_atom 0 = .ok (.aload_n 0, 1) := by decide +kernel
theorem dX6_atom_1 : decode cX6_atom 1 = .ok (.iconst 0, 1) := by decide +kernel
theorem dX6_atom_2 : decode cX6_atom 2 = .ok (.putfield 132, 3) := by decide +kernel
theorem dX6_atom_5 : decode cX6_atom 5 = .ok (.iload_n 1, 1) := by decide +kernel
theorem dX6_atom_6 : decode cX6_atom 6 = .ok (.iconst 0, 1) := by decide +kernel
theorem dX6_atom_7 : decode cX6_atom 7 = .ok (.iconst 3, 1) := by decide +kernel
theorem dX6_atom_8 : decode cX6_atom 8 = .ok (.invokestatic 135, 3) := by decide +kernel
theorem dX6_atom_11 : decode cX6_atom 11 = .ok (.ifCond .eq 15, 3) := by decide +kernel
theorem dX6_atom_14 : decode cX6_atom 14 = .ok (.iload_n 2, 1) := by decide +kernel
theorem dX6_atom_15 : decode cX6_atom 15 = .ok (.iconst 0, 1) := by decide +kernel
theorem dX6_atom_16 : decode cX6_atom 16 = .ok (.aload_n 0, 1) := by decide +kernel
theorem dX6_atom_17 : decode cX6_atom 17 = .ok (.invokevirtual 143, 3) := by decide +kernel
theorem dX6_atom_20 : decode cX6_atom 20 = .ok (.invokestatic 135, 3) := by decide +kernel
theorem dX6_atom_23 : decode cX6_atom 23 = .ok (.ifCond .ne 5, 3) := by decide +kernel
theorem dX6_atom_26 : decode cX6_atom 26 = .ok (.iconst (-1), 1) := by decide +kernel
theorem dX6_atom_27 : decode cX6_atom 27 = .ok (.ireturn, 1) := by decide +kernel
theorem dX6_atom_28 : decode cX6_atom 28 = .ok (.aload_n 0, 1) := by decide +kernel
theorem dX6_atom_29 : decode cX6_atom 29 = .ok (.getfield 17, 3) := by decide +kernel
theorem dX6_atom_32 : decode cX6_atom 32 = .ok (.iload_n 1, 1) := by decide +kernel
theorem dX6_atom_33 : decode cX6_atom 33 = .ok (.iaload, 1) := by decide +kernel
theorem dX6_atom_34 : decode cX6_atom 34 = .ok (.istore_n 3, 1) := by decide +kernel
theorem dX6_atom_35 : decode cX6_atom 35 = .ok (.aload_n 0, 1) := by decide +kernel
theorem dX6_atom_36 : decode cX6_atom 36 = .ok (.getfield 17, 3) := by decide +kernel
theorem dX6_atom_39 : decode cX6_atom 39 = .ok (.iload_n 1, 1) := by decide +kernel
theorem dX6_atom_40 : decode cX6_atom 40 = .ok (.iload_n 2, 1) := by decide +kernel
theorem dX6_atom_41 : decode cX6_atom 41 = .ok (.iastore, 1) := by decide +kernel
theorem dX6_atom_42 : decode cX6_atom 42 = .ok (.iload_n 3, 1) := by decide +kernel
theorem dX6_atom_43 : decode cX6_atom 43 = .ok (.ireturn, 1) := by decide +kernel
theorem dX6_farOf_0 : decode cX6_farOf 0 = .ok (.iconst 1, 1) := by decide +kernel
theorem dX6_farOf_1 : decode cX6_farOf 1 = .ok (.iload_n 1, 1) := by decide +kernel
theorem dX6_farOf_2 : decode cX6_farOf 2 = .ok (.ishl, 1) := by decide +kernel
theorem dX6_farOf_3 : decode cX6_farOf 3 = .ok (.istore_n 2, 1) := by decide +kernel
theorem dX6_farOf_4 : decode cX6_farOf 4 = .ok (.iconst 0, 1) := by decide +kernel
theorem dX6_farOf_5 : decode cX6_farOf 5 = .ok (.istore_n 3, 1) := by decide +kernel
theorem dX6_farOf_6 : decode cX6_farOf 6 = .ok (.iload_n 2, 1) := by decide +kernel
theorem dX6_farOf_7 : decode cX6_farOf 7 = .ok (.iload_n 3, 1) := by decide +kernel
theorem dX6_farOf_8 : decode cX6_farOf 8 = .ok (.if_icmp .eq 50, 3) := by decide +kernel
theorem dX6_farOf_11 : decode cX6_farOf 11 = .ok (.iload_n 2, 1) := by decide +kernel
theorem dX6_farOf_12 : decode cX6_farOf 12 = .ok (.istore_n 3, 1) := by decide +kernel
theorem dX6_farOf_13 : decode cX6_farOf 13 = .ok (.iconst 0, 1) := by decide +kernel
theorem dX6_farOf_14 : decode cX6_farOf 14 = .ok (.istore 4, 2) := by decide +kernel
theorem dX6_farOf_16 : decode cX6_farOf 16 = .ok (.iload 4, 2) := by decide +kernel
theorem dX6_farOf_18 : decode cX6_farOf 18 = .ok (.aload_n 0, 1) := by decide +kernel
theorem dX6_farOf_19 : decode cX6_farOf 19 = .ok (.getfield 7, 3) := by decide +kernel
theorem dX6_farOf_22 : decode cX6_farOf 22 = .ok (.if_icmp .ge 33, 3) := by decide +kernel
theorem dX6_farOf_25 : decode cX6_farOf 25 = .ok (.iload_n 2, 1) := by decide +kernel
theorem dX6_farOf_26 : decode cX6_farOf 26 = .ok (.iload_n 3, 1) := by decide +kernel
theorem dX6_farOf_27 : decode cX6_farOf 27 = .ok (.iload 4, 2) := by decide +kernel
theorem dX6_farOf_29 : decode cX6_farOf 29 = .ok (.ishr, 1) := by decide +kernel
theorem dX6_farOf_30 : decode cX6_farOf 30 = .ok (.iconst 1, 1) := by decide +kernel
theorem dX6_farOf_31 : decode cX6_farOf 31 = .ok (.iand, 1) := by decide +kernel
theorem dX6_farOf_32 : decode cX6_farOf 32 = .ok (.iconst 1, 1) := by decide +kernel
theorem dX6_farOf_33 : decode cX6_farOf 33 = .ok (.if_icmp .ne 13, 3) := by decide +kernel
theorem dX6_farOf_36 : decode cX6_farOf 36 = .ok (.aload_n 0, 1) := by decide +kernel
theorem dX6_farOf_37 : decode cX6_farOf 37 = .ok (.getfield 13, 3) := by decide +kernel
theorem dX6_farOf_40 : decode cX6_farOf 40 = .ok (.iload 4, 2) := by decide +kernel
theorem dX6_farOf_42 : decode cX6_farOf 42 = .ok (.iaload, 1) := by decide +kernel
theorem dX6_farOf_43 : decode cX6_farOf 43 = .ok (.goto 4, 3) := by decide +kernel
theorem dX6_farOf_46 : decode cX6_farOf 46 = .ok (.iconst 0, 1) := by decide +kernel
theorem dX6_farOf_47 : decode cX6_farOf 47 = .ok (.ior, 1) := by decide +kernel
theorem dX6_farOf_48 : decode cX6_farOf 48 = .ok (.istore_n 2, 1) := by decide +kernel
theorem dX6_farOf_49 : decode cX6_farOf 49 = .ok (.iinc 4 1, 3) := by decide +kernel
theorem dX6_farOf_52 : decode cX6_farOf 52 = .ok (.goto (-36), 3) := by decide +kernel
theorem dX6_farOf_55 : decode cX6_farOf 55 = .ok (.goto (-49), 3) := by decide +kernel
theorem dX6_farOf_58 : decode cX6_farOf 58 = .ok (.iload_n 2, 1) := by decide +kernel
theorem dX6_farOf_59 : decode cX6_farOf 59 = .ok (.ireturn, 1) := by decide +kernel
theorem dX6_seenOf_0 : decode cX6_seenOf 0 = .ok (.iload_n 1, 1) := by decide +kernel
theorem dX6_seenOf_1 : decode cX6_seenOf 1 = .ok (.iconst 2, 1) := by decide +kernel
theorem dX6_seenOf_2 : decode cX6_seenOf 2 = .ok (.if_icmp .ge 27, 3) := by decide +kernel
theorem dX6_seenOf_5 : decode cX6_seenOf 5 = .ok (.iload_n 1, 1) := by decide +kernel
theorem dX6_seenOf_6 : decode cX6_seenOf 6 = .ok (.ifCond .ne 12, 3) := by decide +kernel
theorem dX6_seenOf_9 : decode cX6_seenOf 9 = .ok (.aload_n 0, 1) := by decide +kernel
theorem dX6_seenOf_10 : decode cX6_seenOf 10 = .ok (.getfield 13, 3) := by decide +kernel
theorem dX6_seenOf_13 : decode cX6_seenOf 13 = .ok (.iload_n 2, 1) := by decide +kernel
theorem dX6_seenOf_14 : decode cX6_seenOf 14 = .ok (.iaload, 1) := by decide +kernel
theorem dX6_seenOf_15 : decode cX6_seenOf 15 = .ok (.goto 13, 3) := by decide +kernel
theorem dX6_seenOf_18 : decode cX6_seenOf 18 = .ok (.aload_n 0, 1) := by decide +kernel
theorem dX6_seenOf_19 : decode cX6_seenOf 19 = .ok (.getfield 13, 3) := by decide +kernel
theorem dX6_seenOf_22 : decode cX6_seenOf 22 = .ok (.iload_n 2, 1) := by decide +kernel
theorem dX6_seenOf_23 : decode cX6_seenOf 23 = .ok (.iaload, 1) := by decide +kernel
theorem dX6_seenOf_24 : decode cX6_seenOf 24 = .ok (.iconst 1, 1) := by decide +kernel
theorem dX6_seenOf_25 : decode cX6_seenOf 25 = .ok (.iload_n 2, 1) := by decide +kernel
theorem dX6_seenOf_26 : decode cX6_seenOf 26 = .ok (.ishl, 1) := by decide +kernel
theorem dX6_seenOf_27 : decode cX6_seenOf 27 = .ok (.ior, 1) := by decide +kernel
theorem dX6_seenOf_28 : decode cX6_seenOf 28 = .ok (.ireturn, 1) := by decide +kernel
theorem dX6_seenOf_29 : decode cX6_seenOf 29 = .ok (.aload_n 0, 1) := by decide +kernel
theorem dX6_seenOf_30 : decode cX6_seenOf 30 = .ok (.iload_n 2, 1) := by decide +kernel
theorem dX6_seenOf_31 : decode cX6_seenOf 31 = .ok (.invokevirtual 147, 3) := by decide +kernel
theorem dX6_seenOf_34 : decode cX6_seenOf 34 = .ok (.istore_n 3, 1) := by decide +kernel
theorem dX6_seenOf_35 : decode cX6_seenOf 35 = .ok (.iconst 0, 1) := by decide +kernel
theorem dX6_seenOf_36 : decode cX6_seenOf 36 = .ok (.istore 4, 2) := by decide +kernel
theorem dX6_seenOf_38 : decode cX6_seenOf 38 = .ok (.iload_n 1, 1) := by decide +kernel
theorem dX6_seenOf_39 : decode cX6_seenOf 39 = .ok (.iconst 3, 1) := by decide +kernel
theorem dX6_seenOf_40 : decode cX6_seenOf 40 = .ok (.if_icmp .ne 76, 3) := by decide +kernel
theorem dX6_seenOf_43 : decode cX6_seenOf 43 = .ok (.iload_n 3, 1) := by decide +kernel
theorem dX6_seenOf_44 : decode cX6_seenOf 44 = .ok (.iload 4, 2) := by decide +kernel
theorem dX6_seenOf_46 : decode cX6_seenOf 46 = .ok (.if_icmp .eq 70, 3) := by decide +kernel
theorem dX6_seenOf_49 : decode cX6_seenOf 49 = .ok (.iload_n 3, 1) := by decide +kernel
theorem dX6_seenOf_50 : decode cX6_seenOf 50 = .ok (.istore 4, 2) := by decide +kernel
theorem dX6_seenOf_52 : decode cX6_seenOf 52 = .ok (.iconst 0, 1) := by decide +kernel
theorem dX6_seenOf_53 : decode cX6_seenOf 53 = .ok (.istore 5, 2) := by decide +kernel
theorem dX6_seenOf_55 : decode cX6_seenOf 55 = .ok (.iload 5, 2) := by decide +kernel
theorem dX6_seenOf_57 : decode cX6_seenOf 57 = .ok (.aload_n 0, 1) := by decide +kernel
theorem dX6_seenOf_58 : decode cX6_seenOf 58 = .ok (.getfield 7, 3) := by decide +kernel
theorem dX6_seenOf_61 : decode cX6_seenOf 61 = .ok (.if_icmp .ge 52, 3) := by decide +kernel
theorem dX6_seenOf_64 : decode cX6_seenOf 64 = .ok (.iload_n 3, 1) := by decide +kernel
theorem dX6_seenOf_65 : decode cX6_seenOf 65 = .ok (.iload 4, 2) := by decide +kernel
theorem dX6_seenOf_67 : decode cX6_seenOf 67 = .ok (.iload 5, 2) := by decide +kernel
theorem dX6_seenOf_69 : decode cX6_seenOf 69 = .ok (.ishr, 1) := by decide +kernel
theorem dX6_seenOf_70 : decode cX6_seenOf 70 = .ok (.iconst 1, 1) := by decide +kernel
theorem dX6_seenOf_71 : decode cX6_seenOf 71 = .ok (.iand, 1) := by decide +kernel
theorem dX6_seenOf_72 : decode cX6_seenOf 72 = .ok (.iconst 1, 1) := by decide +kernel
theorem dX6_seenOf_73 : decode cX6_seenOf 73 = .ok (.if_icmp .ne 12, 3) := by decide +kernel
theorem dX6_seenOf_76 : decode cX6_seenOf 76 = .ok (.aload_n 0, 1) := by decide +kernel
theorem dX6_seenOf_77 : decode cX6_seenOf 77 = .ok (.iload 5, 2) := by decide +kernel
theorem dX6_seenOf_79 : decode cX6_seenOf 79 = .ok (.invokevirtual 147, 3) := by decide +kernel
theorem dX6_seenOf_82 : decode cX6_seenOf 82 = .ok (.goto 23, 3) := by decide +kernel
theorem dX6_seenOf_85 : decode cX6_seenOf 85 = .ok (.aload_n 0, 1) := by decide +kernel
theorem dX6_seenOf_86 : decode cX6_seenOf 86 = .ok (.iload 5, 2) := by decide +kernel
theorem dX6_seenOf_88 : decode cX6_seenOf 88 = .ok (.invokevirtual 147, 3) := by decide +kernel
theorem dX6_seenOf_91 : decode cX6_seenOf 91 = .ok (.iload 4, 2) := by decide +kernel
theorem dX6_seenOf_93 : decode cX6_seenOf 93 = .ok (.iand, 1) := by decide +kernel
theorem dX6_seenOf_94 : decode cX6_seenOf 94 = .ok (.ifCond .eq 10, 3) := by decide +kernel
theorem dX6_seenOf_97 : decode cX6_seenOf 97 = .ok (.iconst 1, 1) := by decide +kernel
theorem dX6_seenOf_98 : decode cX6_seenOf 98 = .ok (.iload 5, 2) := by decide +kernel
theorem dX6_seenOf_100 : decode cX6_seenOf 100 = .ok (.ishl, 1) := by decide +kernel
theorem dX6_seenOf_101 : decode cX6_seenOf 101 = .ok (.goto 4, 3) := by decide +kernel
theorem dX6_seenOf_104 : decode cX6_seenOf 104 = .ok (.iconst 0, 1) := by decide +kernel
theorem dX6_seenOf_105 : decode cX6_seenOf 105 = .ok (.ior, 1) := by decide +kernel
theorem dX6_seenOf_106 : decode cX6_seenOf 106 = .ok (.istore_n 3, 1) := by decide +kernel
theorem dX6_seenOf_107 : decode cX6_seenOf 107 = .ok (.iinc 5 1, 3) := by decide +kernel
theorem dX6_seenOf_110 : decode cX6_seenOf 110 = .ok (.goto (-55), 3) := by decide +kernel
theorem dX6_seenOf_113 : decode cX6_seenOf 113 = .ok (.goto (-75), 3) := by decide +kernel
theorem dX6_seenOf_116 : decode cX6_seenOf 116 = .ok (.iload_n 3, 1) := by decide +kernel
theorem dX6_seenOf_117 : decode cX6_seenOf 117 = .ok (.ireturn, 1) := by decide +kernel
theorem dX6_seen_0 : decode cX6_seen 0 = .ok (.aload_n 0, 1) := by decide +kernel
theorem dX6_seen_1 : decode cX6_seen 1 = .ok (.iconst 0, 1) := by decide +kernel
theorem dX6_seen_2 : decode cX6_seen 2 = .ok (.putfield 132, 3) := by decide +kernel
theorem dX6_seen_5 : decode cX6_seen 5 = .ok (.iload_n 1, 1) := by decide +kernel
theorem dX6_seen_6 : decode cX6_seen 6 = .ok (.invokestatic 151, 3) := by decide +kernel
theorem dX6_seen_9 : decode cX6_seen 9 = .ok (.ifCond .eq 11, 3) := by decide +kernel
theorem dX6_seen_12 : decode cX6_seen 12 = .ok (.aload_n 0, 1) := by decide +kernel
theorem dX6_seen_13 : decode cX6_seen 13 = .ok (.iload_n 2, 1) := by decide +kernel
theorem dX6_seen_14 : decode cX6_seen 14 = .ok (.invokevirtual 139, 3) := by decide +kernel
theorem dX6_seen_17 : decode cX6_seen 17 = .ok (.ifCond .ne 5, 3) := by decide +kernel
theorem dX6_seen_20 : decode cX6_seen 20 = .ok (.iconst (-1), 1) := by decide +kernel
theorem dX6_seen_21 : decode cX6_seen 21 = .ok (.ireturn, 1) := by decide +kernel
theorem dX6_seen_22 : decode cX6_seen 22 = .ok (.aload_n 0, 1) := by decide +kernel
theorem dX6_seen_23 : decode cX6_seen 23 = .ok (.dup, 1) := by decide +kernel
theorem dX6_seen_24 : decode cX6_seen 24 = .ok (.getfield 154, 3) := by decide +kernel
theorem dX6_seen_27 : decode cX6_seen 27 = .ok (.iload_n 1, 1) := by decide +kernel
theorem dX6_seen_28 : decode cX6_seen 28 = .ok (.ifCond .ne 7, 3) := by decide +kernel
theorem dX6_seen_31 : decode cX6_seen 31 = .ok (.lconst 1, 1) := by decide +kernel
theorem dX6_seen_32 : decode cX6_seen 32 = .ok (.goto 28, 3) := by decide +kernel
theorem dX6_seen_35 : decode cX6_seen 35 = .ok (.iload_n 1, 1) := by decide +kernel
theorem dX6_seen_36 : decode cX6_seen 36 = .ok (.iconst 1, 1) := by decide +kernel
theorem dX6_seen_37 : decode cX6_seen 37 = .ok (.if_icmp .ne 9, 3) := by decide +kernel
theorem dX6_seen_40 : decode cX6_seen 40 = .ok (.ldc2_w 158, 3) := by decide +kernel
theorem dX6_seen_43 : decode cX6_seen 43 = .ok (.goto 17, 3) := by decide +kernel
theorem dX6_seen_46 : decode cX6_seen 46 = .ok (.iload_n 1, 1) := by decide +kernel
theorem dX6_seen_47 : decode cX6_seen 47 = .ok (.iconst 2, 1) := by decide +kernel
theorem dX6_seen_48 : decode cX6_seen 48 = .ok (.if_icmp .ne 9, 3) := by decide +kernel
theorem dX6_seen_51 : decode cX6_seen 51 = .ok (.ldc2_w 160, 3) := by decide +kernel
theorem dX6_seen_54 : decode cX6_seen 54 = .ok (.goto 6, 3) := by decide +kernel
theorem dX6_seen_57 : decode cX6_seen 57 = .ok (.ldc2_w 162, 3) := by decide +kernel
theorem dX6_seen_60 : decode cX6_seen 60 = .ok (.ladd, 1) := by decide +kernel
theorem dX6_seen_61 : decode cX6_seen 61 = .ok (.putfield 154, 3) := by decide +kernel
theorem dX6_seen_64 : decode cX6_seen 64 = .ok (.aload_n 0, 1) := by decide +kernel
theorem dX6_seen_65 : decode cX6_seen 65 = .ok (.iload_n 1, 1) := by decide +kernel
theorem dX6_seen_66 : decode cX6_seen 66 = .ok (.iload_n 2, 1) := by decide +kernel
theorem dX6_seen_67 : decode cX6_seen 67 = .ok (.invokevirtual 164, 3) := by decide +kernel
theorem dX6_seen_70 : decode cX6_seen 70 = .ok (.ireturn, 1) := by decide +kernel
theorem dX6_ones_0 : decode cX6_ones 0 = .ok (.iconst 0, 1) := by decide +kernel
theorem dX6_ones_1 : decode cX6_ones 1 = .ok (.istore_n 1, 1) := by decide +kernel
theorem dX6_ones_2 : decode cX6_ones 2 = .ok (.iconst 0, 1) := by decide +kernel
theorem dX6_ones_3 : decode cX6_ones 3 = .ok (.istore_n 2, 1) := by decide +kernel
theorem dX6_ones_4 : decode cX6_ones 4 = .ok (.iload_n 2, 1) := by decide +kernel
theorem dX6_ones_5 : decode cX6_ones 5 = .ok (.bipush 8, 2) := by decide +kernel
theorem dX6_ones_7 : decode cX6_ones 7 = .ok (.if_icmp .ge 17, 3) := by decide +kernel
theorem dX6_ones_10 : decode cX6_ones 10 = .ok (.iload_n 1, 1) := by decide +kernel
theorem dX6_ones_11 : decode cX6_ones 11 = .ok (.iload_n 0, 1) := by decide +kernel
theorem dX6_ones_12 : decode cX6_ones 12 = .ok (.iload_n 2, 1) := by decide +kernel
theorem dX6_ones_13 : decode cX6_ones 13 = .ok (.ishr, 1) := by decide +kernel
theorem dX6_ones_14 : decode cX6_ones 14 = .ok (.iconst 1, 1) := by decide +kernel
theorem dX6_ones_15 : decode cX6_ones 15 = .ok (.iand, 1) := by decide +kernel
theorem dX6_ones_16 : decode cX6_ones 16 = .ok (.iadd, 1) := by decide +kernel
theorem dX6_ones_17 : decode cX6_ones 17 = .ok (.istore_n 1, 1) := by decide +kernel
theorem dX6_ones_18 : decode cX6_ones 18 = .ok (.iinc 2 1, 3) := by decide +kernel
theorem dX6_ones_21 : decode cX6_ones 21 = .ok (.goto (-17), 3) := by decide +kernel
theorem dX6_ones_24 : decode cX6_ones 24 = .ok (.iload_n 1, 1) := by decide +kernel
theorem dX6_ones_25 : decode cX6_ones 25 = .ok (.ireturn, 1) := by decide +kernel
theorem dX6_sorts_0 : decode cX6_sorts 0 = .ok (.aload_n 0, 1) := by decide +kernel
theorem dX6_sorts_1 : decode cX6_sorts 1 = .ok (.iconst 0, 1) := by decide +kernel
theorem dX6_sorts_2 : decode cX6_sorts 2 = .ok (.putfield 132, 3) := by decide +kernel
theorem dX6_sorts_5 : decode cX6_sorts 5 = .ok (.bipush 63, 2) := by decide +kernel
theorem dX6_sorts_7 : decode cX6_sorts 7 = .ok (.istore_n 1, 1) := by decide +kernel
theorem dX6_sorts_8 : decode cX6_sorts 8 = .ok (.iconst 0, 1) := by decide +kernel
theorem dX6_sorts_9 : decode cX6_sorts 9 = .ok (.istore_n 2, 1) := by decide +kernel
theorem dX6_sorts_10 : decode cX6_sorts 10 = .ok (.iload_n 2, 1) := by decide +kernel
theorem dX6_sorts_11 : decode cX6_sorts 11 = .ok (.aload_n 0, 1) := by decide +kernel
theorem dX6_sorts_12 : decode cX6_sorts 12 = .ok (.getfield 7, 3) := by decide +kernel
theorem dX6_sorts_15 : decode cX6_sorts 15 = .ok (.if_icmp .ge 185, 3) := by decide +kernel
theorem dX6_sorts_18 : decode cX6_sorts 18 = .ok (.iload_n 1, 1) := by decide +kernel
theorem dX6_sorts_19 : decode cX6_sorts 19 = .ok (.aload_n 0, 1) := by decide +kernel
theorem dX6_sorts_20 : decode cX6_sorts 20 = .ok (.getfield 13, 3) := by decide +kernel
theorem dX6_sorts_23 : decode cX6_sorts 23 = .ok (.iload_n 2, 1) := by decide +kernel
theorem dX6_sorts_24 : decode cX6_sorts 24 = .ok (.iaload, 1) := by decide +kernel
theorem dX6_sorts_25 : decode cX6_sorts 25 = .ok (.iload_n 2, 1) := by decide +kernel
theorem dX6_sorts_26 : decode cX6_sorts 26 = .ok (.ishr, 1) := by decide +kernel
theorem dX6_sorts_27 : decode cX6_sorts 27 = .ok (.iconst 1, 1) := by decide +kernel
theorem dX6_sorts_28 : decode cX6_sorts 28 = .ok (.iand, 1) := by decide +kernel
theorem dX6_sorts_29 : decode cX6_sorts 29 = .ok (.iconst 1, 1) := by decide +kernel
theorem dX6_sorts_30 : decode cX6_sorts 30 = .ok (.if_icmp .ne 8, 3) := by decide +kernel
theorem dX6_sorts_33 : decode cX6_sorts 33 = .ok (.bipush 63, 2) := by decide +kernel
theorem dX6_sorts_35 : decode cX6_sorts 35 = .ok (.goto 5, 3) := by decide +kernel
theorem dX6_sorts_38 : decode cX6_sorts 38 = .ok (.bipush 62, 2) := by decide +kernel
theorem dX6_sorts_40 : decode cX6_sorts 40 = .ok (.iand, 1) := by decide +kernel
theorem dX6_sorts_41 : decode cX6_sorts 41 = .ok (.istore_n 1, 1) := by decide +kernel
theorem dX6_sorts_42 : decode cX6_sorts 42 = .ok (.iload_n 1, 1) := by decide +kernel
theorem dX6_sorts_43 : decode cX6_sorts 43 = .ok (.aload_n 0, 1) := by decide +kernel
theorem dX6_sorts_44 : decode cX6_sorts 44 = .ok (.getfield 13, 3) := by decide +kernel
theorem dX6_sorts_47 : decode cX6_sorts 47 = .ok (.iload_n 2, 1) := by decide +kernel
theorem dX6_sorts_48 : decode cX6_sorts 48 = .ok (.iaload, 1) := by decide +kernel
theorem dX6_sorts_49 : decode cX6_sorts 49 = .ok (.ifCond .eq 8, 3) := by decide +kernel
theorem dX6_sorts_52 : decode cX6_sorts 52 = .ok (.bipush 63, 2) := by decide +kernel
theorem dX6_sorts_54 : decode cX6_sorts 54 = .ok (.goto 5, 3) := by decide +kernel
theorem dX6_sorts_57 : decode cX6_sorts 57 = .ok (.bipush 55, 2) := by decide +kernel
theorem dX6_sorts_59 : decode cX6_sorts 59 = .ok (.iand, 1) := by decide +kernel
theorem dX6_sorts_60 : decode cX6_sorts 60 = .ok (.istore_n 1, 1) := by decide +kernel
theorem dX6_sorts_61 : decode cX6_sorts 61 = .ok (.iload_n 1, 1) := by decide +kernel
theorem dX6_sorts_62 : decode cX6_sorts 62 = .ok (.aload_n 0, 1) := by decide +kernel
theorem dX6_sorts_63 : decode cX6_sorts 63 = .ok (.getfield 13, 3) := by decide +kernel
theorem dX6_sorts_66 : decode cX6_sorts 66 = .ok (.iload_n 2, 1) := by decide +kernel
theorem dX6_sorts_67 : decode cX6_sorts 67 = .ok (.iaload, 1) := by decide +kernel
theorem dX6_sorts_68 : decode cX6_sorts 68 = .ok (.invokestatic 168, 3) := by decide +kernel
theorem dX6_sorts_71 : decode cX6_sorts 71 = .ok (.iconst 2, 1) := by decide +kernel
theorem dX6_sorts_72 : decode cX6_sorts 72 = .ok (.if_icmp .ge 8, 3) := by decide +kernel
theorem dX6_sorts_75 : decode cX6_sorts 75 = .ok (.bipush 63, 2) := by decide +kernel
theorem dX6_sorts_77 : decode cX6_sorts 77 = .ok (.goto 5, 3) := by decide +kernel
theorem dX6_sorts_80 : decode cX6_sorts 80 = .ok (.bipush 31, 2) := by decide +kernel
theorem dX6_sorts_82 : decode cX6_sorts 82 = .ok (.iand, 1) := by decide +kernel
theorem dX6_sorts_83 : decode cX6_sorts 83 = .ok (.istore_n 1, 1) := by decide +kernel
theorem dX6_sorts_84 : decode cX6_sorts 84 = .ok (.iconst 0, 1) := by decide +kernel
theorem dX6_sorts_85 : decode cX6_sorts 85 = .ok (.istore_n 3, 1) := by decide +kernel
theorem dX6_sorts_86 : decode cX6_sorts 86 = .ok (.iload_n 3, 1) := by decide +kernel
theorem dX6_sorts_87 : decode cX6_sorts 87 = .ok (.aload_n 0, 1) := by decide +kernel
theorem dX6_sorts_88 : decode cX6_sorts 88 = .ok (.getfield 7, 3) := by decide +kernel
theorem dX6_sorts_91 : decode cX6_sorts 91 = .ok (.if_icmp .ge 103, 3) := by decide +kernel
theorem dX6_sorts_94 : decode cX6_sorts 94 = .ok (.aload_n 0, 1) := by decide +kernel
theorem dX6_sorts_95 : decode cX6_sorts 95 = .ok (.getfield 13, 3) := by decide +kernel
theorem dX6_sorts_98 : decode cX6_sorts 98 = .ok (.iload_n 2, 1) := by decide +kernel
theorem dX6_sorts_99 : decode cX6_sorts 99 = .ok (.iaload, 1) := by decide +kernel
theorem dX6_sorts_100 : decode cX6_sorts 100 = .ok (.iload_n 3, 1) := by decide +kernel
theorem dX6_sorts_101 : decode cX6_sorts 101 = .ok (.ishr, 1) := by decide +kernel
theorem dX6_sorts_102 : decode cX6_sorts 102 = .ok (.iconst 1, 1) := by decide +kernel
theorem dX6_sorts_103 : decode cX6_sorts 103 = .ok (.iand, 1) := by decide +kernel
theorem dX6_sorts_104 : decode cX6_sorts 104 = .ok (.iconst 1, 1) := by decide +kernel
theorem dX6_sorts_105 : decode cX6_sorts 105 = .ok (.if_icmp .ne 83, 3) := by decide +kernel
theorem dX6_sorts_108 : decode cX6_sorts 108 = .ok (.iload_n 1, 1) := by decide +kernel
theorem dX6_sorts_109 : decode cX6_sorts 109 = .ok (.aload_n 0, 1) := by decide +kernel
theorem dX6_sorts_110 : decode cX6_sorts 110 = .ok (.getfield 13, 3) := by decide +kernel
theorem dX6_sorts_113 : decode cX6_sorts 113 = .ok (.iload_n 3, 1) := by decide +kernel
theorem dX6_sorts_114 : decode cX6_sorts 114 = .ok (.iaload, 1) := by decide +kernel
theorem dX6_sorts_115 : decode cX6_sorts 115 = .ok (.iload_n 2, 1) := by decide +kernel
theorem dX6_sorts_116 : decode cX6_sorts 116 = .ok (.ishr, 1) := by decide +kernel
theorem dX6_sorts_117 : decode cX6_sorts 117 = .ok (.iconst 1, 1) := by decide +kernel
theorem dX6_sorts_118 : decode cX6_sorts 118 = .ok (.iand, 1) := by decide +kernel
theorem dX6_sorts_119 : decode cX6_sorts 119 = .ok (.iconst 1, 1) := by decide +kernel
theorem dX6_sorts_120 : decode cX6_sorts 120 = .ok (.if_icmp .ne 8, 3) := by decide +kernel
theorem dX6_sorts_123 : decode cX6_sorts 123 = .ok (.bipush 63, 2) := by decide +kernel
theorem dX6_sorts_125 : decode cX6_sorts 125 = .ok (.goto 5, 3) := by decide +kernel
theorem dX6_sorts_128 : decode cX6_sorts 128 = .ok (.bipush 61, 2) := by decide +kernel
theorem dX6_sorts_130 : decode cX6_sorts 130 = .ok (.iand, 1) := by decide +kernel
theorem dX6_sorts_131 : decode cX6_sorts 131 = .ok (.istore_n 1, 1) := by decide +kernel
theorem dX6_sorts_132 : decode cX6_sorts 132 = .ok (.iload_n 1, 1) := by decide +kernel
theorem dX6_sorts_133 : decode cX6_sorts 133 = .ok (.aload_n 0, 1) := by decide +kernel
theorem dX6_sorts_134 : decode cX6_sorts 134 = .ok (.getfield 13, 3) := by decide +kernel
theorem dX6_sorts_137 : decode cX6_sorts 137 = .ok (.iload_n 3, 1) := by decide +kernel
theorem dX6_sorts_138 : decode cX6_sorts 138 = .ok (.iaload, 1) := by decide +kernel
theorem dX6_sorts_139 : decode cX6_sorts 139 = .ok (.aload_n 0, 1) := by decide +kernel
theorem dX6_sorts_140 : decode cX6_sorts 140 = .ok (.getfield 13, 3) := by decide +kernel
theorem dX6_sorts_143 : decode cX6_sorts 143 = .ok (.iload_n 2, 1) := by decide +kernel
theorem dX6_sorts_144 : decode cX6_sorts 144 = .ok (.iaload, 1) := by decide +kernel
theorem dX6_sorts_145 : decode cX6_sorts 145 = .ok (.iconst (-1), 1) := by decide +kernel
theorem dX6_sorts_146 : decode cX6_sorts 146 = .ok (.ixor, 1) := by decide +kernel
theorem dX6_sorts_147 : decode cX6_sorts 147 = .ok (.iand, 1) := by decide +kernel
theorem dX6_sorts_148 : decode cX6_sorts 148 = .ok (.ifCond .ne 8, 3) := by decide +kernel
theorem dX6_sorts_151 : decode cX6_sorts 151 = .ok (.bipush 63, 2) := by decide +kernel
theorem dX6_sorts_153 : decode cX6_sorts 153 = .ok (.goto 5, 3) := by decide +kernel
theorem dX6_sorts_156 : decode cX6_sorts 156 = .ok (.bipush 59, 2) := by decide +kernel
theorem dX6_sorts_158 : decode cX6_sorts 158 = .ok (.iand, 1) := by decide +kernel
theorem dX6_sorts_159 : decode cX6_sorts 159 = .ok (.istore_n 1, 1) := by decide +kernel
theorem dX6_sorts_160 : decode cX6_sorts 160 = .ok (.iload_n 1, 1) := by decide +kernel
theorem dX6_sorts_161 : decode cX6_sorts 161 = .ok (.aload_n 0, 1) := by decide +kernel
theorem dX6_sorts_162 : decode cX6_sorts 162 = .ok (.getfield 13, 3) := by decide +kernel
theorem dX6_sorts_165 : decode cX6_sorts 165 = .ok (.iload_n 2, 1) := by decide +kernel
theorem dX6_sorts_166 : decode cX6_sorts 166 = .ok (.iaload, 1) := by decide +kernel
theorem dX6_sorts_167 : decode cX6_sorts 167 = .ok (.aload_n 0, 1) := by decide +kernel
theorem dX6_sorts_168 : decode cX6_sorts 168 = .ok (.getfield 13, 3) := by decide +kernel
theorem dX6_sorts_171 : decode cX6_sorts 171 = .ok (.iload_n 3, 1) := by decide +kernel
theorem dX6_sorts_172 : decode cX6_sorts 172 = .ok (.iaload, 1) := by decide +kernel
theorem dX6_sorts_173 : decode cX6_sorts 173 = .ok (.iconst (-1), 1) := by decide +kernel
theorem dX6_sorts_174 : decode cX6_sorts 174 = .ok (.ixor, 1) := by decide +kernel
theorem dX6_sorts_175 : decode cX6_sorts 175 = .ok (.iand, 1) := by decide +kernel
theorem dX6_sorts_176 : decode cX6_sorts 176 = .ok (.ifCond .ne 8, 3) := by decide +kernel
theorem dX6_sorts_179 : decode cX6_sorts 179 = .ok (.bipush 63, 2) := by decide +kernel
theorem dX6_sorts_181 : decode cX6_sorts 181 = .ok (.goto 5, 3) := by decide +kernel
theorem dX6_sorts_184 : decode cX6_sorts 184 = .ok (.bipush 47, 2) := by decide +kernel
theorem dX6_sorts_186 : decode cX6_sorts 186 = .ok (.iand, 1) := by decide +kernel
theorem dX6_sorts_187 : decode cX6_sorts 187 = .ok (.istore_n 1, 1) := by decide +kernel
theorem dX6_sorts_188 : decode cX6_sorts 188 = .ok (.iinc 3 1, 3) := by decide +kernel
theorem dX6_sorts_191 : decode cX6_sorts 191 = .ok (.goto (-105), 3) := by decide +kernel
theorem dX6_sorts_194 : decode cX6_sorts 194 = .ok (.iinc 2 1, 3) := by decide +kernel
theorem dX6_sorts_197 : decode cX6_sorts 197 = .ok (.goto (-187), 3) := by decide +kernel
theorem dX6_sorts_200 : decode cX6_sorts 200 = .ok (.iload_n 1, 1) := by decide +kernel
theorem dX6_sorts_201 : decode cX6_sorts 201 = .ok (.ireturn, 1) := by decide +kernel
theorem dX6_type_0 : decode cX6_type 0 = .ok (.aload_n 0, 1) := by decide +kernel
theorem dX6_type_1 : decode cX6_type 1 = .ok (.iconst 0, 1) := by decide +kernel
theorem dX6_type_2 : decode cX6_type 2 = .ok (.putfield 132, 3) := by decide +kernel
theorem dX6_type_5 : decode cX6_type 5 = .ok (.iload_n 3, 1) := by decide +kernel
theorem dX6_type_6 : decode cX6_type 6 = .ok (.iconst 1, 1) := by decide +kernel
theorem dX6_type_7 : decode cX6_type 7 = .ok (.bipush 8, 2) := by decide +kernel
theorem dX6_type_9 : decode cX6_type 9 = .ok (.invokestatic 135, 3) := by decide +kernel
theorem dX6_type_12 : decode cX6_type 12 = .ok (.ifCond .ne 5, 3) := by decide +kernel
theorem dX6_type_15 : decode cX6_type 15 = .ok (.iconst (-1), 1) := by decide +kernel
theorem dX6_type_16 : decode cX6_type 16 = .ok (.ireturn, 1) := by decide +kernel
theorem dX6_type_17 : decode cX6_type 17 = .ok (.aload_n 0, 1) := by decide +kernel
theorem dX6_type_18 : decode cX6_type 18 = .ok (.getfield 171, 3) := by decide +kernel
theorem dX6_type_21 : decode cX6_type 21 = .ok (.iload_n 3, 1) := by decide +kernel
theorem dX6_type_22 : decode cX6_type 22 = .ok (.iadd, 1) := by decide +kernel
theorem dX6_type_23 : decode cX6_type 23 = .ok (.sipush 200, 3) := by decide +kernel
theorem dX6_type_26 : decode cX6_type 26 = .ok (.if_icmp .le 6, 3) := by decide +kernel
theorem dX6_type_29 : decode cX6_type 29 = .ok (.bipush (-3), 2) := by decide +kernel
theorem dX6_type_31 : decode cX6_type 31 = .ok (.ireturn, 1) := by decide +kernel
theorem dX6_type_32 : decode cX6_type 32 = .ok (.iload_n 3, 1) := by decide +kernel
theorem dX6_type_33 : decode cX6_type 33 = .ok (.iconst 1, 1) := by decide +kernel
theorem dX6_type_34 : decode cX6_type 34 = .ok (.isub, 1) := by decide +kernel
theorem dX6_type_35 : decode cX6_type 35 = .ok (.istore 4, 2) := by decide +kernel
theorem dX6_type_37 : decode cX6_type 37 = .ok (.iload 4, 2) := by decide +kernel
theorem dX6_type_39 : decode cX6_type 39 = .ok (.ifCond .lt 40, 3) := by decide +kernel
theorem dX6_type_42 : decode cX6_type 42 = .ok (.aload_n 0, 1) := by decide +kernel
theorem dX6_type_43 : decode cX6_type 43 = .ok (.getfield 20, 3) := by decide +kernel
theorem dX6_type_46 : decode cX6_type 46 = .ok (.aload_n 0, 1) := by decide +kernel
theorem dX6_type_47 : decode cX6_type 47 = .ok (.getfield 171, 3) := by decide +kernel
theorem dX6_type_50 : decode cX6_type 50 = .ok (.lload_n 1, 1) := by decide +kernel
theorem dX6_type_51 : decode cX6_type 51 = .ok (.bipush 8, 2) := by decide +kernel
theorem dX6_type_53 : decode cX6_type 53 = .ok (.iload 4, 2) := by decide +kernel
theorem dX6_type_55 : decode cX6_type 55 = .ok (.imul, 1) := by decide +kernel
theorem dX6_type_56 : decode cX6_type 56 = .ok (.lshr, 1) := by decide +kernel
theorem dX6_type_57 : decode cX6_type 57 = .ok (.ldc2_w 174, 3) := by decide +kernel
theorem dX6_type_60 : decode cX6_type 60 = .ok (.land, 1) := by decide +kernel
theorem dX6_type_61 : decode cX6_type 61 = .ok (.l2i, 1) := by decide +kernel
theorem dX6_type_62 : decode cX6_type 62 = .ok (.iastore, 1) := by decide +kernel
theorem dX6_type_63 : decode cX6_type 63 = .ok (.aload_n 0, 1) := by decide +kernel
theorem dX6_type_64 : decode cX6_type 64 = .ok (.dup, 1) := by decide +kernel
theorem dX6_type_65 : decode cX6_type 65 = .ok (.getfield 171, 3) := by decide +kernel
theorem dX6_type_68 : decode cX6_type 68 = .ok (.iconst 1, 1) := by decide +kernel
theorem dX6_type_69 : decode cX6_type 69 = .ok (.iadd, 1) := by decide +kernel
theorem dX6_type_70 : decode cX6_type 70 = .ok (.putfield 171, 3) := by decide +kernel
theorem dX6_type_73 : decode cX6_type 73 = .ok (.iinc 4 (-1), 3) := by decide +kernel
theorem dX6_type_76 : decode cX6_type 76 = .ok (.goto (-39), 3) := by decide +kernel
theorem dX6_type_79 : decode cX6_type 79 = .ok (.aload_n 0, 1) := by decide +kernel
theorem dX6_type_80 : decode cX6_type 80 = .ok (.getfield 171, 3) := by decide +kernel
theorem dX6_type_83 : decode cX6_type 83 = .ok (.ireturn, 1) := by decide +kernel
theorem dX6_clear_0 : decode cX6_clear 0 = .ok (.aload_n 0, 1) := by decide +kernel
theorem dX6_clear_1 : decode cX6_clear 1 = .ok (.iconst 0, 1) := by decide +kernel
theorem dX6_clear_2 : decode cX6_clear 2 = .ok (.putfield 132, 3) := by decide +kernel
theorem dX6_clear_5 : decode cX6_clear 5 = .ok (.aload_n 0, 1) := by decide +kernel
theorem dX6_clear_6 : decode cX6_clear 6 = .ok (.getfield 171, 3) := by decide +kernel
theorem dX6_clear_9 : decode cX6_clear 9 = .ok (.istore_n 1, 1) := by decide +kernel
theorem dX6_clear_10 : decode cX6_clear 10 = .ok (.aload_n 0, 1) := by decide +kernel
theorem dX6_clear_11 : decode cX6_clear 11 = .ok (.iconst 0, 1) := by decide +kernel
theorem dX6_clear_12 : decode cX6_clear 12 = .ok (.putfield 171, 3) := by decide +kernel
theorem dX6_clear_15 : decode cX6_clear 15 = .ok (.iload_n 1, 1) := by decide +kernel
theorem dX6_clear_16 : decode cX6_clear 16 = .ok (.ireturn, 1) := by decide +kernel
theorem dX6_isAtom_0 : decode cX6_isAtom 0 = .ok (.iload_n 0, 1) := by decide +kernel
theorem dX6_isAtom_1 : decode cX6_isAtom 1 = .ok (.bipush 112, 2) := by decide +kernel
theorem dX6_isAtom_3 : decode cX6_isAtom 3 = .ok (.bipush 115, 2) := by decide +kernel
theorem dX6_isAtom_5 : decode cX6_isAtom 5 = .ok (.invokestatic 135, 3) := by decide +kernel
theorem dX6_isAtom_8 : decode cX6_isAtom 8 = .ok (.ireturn, 1) := by decide +kernel
theorem dX6_isPrefix_0 : decode cX6_isPrefix 0 = .ok (.iload_n 0, 1) := by decide +kernel
theorem dX6_isPrefix_1 : decode cX6_isPrefix 1 = .ok (.bipush 33, 2) := by decide +kernel
theorem dX6_isPrefix_3 : decode cX6_isPrefix 3 = .ok (.if_icmp .eq 15, 3) := by decide +kernel
theorem dX6_isPrefix_6 : decode cX6_isPrefix 6 = .ok (.iload_n 0, 1) := by decide +kernel
theorem dX6_isPrefix_7 : decode cX6_isPrefix 7 = .ok (.bipush 91, 2) := by decide +kernel
theorem dX6_isPrefix_9 : decode cX6_isPrefix 9 = .ok (.if_icmp .eq 9, 3) := by decide +kernel
theorem dX6_isPrefix_12 : decode cX6_isPrefix 12 = .ok (.iload_n 0, 1) := by decide +kernel
theorem dX6_isPrefix_13 : decode cX6_isPrefix 13 = .ok (.bipush 123, 2) := by decide +kernel
theorem dX6_isPrefix_15 : decode cX6_isPrefix 15 = .ok (.if_icmp .ne 7, 3) := by decide +kernel
theorem dX6_isPrefix_18 : decode cX6_isPrefix 18 = .ok (.iconst 1, 1) := by decide +kernel
theorem dX6_isPrefix_19 : decode cX6_isPrefix 19 = .ok (.goto 4, 3) := by decide +kernel
theorem dX6_isPrefix_22 : decode cX6_isPrefix 22 = .ok (.iconst 0, 1) := by decide +kernel
theorem dX6_isPrefix_23 : decode cX6_isPrefix 23 = .ok (.ireturn, 1) := by decide +kernel
theorem dX6_isJoin_0 : decode cX6_isJoin 0 = .ok (.iload_n 0, 1) := by decide +kernel
theorem dX6_isJoin_1 : decode cX6_isJoin 1 = .ok (.bipush 38, 2) := by decide +kernel
theorem dX6_isJoin_3 : decode cX6_isJoin 3 = .ok (.if_icmp .eq 15, 3) := by decide +kernel
theorem dX6_isJoin_6 : decode cX6_isJoin 6 = .ok (.iload_n 0, 1) := by decide +kernel
theorem dX6_isJoin_7 : decode cX6_isJoin 7 = .ok (.bipush 124, 2) := by decide +kernel
theorem dX6_isJoin_9 : decode cX6_isJoin 9 = .ok (.if_icmp .eq 9, 3) := by decide +kernel
theorem dX6_isJoin_12 : decode cX6_isJoin 12 = .ok (.iload_n 0, 1) := by decide +kernel
theorem dX6_isJoin_13 : decode cX6_isJoin 13 = .ok (.bipush 62, 2) := by decide +kernel
theorem dX6_isJoin_15 : decode cX6_isJoin 15 = .ok (.if_icmp .ne 7, 3) := by decide +kernel
theorem dX6_isJoin_18 : decode cX6_isJoin 18 = .ok (.iconst 1, 1) := by decide +kernel
theorem dX6_isJoin_19 : decode cX6_isJoin 19 = .ok (.goto 4, 3) := by decide +kernel
theorem dX6_isJoin_22 : decode cX6_isJoin 22 = .ok (.iconst 0, 1) := by decide +kernel
theorem dX6_isJoin_23 : decode cX6_isJoin 23 = .ok (.ireturn, 1) := by decide +kernel
theorem dX6_part_0 : decode cX6_part 0 = .ok (.aload_n 0, 1) := by decide +kernel
theorem dX6_part_1 : decode cX6_part 1 = .ok (.getfield 47, 3) := by decide +kernel
theorem dX6_part_4 : decode cX6_part 4 = .ok (.aload_n 0, 1) := by decide +kernel
theorem dX6_part_5 : decode cX6_part 5 = .ok (.getfield 176, 3) := by decide +kernel
theorem dX6_part_8 : decode cX6_part 8 = .ok (.iload_n 1, 1) := by decide +kernel
theorem dX6_part_9 : decode cX6_part 9 = .ok (.iastore, 1) := by decide +kernel
theorem dX6_part_10 : decode cX6_part 10 = .ok (.aload_n 0, 1) := by decide +kernel
theorem dX6_part_11 : decode cX6_part 11 = .ok (.getfield 50, 3) := by decide +kernel
theorem dX6_part_14 : decode cX6_part 14 = .ok (.aload_n 0, 1) := by decide +kernel
theorem dX6_part_15 : decode cX6_part 15 = .ok (.getfield 176, 3) := by decide +kernel
theorem dX6_part_18 : decode cX6_part 18 = .ok (.iload_n 2, 1) := by decide +kernel
theorem dX6_part_19 : decode cX6_part 19 = .ok (.iastore, 1) := by decide +kernel
theorem dX6_part_20 : decode cX6_part 20 = .ok (.aload_n 0, 1) := by decide +kernel
theorem dX6_part_21 : decode cX6_part 21 = .ok (.getfield 53, 3) := by decide +kernel
theorem dX6_part_24 : decode cX6_part 24 = .ok (.aload_n 0, 1) := by decide +kernel
theorem dX6_part_25 : decode cX6_part 25 = .ok (.getfield 176, 3) := by decide +kernel
theorem dX6_part_28 : decode cX6_part 28 = .ok (.iload_n 3, 1) := by decide +kernel
theorem dX6_part_29 : decode cX6_part 29 = .ok (.iastore, 1) := by decide +kernel
theorem dX6_part_30 : decode cX6_part 30 = .ok (.aload_n 0, 1) := by decide +kernel
theorem dX6_part_31 : decode cX6_part 31 = .ok (.getfield 56, 3) := by decide +kernel
theorem dX6_part_34 : decode cX6_part 34 = .ok (.aload_n 0, 1) := by decide +kernel
theorem dX6_part_35 : decode cX6_part 35 = .ok (.getfield 176, 3) := by decide +kernel
theorem dX6_part_38 : decode cX6_part 38 = .ok (.iload 4, 2) := by decide +kernel
theorem dX6_part_40 : decode cX6_part 40 = .ok (.iastore, 1) := by decide +kernel
theorem dX6_part_41 : decode cX6_part 41 = .ok (.aload_n 0, 1) := by decide +kernel
theorem dX6_part_42 : decode cX6_part 42 = .ok (.getfield 59, 3) := by decide +kernel
theorem dX6_part_45 : decode cX6_part 45 = .ok (.aload_n 0, 1) := by decide +kernel
theorem dX6_part_46 : decode cX6_part 46 = .ok (.getfield 176, 3) := by decide +kernel
theorem dX6_part_49 : decode cX6_part 49 = .ok (.iload 5, 2) := by decide +kernel
theorem dX6_part_51 : decode cX6_part 51 = .ok (.iastore, 1) := by decide +kernel
theorem dX6_part_52 : decode cX6_part 52 = .ok (.aload_n 0, 1) := by decide +kernel
theorem dX6_part_53 : decode cX6_part 53 = .ok (.dup, 1) := by decide +kernel
theorem dX6_part_54 : decode cX6_part 54 = .ok (.getfield 176, 3) := by decide +kernel
theorem dX6_part_57 : decode cX6_part 57 = .ok (.iconst 1, 1) := by decide +kernel
theorem dX6_part_58 : decode cX6_part 58 = .ok (.iadd, 1) := by decide +kernel
theorem dX6_part_59 : decode cX6_part 59 = .ok (.putfield 176, 3) := by decide +kernel
theorem dX6_part_62 : decode cX6_part 62 = .ok (.aload_n 0, 1) := by decide +kernel
theorem dX6_part_63 : decode cX6_part 63 = .ok (.getfield 176, 3) := by decide +kernel
theorem dX6_part_66 : decode cX6_part 66 = .ok (.iconst 1, 1) := by decide +kernel
theorem dX6_part_67 : decode cX6_part 67 = .ok (.isub, 1) := by decide +kernel
theorem dX6_part_68 : decode cX6_part 68 = .ok (.ireturn, 1) := by decide +kernel
theorem dX6_reads_0 : decode cX6_reads 0 = .ok (.aload_n 0, 1) := by decide +kernel
theorem dX6_reads_1 : decode cX6_reads 1 = .ok (.iconst 0, 1) := by decide +kernel
theorem dX6_reads_2 : decode cX6_reads 2 = .ok (.putfield 176, 3) := by decide +kernel
theorem dX6_reads_5 : decode cX6_reads 5 = .ok (.iconst 0, 1) := by decide +kernel
theorem dX6_reads_6 : decode cX6_reads 6 = .ok (.istore_n 1, 1) := by decide +kernel
theorem dX6_reads_7 : decode cX6_reads 7 = .ok (.iconst 0, 1) := by decide +kernel
theorem dX6_reads_8 : decode cX6_reads 8 = .ok (.istore_n 2, 1) := by decide +kernel
theorem dX6_reads_9 : decode cX6_reads 9 = .ok (.iconst 0, 1) := by decide +kernel
theorem dX6_reads_10 : decode cX6_reads 10 = .ok (.istore_n 3, 1) := by decide +kernel
theorem dX6_reads_11 : decode cX6_reads 11 = .ok (.iconst 1, 1) := by decide +kernel
theorem dX6_reads_12 : decode cX6_reads 12 = .ok (.istore 4, 2) := by decide +kernel
theorem dX6_reads_14 : decode cX6_reads 14 = .ok (.iconst 0, 1) := by decide +kernel
theorem dX6_reads_15 : decode cX6_reads 15 = .ok (.istore 5, 2) := by decide +kernel
theorem dX6_reads_17 : decode cX6_reads 17 = .ok (.iload 5, 2) := by decide +kernel
theorem dX6_reads_19 : decode cX6_reads 19 = .ok (.aload_n 0, 1) := by decide +kernel
theorem dX6_reads_20 : decode cX6_reads 20 = .ok (.getfield 171, 3) := by decide +kernel
theorem dX6_reads_23 : decode cX6_reads 23 = .ok (.if_icmp .ge 407, 3) := by decide +kernel
theorem dX6_reads_26 : decode cX6_reads 26 = .ok (.aload_n 0, 1) := by decide +kernel
theorem dX6_reads_27 : decode cX6_reads 27 = .ok (.getfield 20, 3) := by decide +kernel
theorem dX6_reads_30 : decode cX6_reads 30 = .ok (.iload 5, 2) := by decide +kernel
theorem dX6_reads_32 : decode cX6_reads 32 = .ok (.iaload, 1) := by decide +kernel
theorem dX6_reads_33 : decode cX6_reads 33 = .ok (.istore 6, 2) := by decide +kernel
theorem dX6_reads_35 : decode cX6_reads 35 = .ok (.iload 6, 2) := by decide +kernel
theorem dX6_reads_37 : decode cX6_reads 37 = .ok (.bipush 40, 2) := by decide +kernel
theorem dX6_reads_39 : decode cX6_reads 39 = .ok (.if_icmp .eq 14, 3) := by decide +kernel
theorem dX6_reads_42 : decode cX6_reads 42 = .ok (.iload 6, 2) := by decide +kernel
theorem dX6_reads_44 : decode cX6_reads 44 = .ok (.bipush 41, 2) := by decide +kernel
theorem dX6_reads_46 : decode cX6_reads 46 = .ok (.if_icmp .eq 7, 3) := by decide +kernel
theorem dX6_reads_49 : decode cX6_reads 49 = .ok (.iconst 1, 1) := by decide +kernel
theorem dX6_reads_50 : decode cX6_reads 50 = .ok (.goto 4, 3) := by decide +kernel
theorem dX6_reads_53 : decode cX6_reads 53 = .ok (.iconst 0, 1) := by decide +kernel
theorem dX6_reads_54 : decode cX6_reads 54 = .ok (.istore 7, 2) := by decide +kernel
theorem dX6_reads_56 : decode cX6_reads 56 = .ok (.aload_n 0, 1) := by decide +kernel
theorem dX6_reads_57 : decode cX6_reads 57 = .ok (.iload 5, 2) := by decide +kernel
theorem dX6_reads_59 : decode cX6_reads 59 = .ok (.putfield 179, 3) := by decide +kernel
theorem dX6_reads_62 : decode cX6_reads 62 = .ok (.iload_n 3, 1) := by decide +kernel
theorem dX6_reads_63 : decode cX6_reads 63 = .ok (.ifCond .ne 14, 3) := by decide +kernel
theorem dX6_reads_66 : decode cX6_reads 66 = .ok (.iload 7, 2) := by decide +kernel
theorem dX6_reads_68 : decode cX6_reads 68 = .ok (.ifCond .eq 11, 3) := by decide +kernel
theorem dX6_reads_71 : decode cX6_reads 71 = .ok (.iload_n 1, 1) := by decide +kernel
theorem dX6_reads_72 : decode cX6_reads 72 = .ok (.bipush 40, 2) := by decide +kernel
theorem dX6_reads_74 : decode cX6_reads 74 = .ok (.if_icmp .ne 5, 3) := by decide +kernel
theorem dX6_reads_77 : decode cX6_reads 77 = .ok (.iconst 0, 1) := by decide +kernel
theorem dX6_reads_78 : decode cX6_reads 78 = .ok (.ireturn, 1) := by decide +kernel
theorem dX6_reads_79 : decode cX6_reads 79 = .ok (.iload_n 1, 1) := by decide +kernel
theorem dX6_reads_80 : decode cX6_reads 80 = .ok (.iload 7, 2) := by decide +kernel
theorem dX6_reads_82 : decode cX6_reads 82 = .ok (.ifCond .eq 7, 3) := by decide +kernel
theorem dX6_reads_85 : decode cX6_reads 85 = .ok (.iconst 1, 1) := by decide +kernel
theorem dX6_reads_86 : decode cX6_reads 86 = .ok (.goto 4, 3) := by decide +kernel
theorem dX6_reads_89 : decode cX6_reads 89 = .ok (.iconst 0, 1) := by decide +kernel
theorem dX6_reads_90 : decode cX6_reads 90 = .ok (.iadd, 1) := by decide +kernel
theorem dX6_reads_91 : decode cX6_reads 91 = .ok (.istore_n 1, 1) := by decide +kernel
theorem dX6_reads_92 : decode cX6_reads 92 = .ok (.bipush (-9), 2) := by decide +kernel
theorem dX6_reads_94 : decode cX6_reads 94 = .ok (.istore 8, 2) := by decide +kernel
theorem dX6_reads_96 : decode cX6_reads 96 = .ok (.iload 4, 2) := by decide +kernel
theorem dX6_reads_98 : decode cX6_reads 98 = .ok (.ifCond .eq 98, 3) := by decide +kernel
theorem dX6_reads_101 : decode cX6_reads 101 = .ok (.iload 6, 2) := by decide +kernel
theorem dX6_reads_103 : decode cX6_reads 103 = .ok (.invokestatic 182, 3) := by decide +kernel
theorem dX6_reads_106 : decode cX6_reads 106 = .ok (.ifCond .ne 10, 3) := by decide +kernel
theorem dX6_reads_109 : decode cX6_reads 109 = .ok (.iload 6, 2) := by decide +kernel
theorem dX6_reads_111 : decode cX6_reads 111 = .ok (.bipush 40, 2) := by decide +kernel
theorem dX6_reads_113 : decode cX6_reads 113 = .ok (.if_icmp .ne 40, 3) := by decide +kernel
theorem dX6_reads_116 : decode cX6_reads 116 = .ok (.iload_n 2, 1) := by decide +kernel
theorem dX6_reads_117 : decode cX6_reads 117 = .ok (.bipush 20, 2) := by decide +kernel
theorem dX6_reads_119 : decode cX6_reads 119 = .ok (.if_icmp .ne 5, 3) := by decide +kernel
theorem dX6_reads_122 : decode cX6_reads 122 = .ok (.iconst 0, 1) := by decide +kernel
theorem dX6_reads_123 : decode cX6_reads 123 = .ok (.ireturn, 1) := by decide +kernel
theorem dX6_reads_124 : decode cX6_reads 124 = .ok (.aload_n 0, 1) := by decide +kernel
theorem dX6_reads_125 : decode cX6_reads 125 = .ok (.getfield 62, 3) := by decide +kernel
theorem dX6_reads_128 : decode cX6_reads 128 = .ok (.iload_n 2, 1) := by decide +kernel
theorem dX6_reads_129 : decode cX6_reads 129 = .ok (.iload 6, 2) := by decide +kernel
theorem dX6_reads_131 : decode cX6_reads 131 = .ok (.iastore, 1) := by decide +kernel
theorem dX6_reads_132 : decode cX6_reads 132 = .ok (.aload_n 0, 1) := by decide +kernel
theorem dX6_reads_133 : decode cX6_reads 133 = .ok (.getfield 65, 3) := by decide +kernel
theorem dX6_reads_136 : decode cX6_reads 136 = .ok (.iload_n 2, 1) := by decide +kernel
theorem dX6_reads_137 : decode cX6_reads 137 = .ok (.iload 5, 2) := by decide +kernel
theorem dX6_reads_139 : decode cX6_reads 139 = .ok (.iastore, 1) := by decide +kernel
theorem dX6_reads_140 : decode cX6_reads 140 = .ok (.aload_n 0, 1) := by decide +kernel
theorem dX6_reads_141 : decode cX6_reads 141 = .ok (.getfield 71, 3) := by decide +kernel
theorem dX6_reads_144 : decode cX6_reads 144 = .ok (.iload_n 2, 1) := by decide +kernel
theorem dX6_reads_145 : decode cX6_reads 145 = .ok (.iconst 0, 1) := by decide +kernel
theorem dX6_reads_146 : decode cX6_reads 146 = .ok (.iastore, 1) := by decide +kernel
theorem dX6_reads_147 : decode cX6_reads 147 = .ok (.iinc 2 1, 3) := by decide +kernel
theorem dX6_reads_150 : decode cX6_reads 150 = .ok (.goto 139, 3) := by decide +kernel
theorem dX6_reads_153 : decode cX6_reads 153 = .ok (.iload 6, 2) := by decide +kernel
theorem dX6_reads_155 : decode cX6_reads 155 = .ok (.invokestatic 185, 3) := by decide +kernel
theorem dX6_reads_158 : decode cX6_reads 158 = .ok (.ifCond .ne 17, 3) := by decide +kernel
theorem dX6_reads_161 : decode cX6_reads 161 = .ok (.iload 6, 2) := by decide +kernel
theorem dX6_reads_163 : decode cX6_reads 163 = .ok (.bipush 84, 2) := by decide +kernel
theorem dX6_reads_165 : decode cX6_reads 165 = .ok (.if_icmp .eq 10, 3) := by decide +kernel
theorem dX6_reads_168 : decode cX6_reads 168 = .ok (.iload 6, 2) := by decide +kernel
theorem dX6_reads_170 : decode cX6_reads 170 = .ok (.bipush 70, 2) := by decide +kernel
theorem dX6_reads_172 : decode cX6_reads 172 = .ok (.if_icmp .ne 22, 3) := by decide +kernel
theorem dX6_reads_175 : decode cX6_reads 175 = .ok (.aload_n 0, 1) := by decide +kernel
theorem dX6_reads_176 : decode cX6_reads 176 = .ok (.iload 6, 2) := by decide +kernel
theorem dX6_reads_178 : decode cX6_reads 178 = .ok (.iconst 0, 1) := by decide +kernel
theorem dX6_reads_179 : decode cX6_reads 179 = .ok (.iconst 0, 1) := by decide +kernel
theorem dX6_reads_180 : decode cX6_reads 180 = .ok (.iload 5, 2) := by decide +kernel
theorem dX6_reads_182 : decode cX6_reads 182 = .ok (.iload 5, 2) := by decide +kernel
theorem dX6_reads_184 : decode cX6_reads 184 = .ok (.iconst 1, 1) := by decide +kernel
theorem dX6_reads_185 : decode cX6_reads 185 = .ok (.iadd, 1) := by decide +kernel
theorem dX6_reads_186 : decode cX6_reads 186 = .ok (.invokevirtual 188, 3) := by decide +kernel
theorem dX6_reads_189 : decode cX6_reads 189 = .ok (.istore 8, 2) := by decide +kernel
theorem dX6_reads_191 : decode cX6_reads 191 = .ok (.goto 98, 3) := by decide +kernel
theorem dX6_reads_194 : decode cX6_reads 194 = .ok (.iconst 0, 1) := by decide +kernel
theorem dX6_reads_195 : decode cX6_reads 195 = .ok (.ireturn, 1) := by decide +kernel
theorem dX6_reads_196 : decode cX6_reads 196 = .ok (.aload_n 0, 1) := by decide +kernel
theorem dX6_reads_197 : decode cX6_reads 197 = .ok (.getfield 71, 3) := by decide +kernel
theorem dX6_reads_200 : decode cX6_reads 200 = .ok (.iload_n 2, 1) := by decide +kernel
theorem dX6_reads_201 : decode cX6_reads 201 = .ok (.iconst 1, 1) := by decide +kernel
theorem dX6_reads_202 : decode cX6_reads 202 = .ok (.isub, 1) := by decide +kernel
theorem dX6_reads_203 : decode cX6_reads 203 = .ok (.iaload, 1) := by decide +kernel
theorem dX6_reads_204 : decode cX6_reads 204 = .ok (.iconst 1, 1) := by decide +kernel
theorem dX6_reads_205 : decode cX6_reads 205 = .ok (.if_icmp .ne 38, 3) := by decide +kernel
theorem dX6_reads_208 : decode cX6_reads 208 = .ok (.iload 6, 2) := by decide +kernel
theorem dX6_reads_210 : decode cX6_reads 210 = .ok (.invokestatic 192, 3) := by decide +kernel
theorem dX6_reads_213 : decode cX6_reads 213 = .ok (.ifCond .ne 5, 3) := by decide +kernel
theorem dX6_reads_216 : decode cX6_reads 216 = .ok (.iconst 0, 1) := by decide +kernel
theorem dX6_reads_217 : decode cX6_reads 217 = .ok (.ireturn, 1) := by decide +kernel
theorem dX6_reads_218 : decode cX6_reads 218 = .ok (.aload_n 0, 1) := by decide +kernel
theorem dX6_reads_219 : decode cX6_reads 219 = .ok (.getfield 62, 3) := by decide +kernel
theorem dX6_reads_222 : decode cX6_reads 222 = .ok (.iload_n 2, 1) := by decide +kernel
theorem dX6_reads_223 : decode cX6_reads 223 = .ok (.iconst 1, 1) := by decide +kernel
theorem dX6_reads_224 : decode cX6_reads 224 = .ok (.isub, 1) := by decide +kernel
theorem dX6_reads_225 : decode cX6_reads 225 = .ok (.iload 6, 2) := by decide +kernel
theorem dX6_reads_227 : decode cX6_reads 227 = .ok (.iastore, 1) := by decide +kernel
theorem dX6_reads_228 : decode cX6_reads 228 = .ok (.aload_n 0, 1) := by decide +kernel
theorem dX6_reads_229 : decode cX6_reads 229 = .ok (.getfield 71, 3) := by decide +kernel
theorem dX6_reads_232 : decode cX6_reads 232 = .ok (.iload_n 2, 1) := by decide +kernel
theorem dX6_reads_233 : decode cX6_reads 233 = .ok (.iconst 1, 1) := by decide +kernel
theorem dX6_reads_234 : decode cX6_reads 234 = .ok (.isub, 1) := by decide +kernel
theorem dX6_reads_235 : decode cX6_reads 235 = .ok (.iconst 2, 1) := by decide +kernel
theorem dX6_reads_236 : decode cX6_reads 236 = .ok (.iastore, 1) := by decide +kernel
theorem dX6_reads_237 : decode cX6_reads 237 = .ok (.iconst 1, 1) := by decide +kernel
theorem dX6_reads_238 : decode cX6_reads 238 = .ok (.istore 4, 2) := by decide +kernel
theorem dX6_reads_240 : decode cX6_reads 240 = .ok (.goto 49, 3) := by decide +kernel
theorem dX6_reads_243 : decode cX6_reads 243 = .ok (.iload 6, 2) := by decide +kernel
theorem dX6_reads_245 : decode cX6_reads 245 = .ok (.bipush 41, 2) := by decide +kernel
theorem dX6_reads_247 : decode cX6_reads 247 = .ok (.if_icmp .eq 5, 3) := by decide +kernel
theorem dX6_reads_250 : decode cX6_reads 250 = .ok (.iconst 0, 1) := by decide +kernel
theorem dX6_reads_251 : decode cX6_reads 251 = .ok (.ireturn, 1) := by decide +kernel
theorem dX6_reads_252 : decode cX6_reads 252 = .ok (.iinc 2 (-1), 3) := by decide +kernel
theorem dX6_reads_255 : decode cX6_reads 255 = .ok (.aload_n 0, 1) := by decide +kernel
theorem dX6_reads_256 : decode cX6_reads 256 = .ok (.aload_n 0, 1) := by decide +kernel
theorem dX6_reads_257 : decode cX6_reads 257 = .ok (.getfield 62, 3) := by decide +kernel
theorem dX6_reads_260 : decode cX6_reads 260 = .ok (.iload_n 2, 1) := by decide +kernel
theorem dX6_reads_261 : decode cX6_reads 261 = .ok (.iaload, 1) := by decide +kernel
theorem dX6_reads_262 : decode cX6_reads 262 = .ok (.aload_n 0, 1) := by decide +kernel
theorem dX6_reads_263 : decode cX6_reads 263 = .ok (.getfield 68, 3) := by decide +kernel
theorem dX6_reads_266 : decode cX6_reads 266 = .ok (.iload_n 2, 1) := by decide +kernel
theorem dX6_reads_267 : decode cX6_reads 267 = .ok (.iaload, 1) := by decide +kernel
theorem dX6_reads_268 : decode cX6_reads 268 = .ok (.aload_n 0, 1) := by decide +kernel
theorem dX6_reads_269 : decode cX6_reads 269 = .ok (.getfield 176, 3) := by decide +kernel
theorem dX6_reads_272 : decode cX6_reads 272 = .ok (.iconst 1, 1) := by decide +kernel
theorem dX6_reads_273 : decode cX6_reads 273 = .ok (.isub, 1) := by decide +kernel
theorem dX6_reads_274 : decode cX6_reads 274 = .ok (.aload_n 0, 1) := by decide +kernel
theorem dX6_reads_275 : decode cX6_reads 275 = .ok (.getfield 65, 3) := by decide +kernel
theorem dX6_reads_278 : decode cX6_reads 278 = .ok (.iload_n 2, 1) := by decide +kernel
theorem dX6_reads_279 : decode cX6_reads 279 = .ok (.iaload, 1) := by decide +kernel
theorem dX6_reads_280 : decode cX6_reads 280 = .ok (.iload 5, 2) := by decide +kernel
theorem dX6_reads_282 : decode cX6_reads 282 = .ok (.iconst 1, 1) := by decide +kernel
theorem dX6_reads_283 : decode cX6_reads 283 = .ok (.iadd, 1) := by decide +kernel
theorem dX6_reads_284 : decode cX6_reads 284 = .ok (.invokevirtual 188, 3) := by decide +kernel
theorem dX6_reads_287 : decode cX6_reads 287 = .ok (.istore 8, 2) := by decide +kernel
theorem dX6_reads_289 : decode cX6_reads 289 = .ok (.iload 8, 2) := by decide +kernel
theorem dX6_reads_291 : decode cX6_reads 291 = .ok (.bipush (-9), 2) := by decide +kernel
theorem dX6_reads_293 : decode cX6_reads 293 = .ok (.if_icmp .eq 131, 3) := by decide +kernel
theorem dX6_reads_296 : decode cX6_reads 296 = .ok (.iload_n 2, 1) := by decide +kernel
theorem dX6_reads_297 : decode cX6_reads 297 = .ok (.ifCond .le 48, 3) := by decide +kernel
theorem dX6_reads_300 : decode cX6_reads 300 = .ok (.aload_n 0, 1) := by decide +kernel
theorem dX6_reads_301 : decode cX6_reads 301 = .ok (.getfield 62, 3) := by decide +kernel
theorem dX6_reads_304 : decode cX6_reads 304 = .ok (.iload_n 2, 1) := by decide +kernel
theorem dX6_reads_305 : decode cX6_reads 305 = .ok (.iconst 1, 1) := by decide +kernel
theorem dX6_reads_306 : decode cX6_reads 306 = .ok (.isub, 1) := by decide +kernel
theorem dX6_reads_307 : decode cX6_reads 307 = .ok (.iaload, 1) := by decide +kernel
theorem dX6_reads_308 : decode cX6_reads 308 = .ok (.invokestatic 182, 3) := by decide +kernel
theorem dX6_reads_311 : decode cX6_reads 311 = .ok (.ifCond .eq 34, 3) := by decide +kernel
theorem dX6_reads_314 : decode cX6_reads 314 = .ok (.iinc 2 (-1), 3) := by decide +kernel
theorem dX6_reads_317 : decode cX6_reads 317 = .ok (.aload_n 0, 1) := by decide +kernel
theorem dX6_reads_318 : decode cX6_reads 318 = .ok (.aload_n 0, 1) := by decide +kernel
theorem dX6_reads_319 : decode cX6_reads 319 = .ok (.getfield 62, 3) := by decide +kernel
theorem dX6_reads_322 : decode cX6_reads 322 = .ok (.iload_n 2, 1) := by decide +kernel
theorem dX6_reads_323 : decode cX6_reads 323 = .ok (.iaload, 1) := by decide +kernel
theorem dX6_reads_324 : decode cX6_reads 324 = .ok (.iload 8, 2) := by decide +kernel
theorem dX6_reads_326 : decode cX6_reads 326 = .ok (.iconst 0, 1) := by decide +kernel
theorem dX6_reads_327 : decode cX6_reads 327 = .ok (.aload_n 0, 1) := by decide +kernel
theorem dX6_reads_328 : decode cX6_reads 328 = .ok (.getfield 65, 3) := by decide +kernel
theorem dX6_reads_331 : decode cX6_reads 331 = .ok (.iload_n 2, 1) := by decide +kernel
theorem dX6_reads_332 : decode cX6_reads 332 = .ok (.iaload, 1) := by decide +kernel
theorem dX6_reads_333 : decode cX6_reads 333 = .ok (.iload 5, 2) := by decide +kernel
theorem dX6_reads_335 : decode cX6_reads 335 = .ok (.iconst 1, 1) := by decide +kernel
theorem dX6_reads_336 : decode cX6_reads 336 = .ok (.iadd, 1) := by decide +kernel
theorem dX6_reads_337 : decode cX6_reads 337 = .ok (.invokevirtual 188, 3) := by decide +kernel
theorem dX6_reads_340 : decode cX6_reads 340 = .ok (.istore 8, 2) := by decide +kernel
theorem dX6_reads_342 : decode cX6_reads 342 = .ok (.goto (-46), 3) := by decide +kernel
theorem dX6_reads_345 : decode cX6_reads 345 = .ok (.iload_n 2, 1) := by decide +kernel
theorem dX6_reads_346 : decode cX6_reads 346 = .ok (.ifCond .ne 7, 3) := by decide +kernel
theorem dX6_reads_349 : decode cX6_reads 349 = .ok (.iconst 1, 1) := by decide +kernel
theorem dX6_reads_350 : decode cX6_reads 350 = .ok (.goto 4, 3) := by decide +kernel
theorem dX6_reads_353 : decode cX6_reads 353 = .ok (.iconst 0, 1) := by decide +kernel
theorem dX6_reads_354 : decode cX6_reads 354 = .ok (.istore_n 3, 1) := by decide +kernel
theorem dX6_reads_355 : decode cX6_reads 355 = .ok (.iconst 0, 1) := by decide +kernel
theorem dX6_reads_356 : decode cX6_reads 356 = .ok (.istore 4, 2) := by decide +kernel
theorem dX6_reads_358 : decode cX6_reads 358 = .ok (.iload_n 3, 1) := by decide +kernel
theorem dX6_reads_359 : decode cX6_reads 359 = .ok (.ifCond .ne 65, 3) := by decide +kernel
theorem dX6_reads_362 : decode cX6_reads 362 = .ok (.aload_n 0, 1) := by decide +kernel
theorem dX6_reads_363 : decode cX6_reads 363 = .ok (.getfield 71, 3) := by decide +kernel
theorem dX6_reads_366 : decode cX6_reads 366 = .ok (.iload_n 2, 1) := by decide +kernel
theorem dX6_reads_367 : decode cX6_reads 367 = .ok (.iconst 1, 1) := by decide +kernel
theorem dX6_reads_368 : decode cX6_reads 368 = .ok (.isub, 1) := by decide +kernel
theorem dX6_reads_369 : decode cX6_reads 369 = .ok (.iaload, 1) := by decide +kernel
theorem dX6_reads_370 : decode cX6_reads 370 = .ok (.ifCond .ne 7, 3) := by decide +kernel
theorem dX6_reads_373 : decode cX6_reads 373 = .ok (.iconst 1, 1) := by decide +kernel
theorem dX6_reads_374 : decode cX6_reads 374 = .ok (.goto 4, 3) := by decide +kernel
theorem dX6_reads_377 : decode cX6_reads 377 = .ok (.iconst 0, 1) := by decide +kernel
theorem dX6_reads_378 : decode cX6_reads 378 = .ok (.istore 9, 2) := by decide +kernel
theorem dX6_reads_380 : decode cX6_reads 380 = .ok (.aload_n 0, 1) := by decide +kernel
theorem dX6_reads_381 : decode cX6_reads 381 = .ok (.getfield 68, 3) := by decide +kernel
theorem dX6_reads_384 : decode cX6_reads 384 = .ok (.iload_n 2, 1) := by decide +kernel
theorem dX6_reads_385 : decode cX6_reads 385 = .ok (.iconst 1, 1) := by decide +kernel
theorem dX6_reads_386 : decode cX6_reads 386 = .ok (.isub, 1) := by decide +kernel
theorem dX6_reads_387 : decode cX6_reads 387 = .ok (.iload 9, 2) := by decide +kernel
theorem dX6_reads_389 : decode cX6_reads 389 = .ok (.ifCond .eq 8, 3) := by decide +kernel
theorem dX6_reads_392 : decode cX6_reads 392 = .ok (.iload 8, 2) := by decide +kernel
theorem dX6_reads_394 : decode cX6_reads 394 = .ok (.goto 11, 3) := by decide +kernel
theorem dX6_reads_397 : decode cX6_reads 397 = .ok (.aload_n 0, 1) := by decide +kernel
theorem dX6_reads_398 : decode cX6_reads 398 = .ok (.getfield 68, 3) := by decide +kernel
theorem dX6_reads_401 : decode cX6_reads 401 = .ok (.iload_n 2, 1) := by decide +kernel
theorem dX6_reads_402 : decode cX6_reads 402 = .ok (.iconst 1, 1) := by decide +kernel
theorem dX6_reads_403 : decode cX6_reads 403 = .ok (.isub, 1) := by decide +kernel
theorem dX6_reads_404 : decode cX6_reads 404 = .ok (.iaload, 1) := by decide +kernel
theorem dX6_reads_405 : decode cX6_reads 405 = .ok (.iastore, 1) := by decide +kernel
theorem dX6_reads_406 : decode cX6_reads 406 = .ok (.aload_n 0, 1) := by decide +kernel
theorem dX6_reads_407 : decode cX6_reads 407 = .ok (.getfield 71, 3) := by decide +kernel
theorem dX6_reads_410 : decode cX6_reads 410 = .ok (.iload_n 2, 1) := by decide +kernel
theorem dX6_reads_411 : decode cX6_reads 411 = .ok (.iconst 1, 1) := by decide +kernel
theorem dX6_reads_412 : decode cX6_reads 412 = .ok (.isub, 1) := by decide +kernel
theorem dX6_reads_413 : decode cX6_reads 413 = .ok (.iload 9, 2) := by decide +kernel
theorem dX6_reads_415 : decode cX6_reads 415 = .ok (.ifCond .eq 7, 3) := by decide +kernel
theorem dX6_reads_418 : decode cX6_reads 418 = .ok (.iconst 1, 1) := by decide +kernel
theorem dX6_reads_419 : decode cX6_reads 419 = .ok (.goto 4, 3) := by decide +kernel
theorem dX6_reads_422 : decode cX6_reads 422 = .ok (.iconst 3, 1) := by decide +kernel
theorem dX6_reads_423 : decode cX6_reads 423 = .ok (.iastore, 1) := by decide +kernel
theorem dX6_reads_424 : decode cX6_reads 424 = .ok (.iinc 5 1, 3) := by decide +kernel
theorem dX6_reads_427 : decode cX6_reads 427 = .ok (.goto (-410), 3) := by decide +kernel
theorem dX6_reads_430 : decode cX6_reads 430 = .ok (.aload_n 0, 1) := by decide +kernel
theorem dX6_reads_431 : decode cX6_reads 431 = .ok (.aload_n 0, 1) := by decide +kernel
theorem dX6_reads_432 : decode cX6_reads 432 = .ok (.getfield 171, 3) := by decide +kernel
theorem dX6_reads_435 : decode cX6_reads 435 = .ok (.putfield 179, 3) := by decide +kernel
theorem dX6_reads_438 : decode cX6_reads 438 = .ok (.iload_n 3, 1) := by decide +kernel
theorem dX6_reads_439 : decode cX6_reads 439 = .ok (.ireturn, 1) := by decide +kernel
theorem dX6_read_0 : decode cX6_read 0 = .ok (.aload_n 0, 1) := by decide +kernel
theorem dX6_read_1 : decode cX6_read 1 = .ok (.iconst 0, 1) := by decide +kernel
theorem dX6_read_2 : decode cX6_read 2 = .ok (.putfield 132, 3) := by decide +kernel
theorem dX6_read_5 : decode cX6_read 5 = .ok (.iload_n 1, 1) := by decide +kernel
theorem dX6_read_6 : decode cX6_read 6 = .ok (.invokestatic 195, 3) := by decide +kernel
theorem dX6_read_9 : decode cX6_read 9 = .ok (.ifCond .ne 5, 3) := by decide +kernel
theorem dX6_read_12 : decode cX6_read 12 = .ok (.iconst (-1), 1) := by decide +kernel
theorem dX6_read_13 : decode cX6_read 13 = .ok (.ireturn, 1) := by decide +kernel
theorem dX6_read_14 : decode cX6_read 14 = .ok (.aload_n 0, 1) := by decide +kernel
theorem dX6_read_15 : decode cX6_read 15 = .ok (.invokevirtual 198, 3) := by decide +kernel
theorem dX6_read_18 : decode cX6_read 18 = .ok (.ifCond .ne 11, 3) := by decide +kernel
theorem dX6_read_21 : decode cX6_read 21 = .ok (.bipush (-10), 2) := by decide +kernel
theorem dX6_read_23 : decode cX6_read 23 = .ok (.aload_n 0, 1) := by decide +kernel
theorem dX6_read_24 : decode cX6_read 24 = .ok (.getfield 179, 3) := by decide +kernel
theorem dX6_read_27 : decode cX6_read 27 = .ok (.isub, 1) := by decide +kernel
theorem dX6_read_28 : decode cX6_read 28 = .ok (.ireturn, 1) := by decide +kernel
theorem dX6_read_29 : decode cX6_read 29 = .ok (.iconst 0, 1) := by decide +kernel
theorem dX6_read_30 : decode cX6_read 30 = .ok (.istore_n 2, 1) := by decide +kernel
theorem dX6_read_31 : decode cX6_read 31 = .ok (.iload_n 2, 1) := by decide +kernel
theorem dX6_read_32 : decode cX6_read 32 = .ok (.aload_n 0, 1) := by decide +kernel
theorem dX6_read_33 : decode cX6_read 33 = .ok (.getfield 171, 3) := by decide +kernel
theorem dX6_read_36 : decode cX6_read 36 = .ok (.if_icmp .ge 27, 3) := by decide +kernel
theorem dX6_read_39 : decode cX6_read 39 = .ok (.aload_n 0, 1) := by decide +kernel
theorem dX6_read_40 : decode cX6_read 40 = .ok (.getfield 23, 3) := by decide +kernel
theorem dX6_read_43 : decode cX6_read 43 = .ok (.sipush 200, 3) := by decide +kernel
theorem dX6_read_46 : decode cX6_read 46 = .ok (.iload_n 1, 1) := by decide +kernel
theorem dX6_read_47 : decode cX6_read 47 = .ok (.imul, 1) := by decide +kernel
theorem dX6_read_48 : decode cX6_read 48 = .ok (.iload_n 2, 1) := by decide +kernel
theorem dX6_read_49 : decode cX6_read 49 = .ok (.iadd, 1) := by decide +kernel
theorem dX6_read_50 : decode cX6_read 50 = .ok (.aload_n 0, 1) := by decide +kernel
theorem dX6_read_51 : decode cX6_read 51 = .ok (.getfield 20, 3) := by decide +kernel
theorem dX6_read_54 : decode cX6_read 54 = .ok (.iload_n 2, 1) := by decide +kernel
theorem dX6_read_55 : decode cX6_read 55 = .ok (.iaload, 1) := by decide +kernel
theorem dX6_read_56 : decode cX6_read 56 = .ok (.iastore, 1) := by decide +kernel
theorem dX6_read_57 : decode cX6_read 57 = .ok (.iinc 2 1, 3) := by decide +kernel
theorem dX6_read_60 : decode cX6_read 60 = .ok (.goto (-29), 3) := by decide +kernel
theorem dX6_read_63 : decode cX6_read 63 = .ok (.aload_n 0, 1) := by decide +kernel
theorem dX6_read_64 : decode cX6_read 64 = .ok (.getfield 26, 3) := by decide +kernel
theorem dX6_read_67 : decode cX6_read 67 = .ok (.iload_n 1, 1) := by decide +kernel
theorem dX6_read_68 : decode cX6_read 68 = .ok (.aload_n 0, 1) := by decide +kernel
theorem dX6_read_69 : decode cX6_read 69 = .ok (.getfield 171, 3) := by decide +kernel
theorem dX6_read_72 : decode cX6_read 72 = .ok (.iastore, 1) := by decide +kernel
theorem dX6_read_73 : decode cX6_read 73 = .ok (.aload_n 0, 1) := by decide +kernel
theorem dX6_read_74 : decode cX6_read 74 = .ok (.iconst 0, 1) := by decide +kernel
theorem dX6_read_75 : decode cX6_read 75 = .ok (.putfield 171, 3) := by decide +kernel
theorem dX6_read_78 : decode cX6_read 78 = .ok (.aload_n 0, 1) := by decide +kernel
theorem dX6_read_79 : decode cX6_read 79 = .ok (.getfield 29, 3) := by decide +kernel
theorem dX6_read_82 : decode cX6_read 82 = .ok (.iload_n 1, 1) := by decide +kernel
theorem dX6_read_83 : decode cX6_read 83 = .ok (.aload_n 0, 1) := by decide +kernel
theorem dX6_read_84 : decode cX6_read 84 = .ok (.getfield 176, 3) := by decide +kernel
theorem dX6_read_87 : decode cX6_read 87 = .ok (.iastore, 1) := by decide +kernel
theorem dX6_read_88 : decode cX6_read 88 = .ok (.iconst 0, 1) := by decide +kernel
theorem dX6_read_89 : decode cX6_read 89 = .ok (.istore_n 2, 1) := by decide +kernel
theorem dX6_read_90 : decode cX6_read 90 = .ok (.iload_n 2, 1) := by decide +kernel
theorem dX6_read_91 : decode cX6_read 91 = .ok (.aload_n 0, 1) := by decide +kernel
theorem dX6_read_92 : decode cX6_read 92 = .ok (.getfield 176, 3) := by decide +kernel
theorem dX6_read_95 : decode cX6_read 95 = .ok (.if_icmp .ge 76, 3) := by decide +kernel
theorem dX6_read_98 : decode cX6_read 98 = .ok (.bipush 40, 2) := by decide +kernel
theorem dX6_read_100 : decode cX6_read 100 = .ok (.iload_n 1, 1) := by decide +kernel
theorem dX6_read_101 : decode cX6_read 101 = .ok (.imul, 1) := by decide +kernel
theorem dX6_read_102 : decode cX6_read 102 = .ok (.iload_n 2, 1) := by decide +kernel
theorem dX6_read_103 : decode cX6_read 103 = .ok (.iadd, 1) := by decide +kernel
theorem dX6_read_104 : decode cX6_read 104 = .ok (.istore_n 3, 1) := by decide +kernel
theorem dX6_read_105 : decode cX6_read 105 = .ok (.aload_n 0, 1) := by decide +kernel
theorem dX6_read_106 : decode cX6_read 106 = .ok (.getfield 32, 3) := by decide +kernel
theorem dX6_read_109 : decode cX6_read 109 = .ok (.iload_n 3, 1) := by decide +kernel
theorem dX6_read_110 : decode cX6_read 110 = .ok (.aload_n 0, 1) := by decide +kernel
theorem dX6_read_111 : decode cX6_read 111 = .ok (.getfield 47, 3) := by decide +kernel
theorem dX6_read_114 : decode cX6_read 114 = .ok (.iload_n 2, 1) := by decide +kernel
theorem dX6_read_115 : decode cX6_read 115 = .ok (.iaload, 1) := by decide +kernel
theorem dX6_read_116 : decode cX6_read 116 = .ok (.iastore, 1) := by decide +kernel
theorem dX6_read_117 : decode cX6_read 117 = .ok (.aload_n 0, 1) := by decide +kernel
theorem dX6_read_118 : decode cX6_read 118 = .ok (.getfield 35, 3) := by decide +kernel
theorem dX6_read_121 : decode cX6_read 121 = .ok (.iload_n 3, 1) := by decide +kernel
theorem dX6_read_122 : decode cX6_read 122 = .ok (.aload_n 0, 1) := by decide +kernel
theorem dX6_read_123 : decode cX6_read 123 = .ok (.getfield 50, 3) := by decide +kernel
theorem dX6_read_126 : decode cX6_read 126 = .ok (.iload_n 2, 1) := by decide +kernel
theorem dX6_read_127 : decode cX6_read 127 = .ok (.iaload, 1) := by decide +kernel
theorem dX6_read_128 : decode cX6_read 128 = .ok (.iastore, 1) := by decide +kernel
theorem dX6_read_129 : decode cX6_read 129 = .ok (.aload_n 0, 1) := by decide +kernel
theorem dX6_read_130 : decode cX6_read 130 = .ok (.getfield 38, 3) := by decide +kernel
theorem dX6_read_133 : decode cX6_read 133 = .ok (.iload_n 3, 1) := by decide +kernel
theorem dX6_read_134 : decode cX6_read 134 = .ok (.aload_n 0, 1) := by decide +kernel
theorem dX6_read_135 : decode cX6_read 135 = .ok (.getfield 53, 3) := by decide +kernel
theorem dX6_read_138 : decode cX6_read 138 = .ok (.iload_n 2, 1) := by decide +kernel
theorem dX6_read_139 : decode cX6_read 139 = .ok (.iaload, 1) := by decide +kernel
theorem dX6_read_140 : decode cX6_read 140 = .ok (.iastore, 1) := by decide +kernel
theorem dX6_read_141 : decode cX6_read 141 = .ok (.aload_n 0, 1) := by decide +kernel
theorem dX6_read_142 : decode cX6_read 142 = .ok (.getfield 41, 3) := by decide +kernel
theorem dX6_read_145 : decode cX6_read 145 = .ok (.iload_n 3, 1) := by decide +kernel
theorem dX6_read_146 : decode cX6_read 146 = .ok (.aload_n 0, 1) := by decide +kernel
theorem dX6_read_147 : decode cX6_read 147 = .ok (.getfield 56, 3) := by decide +kernel
theorem dX6_read_150 : decode cX6_read 150 = .ok (.iload_n 2, 1) := by decide +kernel
theorem dX6_read_151 : decode cX6_read 151 = .ok (.iaload, 1) := by decide +kernel
theorem dX6_read_152 : decode cX6_read 152 = .ok (.iastore, 1) := by decide +kernel
theorem dX6_read_153 : decode cX6_read 153 = .ok (.aload_n 0, 1) := by decide +kernel
theorem dX6_read_154 : decode cX6_read 154 = .ok (.getfield 44, 3) := by decide +kernel
theorem dX6_read_157 : decode cX6_read 157 = .ok (.iload_n 3, 1) := by decide +kernel
theorem dX6_read_158 : decode cX6_read 158 = .ok (.aload_n 0, 1) := by decide +kernel
theorem dX6_read_159 : decode cX6_read 159 = .ok (.getfield 59, 3) := by decide +kernel
theorem dX6_read_162 : decode cX6_read 162 = .ok (.iload_n 2, 1) := by decide +kernel
theorem dX6_read_163 : decode cX6_read 163 = .ok (.iaload, 1) := by decide +kernel
theorem dX6_read_164 : decode cX6_read 164 = .ok (.iastore, 1) := by decide +kernel
theorem dX6_read_165 : decode cX6_read 165 = .ok (.iinc 2 1, 3) := by decide +kernel
theorem dX6_read_168 : decode cX6_read 168 = .ok (.goto (-78), 3) := by decide +kernel
theorem dX6_read_171 : decode cX6_read 171 = .ok (.aload_n 0, 1) := by decide +kernel
theorem dX6_read_172 : decode cX6_read 172 = .ok (.getfield 176, 3) := by decide +kernel
theorem dX6_read_175 : decode cX6_read 175 = .ok (.ireturn, 1) := by decide +kernel
theorem dX6_takes_0 : decode cX6_takes 0 = .ok (.iconst 0, 1) := by decide +kernel
theorem dX6_takes_1 : decode cX6_takes 1 = .ok (.istore_n 2, 1) := by decide +kernel
theorem dX6_takes_2 : decode cX6_takes 2 = .ok (.iload_n 2, 1) := by decide +kernel
theorem dX6_takes_3 : decode cX6_takes 3 = .ok (.aload_n 0, 1) := by decide +kernel
theorem dX6_takes_4 : decode cX6_takes 4 = .ok (.getfield 29, 3) := by decide +kernel
theorem dX6_takes_7 : decode cX6_takes 7 = .ok (.iload_n 1, 1) := by decide +kernel
theorem dX6_takes_8 : decode cX6_takes 8 = .ok (.iaload, 1) := by decide +kernel
theorem dX6_takes_9 : decode cX6_takes 9 = .ok (.if_icmp .ge 109, 3) := by decide +kernel
theorem dX6_takes_12 : decode cX6_takes 12 = .ok (.bipush 40, 2) := by decide +kernel
theorem dX6_takes_14 : decode cX6_takes 14 = .ok (.iload_n 1, 1) := by decide +kernel
theorem dX6_takes_15 : decode cX6_takes 15 = .ok (.imul, 1) := by decide +kernel
theorem dX6_takes_16 : decode cX6_takes 16 = .ok (.iload_n 2, 1) := by decide +kernel
theorem dX6_takes_17 : decode cX6_takes 17 = .ok (.iadd, 1) := by decide +kernel
theorem dX6_takes_18 : decode cX6_takes 18 = .ok (.istore_n 3, 1) := by decide +kernel
theorem dX6_takes_19 : decode cX6_takes 19 = .ok (.aload_n 0, 1) := by decide +kernel
theorem dX6_takes_20 : decode cX6_takes 20 = .ok (.getfield 202, 3) := by decide +kernel
theorem dX6_takes_23 : decode cX6_takes 23 = .ok (.iload_n 2, 1) := by decide +kernel
theorem dX6_takes_24 : decode cX6_takes 24 = .ok (.iadd, 1) := by decide +kernel
theorem dX6_takes_25 : decode cX6_takes 25 = .ok (.istore 4, 2) := by decide +kernel
theorem dX6_takes_27 : decode cX6_takes 27 = .ok (.aload_n 0, 1) := by decide +kernel
theorem dX6_takes_28 : decode cX6_takes 28 = .ok (.getfield 77, 3) := by decide +kernel
theorem dX6_takes_31 : decode cX6_takes 31 = .ok (.iload 4, 2) := by decide +kernel
theorem dX6_takes_33 : decode cX6_takes 33 = .ok (.aload_n 0, 1) := by decide +kernel
theorem dX6_takes_34 : decode cX6_takes 34 = .ok (.getfield 32, 3) := by decide +kernel
theorem dX6_takes_37 : decode cX6_takes 37 = .ok (.iload_n 3, 1) := by decide +kernel
theorem dX6_takes_38 : decode cX6_takes 38 = .ok (.iaload, 1) := by decide +kernel
theorem dX6_takes_39 : decode cX6_takes 39 = .ok (.iastore, 1) := by decide +kernel
theorem dX6_takes_40 : decode cX6_takes 40 = .ok (.aload_n 0, 1) := by decide +kernel
theorem dX6_takes_41 : decode cX6_takes 41 = .ok (.getfield 80, 3) := by decide +kernel
theorem dX6_takes_44 : decode cX6_takes 44 = .ok (.iload 4, 2) := by decide +kernel
theorem dX6_takes_46 : decode cX6_takes 46 = .ok (.aload_n 0, 1) := by decide +kernel
theorem dX6_takes_47 : decode cX6_takes 47 = .ok (.getfield 35, 3) := by decide +kernel
theorem dX6_takes_50 : decode cX6_takes 50 = .ok (.iload_n 3, 1) := by decide +kernel
theorem dX6_takes_51 : decode cX6_takes 51 = .ok (.iaload, 1) := by decide +kernel
theorem dX6_takes_52 : decode cX6_takes 52 = .ok (.aload_n 0, 1) := by decide +kernel
theorem dX6_takes_53 : decode cX6_takes 53 = .ok (.getfield 202, 3) := by decide +kernel
theorem dX6_takes_56 : decode cX6_takes 56 = .ok (.iadd, 1) := by decide +kernel
theorem dX6_takes_57 : decode cX6_takes 57 = .ok (.iastore, 1) := by decide +kernel
theorem dX6_takes_58 : decode cX6_takes 58 = .ok (.aload_n 0, 1) := by decide +kernel
theorem dX6_takes_59 : decode cX6_takes 59 = .ok (.getfield 83, 3) := by decide +kernel
theorem dX6_takes_62 : decode cX6_takes 62 = .ok (.iload 4, 2) := by decide +kernel
theorem dX6_takes_64 : decode cX6_takes 64 = .ok (.aload_n 0, 1) := by decide +kernel
theorem dX6_takes_65 : decode cX6_takes 65 = .ok (.getfield 38, 3) := by decide +kernel
theorem dX6_takes_68 : decode cX6_takes 68 = .ok (.iload_n 3, 1) := by decide +kernel
theorem dX6_takes_69 : decode cX6_takes 69 = .ok (.iaload, 1) := by decide +kernel
theorem dX6_takes_70 : decode cX6_takes 70 = .ok (.aload_n 0, 1) := by decide +kernel
theorem dX6_takes_71 : decode cX6_takes 71 = .ok (.getfield 202, 3) := by decide +kernel
theorem dX6_takes_74 : decode cX6_takes 74 = .ok (.iadd, 1) := by decide +kernel
theorem dX6_takes_75 : decode cX6_takes 75 = .ok (.iastore, 1) := by decide +kernel
theorem dX6_takes_76 : decode cX6_takes 76 = .ok (.aload_n 0, 1) := by decide +kernel
theorem dX6_takes_77 : decode cX6_takes 77 = .ok (.getfield 86, 3) := by decide +kernel
theorem dX6_takes_80 : decode cX6_takes 80 = .ok (.iload 4, 2) := by decide +kernel
theorem dX6_takes_82 : decode cX6_takes 82 = .ok (.aload_n 0, 1) := by decide +kernel
theorem dX6_takes_83 : decode cX6_takes 83 = .ok (.getfield 41, 3) := by decide +kernel
theorem dX6_takes_86 : decode cX6_takes 86 = .ok (.iload_n 3, 1) := by decide +kernel
theorem dX6_takes_87 : decode cX6_takes 87 = .ok (.iaload, 1) := by decide +kernel
theorem dX6_takes_88 : decode cX6_takes 88 = .ok (.aload_n 0, 1) := by decide +kernel
theorem dX6_takes_89 : decode cX6_takes 89 = .ok (.getfield 205, 3) := by decide +kernel
theorem dX6_takes_92 : decode cX6_takes 92 = .ok (.iadd, 1) := by decide +kernel
theorem dX6_takes_93 : decode cX6_takes 93 = .ok (.iastore, 1) := by decide +kernel
theorem dX6_takes_94 : decode cX6_takes 94 = .ok (.aload_n 0, 1) := by decide +kernel
theorem dX6_takes_95 : decode cX6_takes 95 = .ok (.getfield 89, 3) := by decide +kernel
theorem dX6_takes_98 : decode cX6_takes 98 = .ok (.iload 4, 2) := by decide +kernel
theorem dX6_takes_100 : decode cX6_takes 100 = .ok (.aload_n 0, 1) := by decide +kernel
theorem dX6_takes_101 : decode cX6_takes 101 = .ok (.getfield 44, 3) := by decide +kernel
theorem dX6_takes_104 : decode cX6_takes 104 = .ok (.iload_n 3, 1) := by decide +kernel
theorem dX6_takes_105 : decode cX6_takes 105 = .ok (.iaload, 1) := by decide +kernel
theorem dX6_takes_106 : decode cX6_takes 106 = .ok (.aload_n 0, 1) := by decide +kernel
theorem dX6_takes_107 : decode cX6_takes 107 = .ok (.getfield 205, 3) := by decide +kernel
theorem dX6_takes_110 : decode cX6_takes 110 = .ok (.iadd, 1) := by decide +kernel
theorem dX6_takes_111 : decode cX6_takes 111 = .ok (.iastore, 1) := by decide +kernel
theorem dX6_takes_112 : decode cX6_takes 112 = .ok (.iinc 2 1, 3) := by decide +kernel
theorem dX6_takes_115 : decode cX6_takes 115 = .ok (.goto (-113), 3) := by decide +kernel
theorem dX6_takes_118 : decode cX6_takes 118 = .ok (.iconst 0, 1) := by decide +kernel
theorem dX6_takes_119 : decode cX6_takes 119 = .ok (.istore_n 2, 1) := by decide +kernel
theorem dX6_takes_120 : decode cX6_takes 120 = .ok (.iload_n 2, 1) := by decide +kernel
theorem dX6_takes_121 : decode cX6_takes 121 = .ok (.aload_n 0, 1) := by decide +kernel
theorem dX6_takes_122 : decode cX6_takes 122 = .ok (.getfield 26, 3) := by decide +kernel
theorem dX6_takes_125 : decode cX6_takes 125 = .ok (.iload_n 1, 1) := by decide +kernel
theorem dX6_takes_126 : decode cX6_takes 126 = .ok (.iaload, 1) := by decide +kernel
theorem dX6_takes_127 : decode cX6_takes 127 = .ok (.if_icmp .ge 32, 3) := by decide +kernel
theorem dX6_takes_130 : decode cX6_takes 130 = .ok (.aload_n 0, 1) := by decide +kernel
theorem dX6_takes_131 : decode cX6_takes 131 = .ok (.getfield 74, 3) := by decide +kernel
theorem dX6_takes_134 : decode cX6_takes 134 = .ok (.aload_n 0, 1) := by decide +kernel
theorem dX6_takes_135 : decode cX6_takes 135 = .ok (.getfield 205, 3) := by decide +kernel
theorem dX6_takes_138 : decode cX6_takes 138 = .ok (.iload_n 2, 1) := by decide +kernel
theorem dX6_takes_139 : decode cX6_takes 139 = .ok (.iadd, 1) := by decide +kernel
theorem dX6_takes_140 : decode cX6_takes 140 = .ok (.aload_n 0, 1) := by decide +kernel
theorem dX6_takes_141 : decode cX6_takes 141 = .ok (.getfield 23, 3) := by decide +kernel
theorem dX6_takes_144 : decode cX6_takes 144 = .ok (.sipush 200, 3) := by decide +kernel
theorem dX6_takes_147 : decode cX6_takes 147 = .ok (.iload_n 1, 1) := by decide +kernel
theorem dX6_takes_148 : decode cX6_takes 148 = .ok (.imul, 1) := by decide +kernel
theorem dX6_takes_149 : decode cX6_takes 149 = .ok (.iload_n 2, 1) := by decide +kernel
theorem dX6_takes_150 : decode cX6_takes 150 = .ok (.iadd, 1) := by decide +kernel
theorem dX6_takes_151 : decode cX6_takes 151 = .ok (.iaload, 1) := by decide +kernel
theorem dX6_takes_152 : decode cX6_takes 152 = .ok (.iastore, 1) := by decide +kernel
theorem dX6_takes_153 : decode cX6_takes 153 = .ok (.iinc 2 1, 3) := by decide +kernel
theorem dX6_takes_156 : decode cX6_takes 156 = .ok (.goto (-36), 3) := by decide +kernel
theorem dX6_takes_159 : decode cX6_takes 159 = .ok (.aload_n 0, 1) := by decide +kernel
theorem dX6_takes_160 : decode cX6_takes 160 = .ok (.dup, 1) := by decide +kernel
theorem dX6_takes_161 : decode cX6_takes 161 = .ok (.getfield 202, 3) := by decide +kernel
theorem dX6_takes_164 : decode cX6_takes 164 = .ok (.aload_n 0, 1) := by decide +kernel
theorem dX6_takes_165 : decode cX6_takes 165 = .ok (.getfield 29, 3) := by decide +kernel
theorem dX6_takes_168 : decode cX6_takes 168 = .ok (.iload_n 1, 1) := by decide +kernel
theorem dX6_takes_169 : decode cX6_takes 169 = .ok (.iaload, 1) := by decide +kernel
theorem dX6_takes_170 : decode cX6_takes 170 = .ok (.iadd, 1) := by decide +kernel
theorem dX6_takes_171 : decode cX6_takes 171 = .ok (.putfield 202, 3) := by decide +kernel
theorem dX6_takes_174 : decode cX6_takes 174 = .ok (.aload_n 0, 1) := by decide +kernel
theorem dX6_takes_175 : decode cX6_takes 175 = .ok (.dup, 1) := by decide +kernel
theorem dX6_takes_176 : decode cX6_takes 176 = .ok (.getfield 205, 3) := by decide +kernel
theorem dX6_takes_179 : decode cX6_takes 179 = .ok (.aload_n 0, 1) := by decide +kernel
theorem dX6_takes_180 : decode cX6_takes 180 = .ok (.getfield 26, 3) := by decide +kernel
theorem dX6_takes_183 : decode cX6_takes 183 = .ok (.iload_n 1, 1) := by decide +kernel
theorem dX6_takes_184 : decode cX6_takes 184 = .ok (.iaload, 1) := by decide +kernel
theorem dX6_takes_185 : decode cX6_takes 185 = .ok (.iadd, 1) := by decide +kernel
theorem dX6_takes_186 : decode cX6_takes 186 = .ok (.putfield 205, 3) := by decide +kernel
theorem dX6_takes_189 : decode cX6_takes 189 = .ok (.return_, 1) := by decide +kernel
theorem dX6_works_0 : decode cX6_works 0 = .ok (.aload_n 0, 1) := by decide +kernel
theorem dX6_works_1 : decode cX6_works 1 = .ok (.iconst 0, 1) := by decide +kernel
theorem dX6_works_2 : decode cX6_works 2 = .ok (.putfield 202, 3) := by decide +kernel
theorem dX6_works_5 : decode cX6_works 5 = .ok (.aload_n 0, 1) := by decide +kernel
theorem dX6_works_6 : decode cX6_works 6 = .ok (.iconst 0, 1) := by decide +kernel
theorem dX6_works_7 : decode cX6_works 7 = .ok (.putfield 205, 3) := by decide +kernel
theorem dX6_works_10 : decode cX6_works 10 = .ok (.aload_n 0, 1) := by decide +kernel
theorem dX6_works_11 : decode cX6_works 11 = .ok (.iload_n 1, 1) := by decide +kernel
theorem dX6_works_12 : decode cX6_works 12 = .ok (.invokevirtual 208, 3) := by decide +kernel
theorem dX6_works_15 : decode cX6_works 15 = .ok (.return_, 1) := by decide +kernel
theorem dX6_isLike_0 : decode cX6_isLike 0 = .ok (.aload_n 0, 1) := by decide +kernel
theorem dX6_isLike_1 : decode cX6_isLike 1 = .ok (.getfield 89, 3) := by decide +kernel
theorem dX6_isLike_4 : decode cX6_isLike 4 = .ok (.iload_n 1, 1) := by decide +kernel
theorem dX6_isLike_5 : decode cX6_isLike 5 = .ok (.iaload, 1) := by decide +kernel
theorem dX6_isLike_6 : decode cX6_isLike 6 = .ok (.aload_n 0, 1) := by decide +kernel
theorem dX6_isLike_7 : decode cX6_isLike 7 = .ok (.getfield 86, 3) := by decide +kernel
theorem dX6_isLike_10 : decode cX6_isLike 10 = .ok (.iload_n 1, 1) := by decide +kernel
theorem dX6_isLike_11 : decode cX6_isLike 11 = .ok (.iaload, 1) := by decide +kernel
theorem dX6_isLike_12 : decode cX6_isLike 12 = .ok (.isub, 1) := by decide +kernel
theorem dX6_isLike_13 : decode cX6_isLike 13 = .ok (.istore_n 3, 1) := by decide +kernel
theorem dX6_isLike_14 : decode cX6_isLike 14 = .ok (.iload_n 3, 1) := by decide +kernel
theorem dX6_isLike_15 : decode cX6_isLike 15 = .ok (.aload_n 0, 1) := by decide +kernel
theorem dX6_isLike_16 : decode cX6_isLike 16 = .ok (.getfield 89, 3) := by decide +kernel
theorem dX6_isLike_19 : decode cX6_isLike 19 = .ok (.iload_n 2, 1) := by decide +kernel
theorem dX6_isLike_20 : decode cX6_isLike 20 = .ok (.iaload, 1) := by decide +kernel
theorem dX6_isLike_21 : decode cX6_isLike 21 = .ok (.aload_n 0, 1) := by decide +kernel
theorem dX6_isLike_22 : decode cX6_isLike 22 = .ok (.getfield 86, 3) := by decide +kernel
theorem dX6_isLike_25 : decode cX6_isLike 25 = .ok (.iload_n 2, 1) := by decide +kernel
theorem dX6_isLike_26 : decode cX6_isLike 26 = .ok (.iaload, 1) := by decide +kernel
theorem dX6_isLike_27 : decode cX6_isLike 27 = .ok (.isub, 1) := by decide +kernel
theorem dX6_isLike_28 : decode cX6_isLike 28 = .ok (.if_icmp .ne 7, 3) := by decide +kernel
theorem dX6_isLike_31 : decode cX6_isLike 31 = .ok (.iconst 1, 1) := by decide +kernel
theorem dX6_isLike_32 : decode cX6_isLike 32 = .ok (.goto 4, 3) := by decide +kernel
theorem dX6_isLike_35 : decode cX6_isLike 35 = .ok (.iconst 0, 1) := by decide +kernel
theorem dX6_isLike_36 : decode cX6_isLike 36 = .ok (.istore 4, 2) := by decide +kernel
theorem dX6_isLike_38 : decode cX6_isLike 38 = .ok (.iconst 0, 1) := by decide +kernel
theorem dX6_isLike_39 : decode cX6_isLike 39 = .ok (.istore 5, 2) := by decide +kernel
theorem dX6_isLike_41 : decode cX6_isLike 41 = .ok (.iload 5, 2) := by decide +kernel
theorem dX6_isLike_43 : decode cX6_isLike 43 = .ok (.iload_n 3, 1) := by decide +kernel
theorem dX6_isLike_44 : decode cX6_isLike 44 = .ok (.if_icmp .ge 52, 3) := by decide +kernel
theorem dX6_isLike_47 : decode cX6_isLike 47 = .ok (.iload 4, 2) := by decide +kernel
theorem dX6_isLike_49 : decode cX6_isLike 49 = .ok (.ifCond .eq 47, 3) := by decide +kernel
theorem dX6_isLike_52 : decode cX6_isLike 52 = .ok (.aload_n 0, 1) := by decide +kernel
theorem dX6_isLike_53 : decode cX6_isLike 53 = .ok (.getfield 74, 3) := by decide +kernel
theorem dX6_isLike_56 : decode cX6_isLike 56 = .ok (.aload_n 0, 1) := by decide +kernel
theorem dX6_isLike_57 : decode cX6_isLike 57 = .ok (.getfield 86, 3) := by decide +kernel
theorem dX6_isLike_60 : decode cX6_isLike 60 = .ok (.iload_n 1, 1) := by decide +kernel
theorem dX6_isLike_61 : decode cX6_isLike 61 = .ok (.iaload, 1) := by decide +kernel
theorem dX6_isLike_62 : decode cX6_isLike 62 = .ok (.iload 5, 2) := by decide +kernel
theorem dX6_isLike_64 : decode cX6_isLike 64 = .ok (.iadd, 1) := by decide +kernel
theorem dX6_isLike_65 : decode cX6_isLike 65 = .ok (.iaload, 1) := by decide +kernel
theorem dX6_isLike_66 : decode cX6_isLike 66 = .ok (.aload_n 0, 1) := by decide +kernel
theorem dX6_isLike_67 : decode cX6_isLike 67 = .ok (.getfield 74, 3) := by decide +kernel
theorem dX6_isLike_70 : decode cX6_isLike 70 = .ok (.aload_n 0, 1) := by decide +kernel
theorem dX6_isLike_71 : decode cX6_isLike 71 = .ok (.getfield 86, 3) := by decide +kernel
theorem dX6_isLike_74 : decode cX6_isLike 74 = .ok (.iload_n 2, 1) := by decide +kernel
theorem dX6_isLike_75 : decode cX6_isLike 75 = .ok (.iaload, 1) := by decide +kernel
theorem dX6_isLike_76 : decode cX6_isLike 76 = .ok (.iload 5, 2) := by decide +kernel
theorem dX6_isLike_78 : decode cX6_isLike 78 = .ok (.iadd, 1) := by decide +kernel
theorem dX6_isLike_79 : decode cX6_isLike 79 = .ok (.iaload, 1) := by decide +kernel
theorem dX6_isLike_80 : decode cX6_isLike 80 = .ok (.if_icmp .ne 7, 3) := by decide +kernel
theorem dX6_isLike_83 : decode cX6_isLike 83 = .ok (.iconst 1, 1) := by decide +kernel
theorem dX6_isLike_84 : decode cX6_isLike 84 = .ok (.goto 4, 3) := by decide +kernel
theorem dX6_isLike_87 : decode cX6_isLike 87 = .ok (.iconst 0, 1) := by decide +kernel
theorem dX6_isLike_88 : decode cX6_isLike 88 = .ok (.istore 4, 2) := by decide +kernel
theorem dX6_isLike_90 : decode cX6_isLike 90 = .ok (.iinc 5 1, 3) := by decide +kernel
theorem dX6_isLike_93 : decode cX6_isLike 93 = .ok (.goto (-52), 3) := by decide +kernel
theorem dX6_isLike_96 : decode cX6_isLike 96 = .ok (.iload 4, 2) := by decide +kernel
theorem dX6_isLike_98 : decode cX6_isLike 98 = .ok (.ireturn, 1) := by decide +kernel
theorem dX6_isModal_0 : decode cX6_isModal 0 = .ok (.aload_n 0, 1) := by decide +kernel
theorem dX6_isModal_1 : decode cX6_isModal 1 = .ok (.getfield 77, 3) := by decide +kernel
theorem dX6_isModal_4 : decode cX6_isModal 4 = .ok (.iload_n 1, 1) := by decide +kernel
theorem dX6_isModal_5 : decode cX6_isModal 5 = .ok (.iaload, 1) := by decide +kernel
theorem dX6_isModal_6 : decode cX6_isModal 6 = .ok (.bipush 91, 2) := by decide +kernel
theorem dX6_isModal_8 : decode cX6_isModal 8 = .ok (.if_icmp .eq 14, 3) := by decide +kernel
theorem dX6_isModal_11 : decode cX6_isModal 11 = .ok (.aload_n 0, 1) := by decide +kernel
theorem dX6_isModal_12 : decode cX6_isModal 12 = .ok (.getfield 77, 3) := by decide +kernel
theorem dX6_isModal_15 : decode cX6_isModal 15 = .ok (.iload_n 1, 1) := by decide +kernel
theorem dX6_isModal_16 : decode cX6_isModal 16 = .ok (.iaload, 1) := by decide +kernel
theorem dX6_isModal_17 : decode cX6_isModal 17 = .ok (.bipush 123, 2) := by decide +kernel
theorem dX6_isModal_19 : decode cX6_isModal 19 = .ok (.if_icmp .ne 7, 3) := by decide +kernel
theorem dX6_isModal_22 : decode cX6_isModal 22 = .ok (.iconst 1, 1) := by decide +kernel
theorem dX6_isModal_23 : decode cX6_isModal 23 = .ok (.goto 4, 3) := by decide +kernel
theorem dX6_isModal_26 : decode cX6_isModal 26 = .ok (.iconst 0, 1) := by decide +kernel
theorem dX6_isModal_27 : decode cX6_isModal 27 = .ok (.ireturn, 1) := by decide +kernel
theorem dX6_atomsOf_0 : decode cX6_atomsOf 0 = .ok (.iconst 0, 1) := by decide +kernel
theorem dX6_atomsOf_1 : decode cX6_atomsOf 1 = .ok (.istore_n 1, 1) := by decide +kernel
theorem dX6_atomsOf_2 : decode cX6_atomsOf 2 = .ok (.iconst 0, 1) := by decide +kernel
theorem dX6_atomsOf_3 : decode cX6_atomsOf 3 = .ok (.istore_n 2, 1) := by decide +kernel
theorem dX6_atomsOf_4 : decode cX6_atomsOf 4 = .ok (.iload_n 2, 1) := by decide +kernel
theorem dX6_atomsOf_5 : decode cX6_atomsOf 5 = .ok (.aload_n 0, 1) := by decide +kernel
theorem dX6_atomsOf_6 : decode cX6_atomsOf 6 = .ok (.getfield 202, 3) := by decide +kernel
theorem dX6_atomsOf_9 : decode cX6_atomsOf 9 = .ok (.if_icmp .ge 39, 3) := by decide +kernel
theorem dX6_atomsOf_12 : decode cX6_atomsOf 12 = .ok (.iload_n 1, 1) := by decide +kernel
theorem dX6_atomsOf_13 : decode cX6_atomsOf 13 = .ok (.aload_n 0, 1) := by decide +kernel
theorem dX6_atomsOf_14 : decode cX6_atomsOf 14 = .ok (.getfield 77, 3) := by decide +kernel
theorem dX6_atomsOf_17 : decode cX6_atomsOf 17 = .ok (.iload_n 2, 1) := by decide +kernel
theorem dX6_atomsOf_18 : decode cX6_atomsOf 18 = .ok (.iaload, 1) := by decide +kernel
theorem dX6_atomsOf_19 : decode cX6_atomsOf 19 = .ok (.invokestatic 185, 3) := by decide +kernel
theorem dX6_atomsOf_22 : decode cX6_atomsOf 22 = .ok (.ifCond .eq 17, 3) := by decide +kernel
theorem dX6_atomsOf_25 : decode cX6_atomsOf 25 = .ok (.iconst 1, 1) := by decide +kernel
theorem dX6_atomsOf_26 : decode cX6_atomsOf 26 = .ok (.aload_n 0, 1) := by decide +kernel
theorem dX6_atomsOf_27 : decode cX6_atomsOf 27 = .ok (.getfield 77, 3) := by decide +kernel
theorem dX6_atomsOf_30 : decode cX6_atomsOf 30 = .ok (.iload_n 2, 1) := by decide +kernel
theorem dX6_atomsOf_31 : decode cX6_atomsOf 31 = .ok (.iaload, 1) := by decide +kernel
theorem dX6_atomsOf_32 : decode cX6_atomsOf 32 = .ok (.bipush 112, 2) := by decide +kernel
theorem dX6_atomsOf_34 : decode cX6_atomsOf 34 = .ok (.isub, 1) := by decide +kernel
theorem dX6_atomsOf_35 : decode cX6_atomsOf 35 = .ok (.ishl, 1) := by decide +kernel
theorem dX6_atomsOf_36 : decode cX6_atomsOf 36 = .ok (.goto 4, 3) := by decide +kernel
theorem dX6_atomsOf_39 : decode cX6_atomsOf 39 = .ok (.iconst 0, 1) := by decide +kernel
theorem dX6_atomsOf_40 : decode cX6_atomsOf 40 = .ok (.ior, 1) := by decide +kernel
theorem dX6_atomsOf_41 : decode cX6_atomsOf 41 = .ok (.istore_n 1, 1) := by decide +kernel
theorem dX6_atomsOf_42 : decode cX6_atomsOf 42 = .ok (.iinc 2 1, 3) := by decide +kernel
theorem dX6_atomsOf_45 : decode cX6_atomsOf 45 = .ok (.goto (-41), 3) := by decide +kernel
theorem dX6_atomsOf_48 : decode cX6_atomsOf 48 = .ok (.iload_n 1, 1) := by decide +kernel
theorem dX6_atomsOf_49 : decode cX6_atomsOf 49 = .ok (.ireturn, 1) := by decide +kernel
theorem dX6_isPlain_0 : decode cX6_isPlain 0 = .ok (.iconst 1, 1) := by decide +kernel
theorem dX6_isPlain_1 : decode cX6_isPlain 1 = .ok (.istore_n 1, 1) := by decide +kernel
theorem dX6_isPlain_2 : decode cX6_isPlain 2 = .ok (.iconst 0, 1) := by decide +kernel
theorem dX6_isPlain_3 : decode cX6_isPlain 3 = .ok (.istore_n 2, 1) := by decide +kernel
theorem dX6_isPlain_4 : decode cX6_isPlain 4 = .ok (.iload_n 2, 1) := by decide +kernel
theorem dX6_isPlain_5 : decode cX6_isPlain 5 = .ok (.aload_n 0, 1) := by decide +kernel
theorem dX6_isPlain_6 : decode cX6_isPlain 6 = .ok (.getfield 202, 3) := by decide +kernel
theorem dX6_isPlain_9 : decode cX6_isPlain 9 = .ok (.if_icmp .ge 25, 3) := by decide +kernel
theorem dX6_isPlain_12 : decode cX6_isPlain 12 = .ok (.iload_n 1, 1) := by decide +kernel
theorem dX6_isPlain_13 : decode cX6_isPlain 13 = .ok (.aload_n 0, 1) := by decide +kernel
theorem dX6_isPlain_14 : decode cX6_isPlain 14 = .ok (.iload_n 2, 1) := by decide +kernel
theorem dX6_isPlain_15 : decode cX6_isPlain 15 = .ok (.invokevirtual 212, 3) := by decide +kernel
theorem dX6_isPlain_18 : decode cX6_isPlain 18 = .ok (.ifCond .ne 7, 3) := by decide +kernel
theorem dX6_isPlain_21 : decode cX6_isPlain 21 = .ok (.iconst 1, 1) := by decide +kernel
theorem dX6_isPlain_22 : decode cX6_isPlain 22 = .ok (.goto 4, 3) := by decide +kernel
theorem dX6_isPlain_25 : decode cX6_isPlain 25 = .ok (.iconst 0, 1) := by decide +kernel
theorem dX6_isPlain_26 : decode cX6_isPlain 26 = .ok (.iand, 1) := by decide +kernel
theorem dX6_isPlain_27 : decode cX6_isPlain 27 = .ok (.istore_n 1, 1) := by decide +kernel
theorem dX6_isPlain_28 : decode cX6_isPlain 28 = .ok (.iinc 2 1, 3) := by decide +kernel
theorem dX6_isPlain_31 : decode cX6_isPlain 31 = .ok (.goto (-27), 3) := by decide +kernel
theorem dX6_isPlain_34 : decode cX6_isPlain 34 = .ok (.iload_n 1, 1) := by decide +kernel
theorem dX6_isPlain_35 : decode cX6_isPlain 35 = .ok (.ireturn, 1) := by decide +kernel
theorem dX6_isTwo_0 : decode cX6_isTwo 0 = .ok (.aload_n 0, 1) := by decide +kernel
theorem dX6_isTwo_1 : decode cX6_isTwo 1 = .ok (.getfield 77, 3) := by decide +kernel
theorem dX6_isTwo_4 : decode cX6_isTwo 4 = .ok (.iload_n 1, 1) := by decide +kernel
theorem dX6_isTwo_5 : decode cX6_isTwo 5 = .ok (.iaload, 1) := by decide +kernel
theorem dX6_isTwo_6 : decode cX6_isTwo 6 = .ok (.invokestatic 192, 3) := by decide +kernel
theorem dX6_isTwo_9 : decode cX6_isTwo 9 = .ok (.ireturn, 1) := by decide +kernel
theorem dX6_about_0 : decode cX6_about 0 = .ok (.aload_n 0, 1) := by decide +kernel
theorem dX6_about_1 : decode cX6_about 1 = .ok (.iconst 0, 1) := by decide +kernel
theorem dX6_about_2 : decode cX6_about 2 = .ok (.putfield 132, 3) := by decide +kernel
theorem dX6_about_5 : decode cX6_about 5 = .ok (.iload_n 1, 1) := by decide +kernel
theorem dX6_about_6 : decode cX6_about 6 = .ok (.invokestatic 195, 3) := by decide +kernel
theorem dX6_about_9 : decode cX6_about 9 = .ok (.ifCond .eq 12, 3) := by decide +kernel
theorem dX6_about_12 : decode cX6_about 12 = .ok (.iload_n 2, 1) := by decide +kernel
theorem dX6_about_13 : decode cX6_about 13 = .ok (.iconst 0, 1) := by decide +kernel
theorem dX6_about_14 : decode cX6_about 14 = .ok (.iconst 4, 1) := by decide +kernel
theorem dX6_about_15 : decode cX6_about 15 = .ok (.invokestatic 135, 3) := by decide +kernel
theorem dX6_about_18 : decode cX6_about 18 = .ok (.ifCond .ne 5, 3) := by decide +kernel
theorem dX6_about_21 : decode cX6_about 21 = .ok (.iconst (-1), 1) := by decide +kernel
theorem dX6_about_22 : decode cX6_about 22 = .ok (.ireturn, 1) := by decide +kernel
theorem dX6_about_23 : decode cX6_about 23 = .ok (.aload_n 0, 1) := by decide +kernel
theorem dX6_about_24 : decode cX6_about 24 = .ok (.iload_n 1, 1) := by decide +kernel
theorem dX6_about_25 : decode cX6_about 25 = .ok (.invokevirtual 215, 3) := by decide +kernel
theorem dX6_about_28 : decode cX6_about 28 = .ok (.iload_n 2, 1) := by decide +kernel
theorem dX6_about_29 : decode cX6_about 29 = .ok (.ifCond .ne 8, 3) := by decide +kernel
theorem dX6_about_32 : decode cX6_about 32 = .ok (.aload_n 0, 1) := by decide +kernel
theorem dX6_about_33 : decode cX6_about 33 = .ok (.getfield 202, 3) := by decide +kernel
theorem dX6_about_36 : decode cX6_about 36 = .ok (.ireturn, 1) := by decide +kernel
theorem dX6_about_37 : decode cX6_about 37 = .ok (.iload_n 2, 1) := by decide +kernel
theorem dX6_about_38 : decode cX6_about 38 = .ok (.iconst 2, 1) := by decide +kernel
theorem dX6_about_39 : decode cX6_about 39 = .ok (.if_icmp .le 28, 3) := by decide +kernel
theorem dX6_about_42 : decode cX6_about 42 = .ok (.iload_n 2, 1) := by decide +kernel
theorem dX6_about_43 : decode cX6_about 43 = .ok (.iconst 3, 1) := by decide +kernel
theorem dX6_about_44 : decode cX6_about 44 = .ok (.if_icmp .ne 10, 3) := by decide +kernel
theorem dX6_about_47 : decode cX6_about 47 = .ok (.aload_n 0, 1) := by decide +kernel
theorem dX6_about_48 : decode cX6_about 48 = .ok (.invokevirtual 218, 3) := by decide +kernel
theorem dX6_about_51 : decode cX6_about 51 = .ok (.goto 15, 3) := by decide +kernel
theorem dX6_about_54 : decode cX6_about 54 = .ok (.aload_n 0, 1) := by decide +kernel
theorem dX6_about_55 : decode cX6_about 55 = .ok (.invokevirtual 221, 3) := by decide +kernel
theorem dX6_about_58 : decode cX6_about 58 = .ok (.ifCond .eq 7, 3) := by decide +kernel
theorem dX6_about_61 : decode cX6_about 61 = .ok (.iconst 1, 1) := by decide +kernel
theorem dX6_about_62 : decode cX6_about 62 = .ok (.goto 4, 3) := by decide +kernel
theorem dX6_about_65 : decode cX6_about 65 = .ok (.iconst 0, 1) := by decide +kernel
theorem dX6_about_66 : decode cX6_about 66 = .ok (.ireturn, 1) := by decide +kernel
theorem dX6_about_67 : decode cX6_about 67 = .ok (.iconst 0, 1) := by decide +kernel
theorem dX6_about_68 : decode cX6_about 68 = .ok (.istore_n 3, 1) := by decide +kernel
theorem dX6_about_69 : decode cX6_about 69 = .ok (.iconst 0, 1) := by decide +kernel
theorem dX6_about_70 : decode cX6_about 70 = .ok (.istore 4, 2) := by decide +kernel
theorem dX6_about_72 : decode cX6_about 72 = .ok (.iload 4, 2) := by decide +kernel
theorem dX6_about_74 : decode cX6_about 74 = .ok (.aload_n 0, 1) := by decide +kernel
theorem dX6_about_75 : decode cX6_about 75 = .ok (.getfield 202, 3) := by decide +kernel
theorem dX6_about_78 : decode cX6_about 78 = .ok (.if_icmp .ge 181, 3) := by decide +kernel
theorem dX6_about_81 : decode cX6_about 81 = .ok (.iload_n 2, 1) := by decide +kernel
theorem dX6_about_82 : decode cX6_about 82 = .ok (.iconst 1, 1) := by decide +kernel
theorem dX6_about_83 : decode cX6_about 83 = .ok (.if_icmp .ne 117, 3) := by decide +kernel
theorem dX6_about_86 : decode cX6_about 86 = .ok (.aload_n 0, 1) := by decide +kernel
theorem dX6_about_87 : decode cX6_about 87 = .ok (.getfield 77, 3) := by decide +kernel
theorem dX6_about_90 : decode cX6_about 90 = .ok (.iload 4, 2) := by decide +kernel
theorem dX6_about_92 : decode cX6_about 92 = .ok (.iaload, 1) := by decide +kernel
theorem dX6_about_93 : decode cX6_about 93 = .ok (.invokestatic 182, 3) := by decide +kernel
theorem dX6_about_96 : decode cX6_about 96 = .ok (.ifCond .ne 12, 3) := by decide +kernel
theorem dX6_about_99 : decode cX6_about 99 = .ok (.aload_n 0, 1) := by decide +kernel
theorem dX6_about_100 : decode cX6_about 100 = .ok (.iload 4, 2) := by decide +kernel
theorem dX6_about_102 : decode cX6_about 102 = .ok (.invokevirtual 224, 3) := by decide +kernel
theorem dX6_about_105 : decode cX6_about 105 = .ok (.ifCond .eq 18, 3) := by decide +kernel
theorem dX6_about_108 : decode cX6_about 108 = .ok (.aload_n 0, 1) := by decide +kernel
theorem dX6_about_109 : decode cX6_about 109 = .ok (.getfield 98, 3) := by decide +kernel
theorem dX6_about_112 : decode cX6_about 112 = .ok (.aload_n 0, 1) := by decide +kernel
theorem dX6_about_113 : decode cX6_about 113 = .ok (.getfield 80, 3) := by decide +kernel
theorem dX6_about_116 : decode cX6_about 116 = .ok (.iload 4, 2) := by decide +kernel
theorem dX6_about_118 : decode cX6_about 118 = .ok (.iaload, 1) := by decide +kernel
theorem dX6_about_119 : decode cX6_about 119 = .ok (.iaload, 1) := by decide +kernel
theorem dX6_about_120 : decode cX6_about 120 = .ok (.goto 4, 3) := by decide +kernel
theorem dX6_about_123 : decode cX6_about 123 = .ok (.iconst 0, 1) := by decide +kernel
theorem dX6_about_124 : decode cX6_about 124 = .ok (.istore 5, 2) := by decide +kernel
theorem dX6_about_126 : decode cX6_about 126 = .ok (.aload_n 0, 1) := by decide +kernel
theorem dX6_about_127 : decode cX6_about 127 = .ok (.iload 4, 2) := by decide +kernel
theorem dX6_about_129 : decode cX6_about 129 = .ok (.invokevirtual 224, 3) := by decide +kernel
theorem dX6_about_132 : decode cX6_about 132 = .ok (.ifCond .eq 18, 3) := by decide +kernel
theorem dX6_about_135 : decode cX6_about 135 = .ok (.aload_n 0, 1) := by decide +kernel
theorem dX6_about_136 : decode cX6_about 136 = .ok (.getfield 98, 3) := by decide +kernel
theorem dX6_about_139 : decode cX6_about 139 = .ok (.aload_n 0, 1) := by decide +kernel
theorem dX6_about_140 : decode cX6_about 140 = .ok (.getfield 83, 3) := by decide +kernel
theorem dX6_about_143 : decode cX6_about 143 = .ok (.iload 4, 2) := by decide +kernel
theorem dX6_about_145 : decode cX6_about 145 = .ok (.iaload, 1) := by decide +kernel
theorem dX6_about_146 : decode cX6_about 146 = .ok (.iaload, 1) := by decide +kernel
theorem dX6_about_147 : decode cX6_about 147 = .ok (.goto 4, 3) := by decide +kernel
theorem dX6_about_150 : decode cX6_about 150 = .ok (.iconst 0, 1) := by decide +kernel
theorem dX6_about_151 : decode cX6_about 151 = .ok (.istore 6, 2) := by decide +kernel
theorem dX6_about_153 : decode cX6_about 153 = .ok (.aload_n 0, 1) := by decide +kernel
theorem dX6_about_154 : decode cX6_about 154 = .ok (.getfield 98, 3) := by decide +kernel
theorem dX6_about_157 : decode cX6_about 157 = .ok (.iload 4, 2) := by decide +kernel
theorem dX6_about_159 : decode cX6_about 159 = .ok (.iload 5, 2) := by decide +kernel
theorem dX6_about_161 : decode cX6_about 161 = .ok (.iload 6, 2) := by decide +kernel
theorem dX6_about_163 : decode cX6_about 163 = .ok (.if_icmp .le 8, 3) := by decide +kernel
theorem dX6_about_166 : decode cX6_about 166 = .ok (.iload 5, 2) := by decide +kernel
theorem dX6_about_168 : decode cX6_about 168 = .ok (.goto 5, 3) := by decide +kernel
theorem dX6_about_171 : decode cX6_about 171 = .ok (.iload 6, 2) := by decide +kernel
theorem dX6_about_173 : decode cX6_about 173 = .ok (.aload_n 0, 1) := by decide +kernel
theorem dX6_about_174 : decode cX6_about 174 = .ok (.iload 4, 2) := by decide +kernel
theorem dX6_about_176 : decode cX6_about 176 = .ok (.invokevirtual 212, 3) := by decide +kernel
theorem dX6_about_179 : decode cX6_about 179 = .ok (.ifCond .eq 7, 3) := by decide +kernel
theorem dX6_about_182 : decode cX6_about 182 = .ok (.iconst 1, 1) := by decide +kernel
theorem dX6_about_183 : decode cX6_about 183 = .ok (.goto 4, 3) := by decide +kernel
theorem dX6_about_186 : decode cX6_about 186 = .ok (.iconst 0, 1) := by decide +kernel
theorem dX6_about_187 : decode cX6_about 187 = .ok (.iadd, 1) := by decide +kernel
theorem dX6_about_188 : decode cX6_about 188 = .ok (.iastore, 1) := by decide +kernel
theorem dX6_about_189 : decode cX6_about 189 = .ok (.aload_n 0, 1) := by decide +kernel
theorem dX6_about_190 : decode cX6_about 190 = .ok (.getfield 98, 3) := by decide +kernel
theorem dX6_about_193 : decode cX6_about 193 = .ok (.iload 4, 2) := by decide +kernel
theorem dX6_about_195 : decode cX6_about 195 = .ok (.iaload, 1) := by decide +kernel
theorem dX6_about_196 : decode cX6_about 196 = .ok (.istore_n 3, 1) := by decide +kernel
theorem dX6_about_197 : decode cX6_about 197 = .ok (.goto 56, 3) := by decide +kernel
theorem dX6_about_200 : decode cX6_about 200 = .ok (.iconst 1, 1) := by decide +kernel
theorem dX6_about_201 : decode cX6_about 201 = .ok (.istore 5, 2) := by decide +kernel
theorem dX6_about_203 : decode cX6_about 203 = .ok (.iconst 0, 1) := by decide +kernel
theorem dX6_about_204 : decode cX6_about 204 = .ok (.istore 6, 2) := by decide +kernel
theorem dX6_about_206 : decode cX6_about 206 = .ok (.iload 6, 2) := by decide +kernel
theorem dX6_about_208 : decode cX6_about 208 = .ok (.iload 4, 2) := by decide +kernel
theorem dX6_about_210 : decode cX6_about 210 = .ok (.if_icmp .ge 30, 3) := by decide +kernel
theorem dX6_about_213 : decode cX6_about 213 = .ok (.iload 5, 2) := by decide +kernel
theorem dX6_about_215 : decode cX6_about 215 = .ok (.aload_n 0, 1) := by decide +kernel
theorem dX6_about_216 : decode cX6_about 216 = .ok (.iload 6, 2) := by decide +kernel
theorem dX6_about_218 : decode cX6_about 218 = .ok (.iload 4, 2) := by decide +kernel
theorem dX6_about_220 : decode cX6_about 220 = .ok (.invokevirtual 227, 3) := by decide +kernel
theorem dX6_about_223 : decode cX6_about 223 = .ok (.ifCond .ne 7, 3) := by decide +kernel
theorem dX6_about_226 : decode cX6_about 226 = .ok (.iconst 1, 1) := by decide +kernel
theorem dX6_about_227 : decode cX6_about 227 = .ok (.goto 4, 3) := by decide +kernel
theorem dX6_about_230 : decode cX6_about 230 = .ok (.iconst 0, 1) := by decide +kernel
theorem dX6_about_231 : decode cX6_about 231 = .ok (.iand, 1) := by decide +kernel
theorem dX6_about_232 : decode cX6_about 232 = .ok (.istore 5, 2) := by decide +kernel
theorem dX6_about_234 : decode cX6_about 234 = .ok (.iinc 6 1, 3) := by decide +kernel
theorem dX6_about_237 : decode cX6_about 237 = .ok (.goto (-31), 3) := by decide +kernel
theorem dX6_about_240 : decode cX6_about 240 = .ok (.iload_n 3, 1) := by decide +kernel
theorem dX6_about_241 : decode cX6_about 241 = .ok (.iload 5, 2) := by decide +kernel
theorem dX6_about_243 : decode cX6_about 243 = .ok (.ifCond .eq 7, 3) := by decide +kernel
theorem dX6_about_246 : decode cX6_about 246 = .ok (.iconst 1, 1) := by decide +kernel
theorem dX6_about_247 : decode cX6_about 247 = .ok (.goto 4, 3) := by decide +kernel
theorem dX6_about_250 : decode cX6_about 250 = .ok (.iconst 0, 1) := by decide +kernel
theorem dX6_about_251 : decode cX6_about 251 = .ok (.iadd, 1) := by decide +kernel
theorem dX6_about_252 : decode cX6_about 252 = .ok (.istore_n 3, 1) := by decide +kernel
theorem dX6_about_253 : decode cX6_about 253 = .ok (.iinc 4 1, 3) := by decide +kernel
theorem dX6_about_256 : decode cX6_about 256 = .ok (.goto (-184), 3) := by decide +kernel
theorem dX6_about_259 : decode cX6_about 259 = .ok (.iload_n 3, 1) := by decide +kernel
theorem dX6_about_260 : decode cX6_about 260 = .ok (.ireturn, 1) := by decide +kernel
theorem dX6_looks_0 : decode cX6_looks 0 = .ok (.iconst 0, 1) := by decide +kernel
theorem dX6_looks_1 : decode cX6_looks 1 = .ok (.istore_n 2, 1) := by decide +kernel
theorem dX6_looks_2 : decode cX6_looks 2 = .ok (.iload_n 2, 1) := by decide +kernel
theorem dX6_looks_3 : decode cX6_looks 3 = .ok (.aload_n 0, 1) := by decide +kernel
theorem dX6_looks_4 : decode cX6_looks 4 = .ok (.getfield 7, 3) := by decide +kernel
theorem dX6_looks_7 : decode cX6_looks 7 = .ok (.if_icmp .ge 21, 3) := by decide +kernel
theorem dX6_looks_10 : decode cX6_looks 10 = .ok (.aload_n 0, 1) := by decide +kernel
theorem dX6_looks_11 : decode cX6_looks 11 = .ok (.getfield 120, 3) := by decide +kernel
theorem dX6_looks_14 : decode cX6_looks 14 = .ok (.iload_n 2, 1) := by decide +kernel
theorem dX6_looks_15 : decode cX6_looks 15 = .ok (.aload_n 0, 1) := by decide +kernel
theorem dX6_looks_16 : decode cX6_looks 16 = .ok (.iload_n 1, 1) := by decide +kernel
theorem dX6_looks_17 : decode cX6_looks 17 = .ok (.iload_n 2, 1) := by decide +kernel
theorem dX6_looks_18 : decode cX6_looks 18 = .ok (.invokevirtual 164, 3) := by decide +kernel
theorem dX6_looks_21 : decode cX6_looks 21 = .ok (.iastore, 1) := by decide +kernel
theorem dX6_looks_22 : decode cX6_looks 22 = .ok (.iinc 2 1, 3) := by decide +kernel
theorem dX6_looks_25 : decode cX6_looks 25 = .ok (.goto (-23), 3) := by decide +kernel
theorem dX6_looks_28 : decode cX6_looks 28 = .ok (.return_, 1) := by decide +kernel
theorem dX6_allIn_0 : decode cX6_allIn 0 = .ok (.iconst 0, 1) := by decide +kernel
theorem dX6_allIn_1 : decode cX6_allIn 1 = .ok (.istore_n 2, 1) := by decide +kernel
theorem dX6_allIn_2 : decode cX6_allIn 2 = .ok (.iconst 0, 1) := by decide +kernel
theorem dX6_allIn_3 : decode cX6_allIn 3 = .ok (.istore_n 3, 1) := by decide +kernel
theorem dX6_allIn_4 : decode cX6_allIn 4 = .ok (.iload_n 3, 1) := by decide +kernel
theorem dX6_allIn_5 : decode cX6_allIn 5 = .ok (.aload_n 0, 1) := by decide +kernel
theorem dX6_allIn_6 : decode cX6_allIn 6 = .ok (.getfield 7, 3) := by decide +kernel
theorem dX6_allIn_9 : decode cX6_allIn 9 = .ok (.if_icmp .ge 32, 3) := by decide +kernel
theorem dX6_allIn_12 : decode cX6_allIn 12 = .ok (.iload_n 2, 1) := by decide +kernel
theorem dX6_allIn_13 : decode cX6_allIn 13 = .ok (.aload_n 0, 1) := by decide +kernel
theorem dX6_allIn_14 : decode cX6_allIn 14 = .ok (.getfield 120, 3) := by decide +kernel
theorem dX6_allIn_17 : decode cX6_allIn 17 = .ok (.iload_n 3, 1) := by decide +kernel
theorem dX6_allIn_18 : decode cX6_allIn 18 = .ok (.iaload, 1) := by decide +kernel
theorem dX6_allIn_19 : decode cX6_allIn 19 = .ok (.iload_n 1, 1) := by decide +kernel
theorem dX6_allIn_20 : decode cX6_allIn 20 = .ok (.iconst (-1), 1) := by decide +kernel
theorem dX6_allIn_21 : decode cX6_allIn 21 = .ok (.ixor, 1) := by decide +kernel
theorem dX6_allIn_22 : decode cX6_allIn 22 = .ok (.iand, 1) := by decide +kernel
theorem dX6_allIn_23 : decode cX6_allIn 23 = .ok (.ifCond .ne 9, 3) := by decide +kernel
theorem dX6_allIn_26 : decode cX6_allIn 26 = .ok (.iconst 1, 1) := by decide +kernel
theorem dX6_allIn_27 : decode cX6_allIn 27 = .ok (.iload_n 3, 1) := by decide +kernel
theorem dX6_allIn_28 : decode cX6_allIn 28 = .ok (.ishl, 1) := by decide +kernel
theorem dX6_allIn_29 : decode cX6_allIn 29 = .ok (.goto 4, 3) := by decide +kernel
theorem dX6_allIn_32 : decode cX6_allIn 32 = .ok (.iconst 0, 1) := by decide +kernel
theorem dX6_allIn_33 : decode cX6_allIn 33 = .ok (.ior, 1) := by decide +kernel
theorem dX6_allIn_34 : decode cX6_allIn 34 = .ok (.istore_n 2, 1) := by decide +kernel
theorem dX6_allIn_35 : decode cX6_allIn 35 = .ok (.iinc 3 1, 3) := by decide +kernel
theorem dX6_allIn_38 : decode cX6_allIn 38 = .ok (.goto (-34), 3) := by decide +kernel
theorem dX6_allIn_41 : decode cX6_allIn 41 = .ok (.iload_n 2, 1) := by decide +kernel
theorem dX6_allIn_42 : decode cX6_allIn 42 = .ok (.ireturn, 1) := by decide +kernel
theorem dX6_holding_0 : decode cX6_holding 0 = .ok (.iconst 0, 1) := by decide +kernel
theorem dX6_holding_1 : decode cX6_holding 1 = .ok (.istore_n 1, 1) := by decide +kernel
theorem dX6_holding_2 : decode cX6_holding 2 = .ok (.iconst 0, 1) := by decide +kernel
theorem dX6_holding_3 : decode cX6_holding 3 = .ok (.istore_n 2, 1) := by decide +kernel
theorem dX6_holding_4 : decode cX6_holding 4 = .ok (.iload_n 2, 1) := by decide +kernel
theorem dX6_holding_5 : decode cX6_holding 5 = .ok (.aload_n 0, 1) := by decide +kernel
theorem dX6_holding_6 : decode cX6_holding 6 = .ok (.getfield 202, 3) := by decide +kernel
theorem dX6_holding_9 : decode cX6_holding 9 = .ok (.if_icmp .ge 223, 3) := by decide +kernel
theorem dX6_holding_12 : decode cX6_holding 12 = .ok (.aload_n 0, 1) := by decide +kernel
theorem dX6_holding_13 : decode cX6_holding 13 = .ok (.getfield 77, 3) := by decide +kernel
theorem dX6_holding_16 : decode cX6_holding 16 = .ok (.iload_n 2, 1) := by decide +kernel
theorem dX6_holding_17 : decode cX6_holding 17 = .ok (.iaload, 1) := by decide +kernel
theorem dX6_holding_18 : decode cX6_holding 18 = .ok (.istore_n 3, 1) := by decide +kernel
theorem dX6_holding_19 : decode cX6_holding 19 = .ok (.iload_n 3, 1) := by decide +kernel
theorem dX6_holding_20 : decode cX6_holding 20 = .ok (.invokestatic 182, 3) := by decide +kernel
theorem dX6_holding_23 : decode cX6_holding 23 = .ok (.ifCond .ne 10, 3) := by decide +kernel
theorem dX6_holding_26 : decode cX6_holding 26 = .ok (.iload_n 3, 1) := by decide +kernel
theorem dX6_holding_27 : decode cX6_holding 27 = .ok (.invokestatic 192, 3) := by decide +kernel
theorem dX6_holding_30 : decode cX6_holding 30 = .ok (.ifCond .eq 17, 3) := by decide +kernel
theorem dX6_holding_33 : decode cX6_holding 33 = .ok (.aload_n 0, 1) := by decide +kernel
theorem dX6_holding_34 : decode cX6_holding 34 = .ok (.getfield 98, 3) := by decide +kernel
theorem dX6_holding_37 : decode cX6_holding 37 = .ok (.aload_n 0, 1) := by decide +kernel
theorem dX6_holding_38 : decode cX6_holding 38 = .ok (.getfield 80, 3) := by decide +kernel
theorem dX6_holding_41 : decode cX6_holding 41 = .ok (.iload_n 2, 1) := by decide +kernel
theorem dX6_holding_42 : decode cX6_holding 42 = .ok (.iaload, 1) := by decide +kernel
theorem dX6_holding_43 : decode cX6_holding 43 = .ok (.iaload, 1) := by decide +kernel
theorem dX6_holding_44 : decode cX6_holding 44 = .ok (.goto 4, 3) := by decide +kernel
theorem dX6_holding_47 : decode cX6_holding 47 = .ok (.iconst 0, 1) := by decide +kernel
theorem dX6_holding_48 : decode cX6_holding 48 = .ok (.istore 4, 2) := by decide +kernel
theorem dX6_holding_50 : decode cX6_holding 50 = .ok (.iload_n 3, 1) := by decide +kernel
theorem dX6_holding_51 : decode cX6_holding 51 = .ok (.invokestatic 192, 3) := by decide +kernel
theorem dX6_holding_54 : decode cX6_holding 54 = .ok (.ifCond .eq 17, 3) := by decide +kernel
theorem dX6_holding_57 : decode cX6_holding 57 = .ok (.aload_n 0, 1) := by decide +kernel
theorem dX6_holding_58 : decode cX6_holding 58 = .ok (.getfield 98, 3) := by decide +kernel
theorem dX6_holding_61 : decode cX6_holding 61 = .ok (.aload_n 0, 1) := by decide +kernel
theorem dX6_holding_62 : decode cX6_holding 62 = .ok (.getfield 83, 3) := by decide +kernel
theorem dX6_holding_65 : decode cX6_holding 65 = .ok (.iload_n 2, 1) := by decide +kernel
theorem dX6_holding_66 : decode cX6_holding 66 = .ok (.iaload, 1) := by decide +kernel
theorem dX6_holding_67 : decode cX6_holding 67 = .ok (.iaload, 1) := by decide +kernel
theorem dX6_holding_68 : decode cX6_holding 68 = .ok (.goto 4, 3) := by decide +kernel
theorem dX6_holding_71 : decode cX6_holding 71 = .ok (.iconst 0, 1) := by decide +kernel
theorem dX6_holding_72 : decode cX6_holding 72 = .ok (.istore 5, 2) := by decide +kernel
theorem dX6_holding_74 : decode cX6_holding 74 = .ok (.iload_n 3, 1) := by decide +kernel
theorem dX6_holding_75 : decode cX6_holding 75 = .ok (.invokestatic 185, 3) := by decide +kernel
theorem dX6_holding_78 : decode cX6_holding 78 = .ok (.ifCond .eq 15, 3) := by decide +kernel
theorem dX6_holding_81 : decode cX6_holding 81 = .ok (.aload_n 0, 1) := by decide +kernel
theorem dX6_holding_82 : decode cX6_holding 82 = .ok (.getfield 17, 3) := by decide +kernel
theorem dX6_holding_85 : decode cX6_holding 85 = .ok (.iload_n 3, 1) := by decide +kernel
theorem dX6_holding_86 : decode cX6_holding 86 = .ok (.bipush 112, 2) := by decide +kernel
theorem dX6_holding_88 : decode cX6_holding 88 = .ok (.isub, 1) := by decide +kernel
theorem dX6_holding_89 : decode cX6_holding 89 = .ok (.iaload, 1) := by decide +kernel
theorem dX6_holding_90 : decode cX6_holding 90 = .ok (.goto 128, 3) := by decide +kernel
theorem dX6_holding_93 : decode cX6_holding 93 = .ok (.iload_n 3, 1) := by decide +kernel
theorem dX6_holding_94 : decode cX6_holding 94 = .ok (.bipush 84, 2) := by decide +kernel
theorem dX6_holding_96 : decode cX6_holding 96 = .ok (.if_icmp .ne 10, 3) := by decide +kernel
theorem dX6_holding_99 : decode cX6_holding 99 = .ok (.aload_n 0, 1) := by decide +kernel
theorem dX6_holding_100 : decode cX6_holding 100 = .ok (.invokevirtual 143, 3) := by decide +kernel
theorem dX6_holding_103 : decode cX6_holding 103 = .ok (.goto 115, 3) := by decide +kernel
theorem dX6_holding_106 : decode cX6_holding 106 = .ok (.iload_n 3, 1) := by decide +kernel
theorem dX6_holding_107 : decode cX6_holding 107 = .ok (.bipush 70, 2) := by decide +kernel
theorem dX6_holding_109 : decode cX6_holding 109 = .ok (.if_icmp .ne 7, 3) := by decide +kernel
theorem dX6_holding_112 : decode cX6_holding 112 = .ok (.iconst 0, 1) := by decide +kernel
theorem dX6_holding_113 : decode cX6_holding 113 = .ok (.goto 105, 3) := by decide +kernel
theorem dX6_holding_116 : decode cX6_holding 116 = .ok (.iload_n 3, 1) := by decide +kernel
theorem dX6_holding_117 : decode cX6_holding 117 = .ok (.bipush 33, 2) := by decide +kernel
theorem dX6_holding_119 : decode cX6_holding 119 = .ok (.if_icmp .ne 15, 3) := by decide +kernel
theorem dX6_holding_122 : decode cX6_holding 122 = .ok (.aload_n 0, 1) := by decide +kernel
theorem dX6_holding_123 : decode cX6_holding 123 = .ok (.invokevirtual 143, 3) := by decide +kernel
theorem dX6_holding_126 : decode cX6_holding 126 = .ok (.iload 4, 2) := by decide +kernel
theorem dX6_holding_128 : decode cX6_holding 128 = .ok (.iconst (-1), 1) := by decide +kernel
theorem dX6_holding_129 : decode cX6_holding 129 = .ok (.ixor, 1) := by decide +kernel
theorem dX6_holding_130 : decode cX6_holding 130 = .ok (.iand, 1) := by decide +kernel
theorem dX6_holding_131 : decode cX6_holding 131 = .ok (.goto 87, 3) := by decide +kernel
theorem dX6_holding_134 : decode cX6_holding 134 = .ok (.iload_n 3, 1) := by decide +kernel
theorem dX6_holding_135 : decode cX6_holding 135 = .ok (.bipush 91, 2) := by decide +kernel
theorem dX6_holding_137 : decode cX6_holding 137 = .ok (.if_icmp .ne 12, 3) := by decide +kernel
theorem dX6_holding_140 : decode cX6_holding 140 = .ok (.aload_n 0, 1) := by decide +kernel
theorem dX6_holding_141 : decode cX6_holding 141 = .ok (.iload 4, 2) := by decide +kernel
theorem dX6_holding_143 : decode cX6_holding 143 = .ok (.invokevirtual 231, 3) := by decide +kernel
theorem dX6_holding_146 : decode cX6_holding 146 = .ok (.goto 72, 3) := by decide +kernel
theorem dX6_holding_149 : decode cX6_holding 149 = .ok (.iload_n 3, 1) := by decide +kernel
theorem dX6_holding_150 : decode cX6_holding 150 = .ok (.bipush 123, 2) := by decide +kernel
theorem dX6_holding_152 : decode cX6_holding 152 = .ok (.if_icmp .ne 26, 3) := by decide +kernel
theorem dX6_holding_155 : decode cX6_holding 155 = .ok (.aload_n 0, 1) := by decide +kernel
theorem dX6_holding_156 : decode cX6_holding 156 = .ok (.invokevirtual 143, 3) := by decide +kernel
theorem dX6_holding_159 : decode cX6_holding 159 = .ok (.aload_n 0, 1) := by decide +kernel
theorem dX6_holding_160 : decode cX6_holding 160 = .ok (.aload_n 0, 1) := by decide +kernel
theorem dX6_holding_161 : decode cX6_holding 161 = .ok (.invokevirtual 143, 3) := by decide +kernel
theorem dX6_holding_164 : decode cX6_holding 164 = .ok (.iload 4, 2) := by decide +kernel
theorem dX6_holding_166 : decode cX6_holding 166 = .ok (.iconst (-1), 1) := by decide +kernel
theorem dX6_holding_167 : decode cX6_holding 167 = .ok (.ixor, 1) := by decide +kernel
theorem dX6_holding_168 : decode cX6_holding 168 = .ok (.iand, 1) := by decide +kernel
theorem dX6_holding_169 : decode cX6_holding 169 = .ok (.invokevirtual 231, 3) := by decide +kernel
theorem dX6_holding_172 : decode cX6_holding 172 = .ok (.iconst (-1), 1) := by decide +kernel
theorem dX6_holding_173 : decode cX6_holding 173 = .ok (.ixor, 1) := by decide +kernel
theorem dX6_holding_174 : decode cX6_holding 174 = .ok (.iand, 1) := by decide +kernel
theorem dX6_holding_175 : decode cX6_holding 175 = .ok (.goto 43, 3) := by decide +kernel
theorem dX6_holding_178 : decode cX6_holding 178 = .ok (.iload_n 3, 1) := by decide +kernel
theorem dX6_holding_179 : decode cX6_holding 179 = .ok (.bipush 38, 2) := by decide +kernel
theorem dX6_holding_181 : decode cX6_holding 181 = .ok (.if_icmp .ne 11, 3) := by decide +kernel
theorem dX6_holding_184 : decode cX6_holding 184 = .ok (.iload 4, 2) := by decide +kernel
theorem dX6_holding_186 : decode cX6_holding 186 = .ok (.iload 5, 2) := by decide +kernel
theorem dX6_holding_188 : decode cX6_holding 188 = .ok (.iand, 1) := by decide +kernel
theorem dX6_holding_189 : decode cX6_holding 189 = .ok (.goto 29, 3) := by decide +kernel
theorem dX6_holding_192 : decode cX6_holding 192 = .ok (.iload_n 3, 1) := by decide +kernel
theorem dX6_holding_193 : decode cX6_holding 193 = .ok (.bipush 124, 2) := by decide +kernel
theorem dX6_holding_195 : decode cX6_holding 195 = .ok (.if_icmp .ne 11, 3) := by decide +kernel
theorem dX6_holding_198 : decode cX6_holding 198 = .ok (.iload 4, 2) := by decide +kernel
theorem dX6_holding_200 : decode cX6_holding 200 = .ok (.iload 5, 2) := by decide +kernel
theorem dX6_holding_202 : decode cX6_holding 202 = .ok (.ior, 1) := by decide +kernel
theorem dX6_holding_203 : decode cX6_holding 203 = .ok (.goto 15, 3) := by decide +kernel
theorem dX6_holding_206 : decode cX6_holding 206 = .ok (.aload_n 0, 1) := by decide +kernel
theorem dX6_holding_207 : decode cX6_holding 207 = .ok (.invokevirtual 143, 3) := by decide +kernel
theorem dX6_holding_210 : decode cX6_holding 210 = .ok (.iload 4, 2) := by decide +kernel
theorem dX6_holding_212 : decode cX6_holding 212 = .ok (.iconst (-1), 1) := by decide +kernel
theorem dX6_holding_213 : decode cX6_holding 213 = .ok (.ixor, 1) := by decide +kernel
theorem dX6_holding_214 : decode cX6_holding 214 = .ok (.iand, 1) := by decide +kernel
theorem dX6_holding_215 : decode cX6_holding 215 = .ok (.iload 5, 2) := by decide +kernel
theorem dX6_holding_217 : decode cX6_holding 217 = .ok (.ior, 1) := by decide +kernel
theorem dX6_holding_218 : decode cX6_holding 218 = .ok (.istore_n 1, 1) := by decide +kernel
theorem dX6_holding_219 : decode cX6_holding 219 = .ok (.aload_n 0, 1) := by decide +kernel
theorem dX6_holding_220 : decode cX6_holding 220 = .ok (.getfield 98, 3) := by decide +kernel
theorem dX6_holding_223 : decode cX6_holding 223 = .ok (.iload_n 2, 1) := by decide +kernel
theorem dX6_holding_224 : decode cX6_holding 224 = .ok (.iload_n 1, 1) := by decide +kernel
theorem dX6_holding_225 : decode cX6_holding 225 = .ok (.iastore, 1) := by decide +kernel
theorem dX6_holding_226 : decode cX6_holding 226 = .ok (.iinc 2 1, 3) := by decide +kernel
theorem dX6_holding_229 : decode cX6_holding 229 = .ok (.goto (-225), 3) := by decide +kernel
theorem dX6_holding_232 : decode cX6_holding 232 = .ok (.iload_n 1, 1) := by decide +kernel
theorem dX6_holding_233 : decode cX6_holding 233 = .ok (.ireturn, 1) := by decide +kernel
theorem dX6_holds_0 : decode cX6_holds 0 = .ok (.aload_n 0, 1) := by decide +kernel
theorem dX6_holds_1 : decode cX6_holds 1 = .ok (.iconst 0, 1) := by decide +kernel
theorem dX6_holds_2 : decode cX6_holds 2 = .ok (.putfield 132, 3) := by decide +kernel
theorem dX6_holds_5 : decode cX6_holds 5 = .ok (.iload_n 1, 1) := by decide +kernel
theorem dX6_holds_6 : decode cX6_holds 6 = .ok (.invokestatic 195, 3) := by decide +kernel
theorem dX6_holds_9 : decode cX6_holds 9 = .ok (.ifCond .eq 10, 3) := by decide +kernel
theorem dX6_holds_12 : decode cX6_holds 12 = .ok (.iload_n 2, 1) := by decide +kernel
theorem dX6_holds_13 : decode cX6_holds 13 = .ok (.invokestatic 151, 3) := by decide +kernel
theorem dX6_holds_16 : decode cX6_holds 16 = .ok (.ifCond .ne 5, 3) := by decide +kernel
theorem dX6_holds_19 : decode cX6_holds 19 = .ok (.iconst (-1), 1) := by decide +kernel
theorem dX6_holds_20 : decode cX6_holds 20 = .ok (.ireturn, 1) := by decide +kernel
theorem dX6_holds_21 : decode cX6_holds 21 = .ok (.aload_n 0, 1) := by decide +kernel
theorem dX6_holds_22 : decode cX6_holds 22 = .ok (.iload_n 1, 1) := by decide +kernel
theorem dX6_holds_23 : decode cX6_holds 23 = .ok (.invokevirtual 215, 3) := by decide +kernel
theorem dX6_holds_26 : decode cX6_holds 26 = .ok (.aload_n 0, 1) := by decide +kernel
theorem dX6_holds_27 : decode cX6_holds 27 = .ok (.iload_n 2, 1) := by decide +kernel
theorem dX6_holds_28 : decode cX6_holds 28 = .ok (.invokevirtual 234, 3) := by decide +kernel
theorem dX6_holds_31 : decode cX6_holds 31 = .ok (.aload_n 0, 1) := by decide +kernel
theorem dX6_holds_32 : decode cX6_holds 32 = .ok (.invokevirtual 237, 3) := by decide +kernel
theorem dX6_holds_35 : decode cX6_holds 35 = .ok (.ireturn, 1) := by decide +kernel
theorem dX6_sure_0 : decode cX6_sure 0 = .ok (.aload_n 0, 1) := by decide +kernel
theorem dX6_sure_1 : decode cX6_sure 1 = .ok (.iconst 0, 1) := by decide +kernel
theorem dX6_sure_2 : decode cX6_sure 2 = .ok (.putfield 132, 3) := by decide +kernel
theorem dX6_sure_5 : decode cX6_sure 5 = .ok (.iload_n 1, 1) := by decide +kernel
theorem dX6_sure_6 : decode cX6_sure 6 = .ok (.invokestatic 195, 3) := by decide +kernel
theorem dX6_sure_9 : decode cX6_sure 9 = .ok (.ifCond .eq 10, 3) := by decide +kernel
theorem dX6_sure_12 : decode cX6_sure 12 = .ok (.iload_n 2, 1) := by decide +kernel
theorem dX6_sure_13 : decode cX6_sure 13 = .ok (.invokestatic 151, 3) := by decide +kernel
theorem dX6_sure_16 : decode cX6_sure 16 = .ok (.ifCond .ne 5, 3) := by decide +kernel
theorem dX6_sure_19 : decode cX6_sure 19 = .ok (.iconst (-1), 1) := by decide +kernel
theorem dX6_sure_20 : decode cX6_sure 20 = .ok (.ireturn, 1) := by decide +kernel
theorem dX6_sure_21 : decode cX6_sure 21 = .ok (.aload_n 0, 1) := by decide +kernel
theorem dX6_sure_22 : decode cX6_sure 22 = .ok (.iload_n 1, 1) := by decide +kernel
theorem dX6_sure_23 : decode cX6_sure 23 = .ok (.invokevirtual 215, 3) := by decide +kernel
theorem dX6_sure_26 : decode cX6_sure 26 = .ok (.aload_n 0, 1) := by decide +kernel
theorem dX6_sure_27 : decode cX6_sure 27 = .ok (.invokevirtual 218, 3) := by decide +kernel
theorem dX6_sure_30 : decode cX6_sure 30 = .ok (.istore_n 3, 1) := by decide +kernel
theorem dX6_sure_31 : decode cX6_sure 31 = .ok (.iconst 0, 1) := by decide +kernel
theorem dX6_sure_32 : decode cX6_sure 32 = .ok (.istore 4, 2) := by decide +kernel
theorem dX6_sure_34 : decode cX6_sure 34 = .ok (.iconst 0, 1) := by decide +kernel
theorem dX6_sure_35 : decode cX6_sure 35 = .ok (.istore 5, 2) := by decide +kernel
theorem dX6_sure_37 : decode cX6_sure 37 = .ok (.iload 5, 2) := by decide +kernel
theorem dX6_sure_39 : decode cX6_sure 39 = .ok (.iconst 4, 1) := by decide +kernel
theorem dX6_sure_40 : decode cX6_sure 40 = .ok (.if_icmp .ge 25, 3) := by decide +kernel
theorem dX6_sure_43 : decode cX6_sure 43 = .ok (.iload 4, 2) := by decide +kernel
theorem dX6_sure_45 : decode cX6_sure 45 = .ok (.iload_n 3, 1) := by decide +kernel
theorem dX6_sure_46 : decode cX6_sure 46 = .ok (.iload 5, 2) := by decide +kernel
theorem dX6_sure_48 : decode cX6_sure 48 = .ok (.ishr, 1) := by decide +kernel
theorem dX6_sure_49 : decode cX6_sure 49 = .ok (.iconst 1, 1) := by decide +kernel
theorem dX6_sure_50 : decode cX6_sure 50 = .ok (.iand, 1) := by decide +kernel
theorem dX6_sure_51 : decode cX6_sure 51 = .ok (.aload_n 0, 1) := by decide +kernel
theorem dX6_sure_52 : decode cX6_sure 52 = .ok (.getfield 7, 3) := by decide +kernel
theorem dX6_sure_55 : decode cX6_sure 55 = .ok (.imul, 1) := by decide +kernel
theorem dX6_sure_56 : decode cX6_sure 56 = .ok (.iadd, 1) := by decide +kernel
theorem dX6_sure_57 : decode cX6_sure 57 = .ok (.istore 4, 2) := by decide +kernel
theorem dX6_sure_59 : decode cX6_sure 59 = .ok (.iinc 5 1, 3) := by decide +kernel
theorem dX6_sure_62 : decode cX6_sure 62 = .ok (.goto (-25), 3) := by decide +kernel
theorem dX6_sure_65 : decode cX6_sure 65 = .ok (.iload 4, 2) := by decide +kernel
theorem dX6_sure_67 : decode cX6_sure 67 = .ok (.bipush 12, 2) := by decide +kernel
theorem dX6_sure_69 : decode cX6_sure 69 = .ok (.if_icmp .le 6, 3) := by decide +kernel
theorem dX6_sure_72 : decode cX6_sure 72 = .ok (.bipush (-2), 2) := by decide +kernel
theorem dX6_sure_74 : decode cX6_sure 74 = .ok (.ireturn, 1) := by decide +kernel
theorem dX6_sure_75 : decode cX6_sure 75 = .ok (.aload_n 0, 1) := by decide +kernel
theorem dX6_sure_76 : decode cX6_sure 76 = .ok (.iload_n 2, 1) := by decide +kernel
theorem dX6_sure_77 : decode cX6_sure 77 = .ok (.invokevirtual 234, 3) := by decide +kernel
theorem dX6_sure_80 : decode cX6_sure 80 = .ok (.aload_n 0, 1) := by decide +kernel
theorem dX6_sure_81 : decode cX6_sure 81 = .ok (.getfield 17, 3) := by decide +kernel
theorem dX6_sure_84 : decode cX6_sure 84 = .ok (.iconst 0, 1) := by decide +kernel
theorem dX6_sure_85 : decode cX6_sure 85 = .ok (.iaload, 1) := by decide +kernel
theorem dX6_sure_86 : decode cX6_sure 86 = .ok (.istore 5, 2) := by decide +kernel
theorem dX6_sure_88 : decode cX6_sure 88 = .ok (.aload_n 0, 1) := by decide +kernel
theorem dX6_sure_89 : decode cX6_sure 89 = .ok (.getfield 17, 3) := by decide +kernel
theorem dX6_sure_92 : decode cX6_sure 92 = .ok (.iconst 1, 1) := by decide +kernel
theorem dX6_sure_93 : decode cX6_sure 93 = .ok (.iaload, 1) := by decide +kernel
theorem dX6_sure_94 : decode cX6_sure 94 = .ok (.istore 6, 2) := by decide +kernel
theorem dX6_sure_96 : decode cX6_sure 96 = .ok (.aload_n 0, 1) := by decide +kernel
theorem dX6_sure_97 : decode cX6_sure 97 = .ok (.getfield 17, 3) := by decide +kernel
theorem dX6_sure_100 : decode cX6_sure 100 = .ok (.iconst 2, 1) := by decide +kernel
theorem dX6_sure_101 : decode cX6_sure 101 = .ok (.iaload, 1) := by decide +kernel
theorem dX6_sure_102 : decode cX6_sure 102 = .ok (.istore 7, 2) := by decide +kernel
theorem dX6_sure_104 : decode cX6_sure 104 = .ok (.aload_n 0, 1) := by decide +kernel
theorem dX6_sure_105 : decode cX6_sure 105 = .ok (.getfield 17, 3) := by decide +kernel
theorem dX6_sure_108 : decode cX6_sure 108 = .ok (.iconst 3, 1) := by decide +kernel
theorem dX6_sure_109 : decode cX6_sure 109 = .ok (.iaload, 1) := by decide +kernel
theorem dX6_sure_110 : decode cX6_sure 110 = .ok (.istore 8, 2) := by decide +kernel
theorem dX6_sure_112 : decode cX6_sure 112 = .ok (.iconst 1, 1) := by decide +kernel
theorem dX6_sure_113 : decode cX6_sure 113 = .ok (.istore 9, 2) := by decide +kernel
theorem dX6_sure_115 : decode cX6_sure 115 = .ok (.iconst 0, 1) := by decide +kernel
theorem dX6_sure_116 : decode cX6_sure 116 = .ok (.istore 10, 2) := by decide +kernel
theorem dX6_sure_118 : decode cX6_sure 118 = .ok (.iload 10, 2) := by decide +kernel
theorem dX6_sure_120 : decode cX6_sure 120 = .ok (.iconst 1, 1) := by decide +kernel
theorem dX6_sure_121 : decode cX6_sure 121 = .ok (.iload 4, 2) := by decide +kernel
theorem dX6_sure_123 : decode cX6_sure 123 = .ok (.ishl, 1) := by decide +kernel
theorem dX6_sure_124 : decode cX6_sure 124 = .ok (.if_icmp .ge 84, 3) := by decide +kernel
theorem dX6_sure_127 : decode cX6_sure 127 = .ok (.iload 9, 2) := by decide +kernel
theorem dX6_sure_129 : decode cX6_sure 129 = .ok (.ifCond .eq 79, 3) := by decide +kernel
theorem dX6_sure_132 : decode cX6_sure 132 = .ok (.iload 10, 2) := by decide +kernel
theorem dX6_sure_134 : decode cX6_sure 134 = .ok (.istore 11, 2) := by decide +kernel
theorem dX6_sure_136 : decode cX6_sure 136 = .ok (.iconst 0, 1) := by decide +kernel
theorem dX6_sure_137 : decode cX6_sure 137 = .ok (.istore 12, 2) := by decide +kernel
theorem dX6_sure_139 : decode cX6_sure 139 = .ok (.iload 12, 2) := by decide +kernel
theorem dX6_sure_141 : decode cX6_sure 141 = .ok (.iconst 4, 1) := by decide +kernel
theorem dX6_sure_142 : decode cX6_sure 142 = .ok (.if_icmp .ge 42, 3) := by decide +kernel
theorem dX6_sure_145 : decode cX6_sure 145 = .ok (.iload_n 3, 1) := by decide +kernel
theorem dX6_sure_146 : decode cX6_sure 146 = .ok (.iload 12, 2) := by decide +kernel
theorem dX6_sure_148 : decode cX6_sure 148 = .ok (.ishr, 1) := by decide +kernel
theorem dX6_sure_149 : decode cX6_sure 149 = .ok (.iconst 1, 1) := by decide +kernel
theorem dX6_sure_150 : decode cX6_sure 150 = .ok (.iand, 1) := by decide +kernel
theorem dX6_sure_151 : decode cX6_sure 151 = .ok (.iconst 1, 1) := by decide +kernel
theorem dX6_sure_152 : decode cX6_sure 152 = .ok (.if_icmp .ne 26, 3) := by decide +kernel
theorem dX6_sure_155 : decode cX6_sure 155 = .ok (.aload_n 0, 1) := by decide +kernel
theorem dX6_sure_156 : decode cX6_sure 156 = .ok (.getfield 17, 3) := by decide +kernel
theorem dX6_sure_159 : decode cX6_sure 159 = .ok (.iload 12, 2) := by decide +kernel
theorem dX6_sure_161 : decode cX6_sure 161 = .ok (.iload 11, 2) := by decide +kernel
theorem dX6_sure_163 : decode cX6_sure 163 = .ok (.aload_n 0, 1) := by decide +kernel
theorem dX6_sure_164 : decode cX6_sure 164 = .ok (.invokevirtual 143, 3) := by decide +kernel
theorem dX6_sure_167 : decode cX6_sure 167 = .ok (.iand, 1) := by decide +kernel
theorem dX6_sure_168 : decode cX6_sure 168 = .ok (.iastore, 1) := by decide +kernel
theorem dX6_sure_169 : decode cX6_sure 169 = .ok (.iload 11, 2) := by decide +kernel
theorem dX6_sure_171 : decode cX6_sure 171 = .ok (.aload_n 0, 1) := by decide +kernel
theorem dX6_sure_172 : decode cX6_sure 172 = .ok (.getfield 7, 3) := by decide +kernel
theorem dX6_sure_175 : decode cX6_sure 175 = .ok (.ishr, 1) := by decide +kernel
theorem dX6_sure_176 : decode cX6_sure 176 = .ok (.istore 11, 2) := by decide +kernel
theorem dX6_sure_178 : decode cX6_sure 178 = .ok (.iinc 12 1, 3) := by decide +kernel
theorem dX6_sure_181 : decode cX6_sure 181 = .ok (.goto (-42), 3) := by decide +kernel
theorem dX6_sure_184 : decode cX6_sure 184 = .ok (.aload_n 0, 1) := by decide +kernel
theorem dX6_sure_185 : decode cX6_sure 185 = .ok (.invokevirtual 237, 3) := by decide +kernel
theorem dX6_sure_188 : decode cX6_sure 188 = .ok (.aload_n 0, 1) := by decide +kernel
theorem dX6_sure_189 : decode cX6_sure 189 = .ok (.invokevirtual 143, 3) := by decide +kernel
theorem dX6_sure_192 : decode cX6_sure 192 = .ok (.if_icmp .ne 7, 3) := by decide +kernel
theorem dX6_sure_195 : decode cX6_sure 195 = .ok (.iconst 1, 1) := by decide +kernel
theorem dX6_sure_196 : decode cX6_sure 196 = .ok (.goto 4, 3) := by decide +kernel
theorem dX6_sure_199 : decode cX6_sure 199 = .ok (.iconst 0, 1) := by decide +kernel
theorem dX6_sure_200 : decode cX6_sure 200 = .ok (.istore 9, 2) := by decide +kernel
theorem dX6_sure_202 : decode cX6_sure 202 = .ok (.iinc 10 1, 3) := by decide +kernel
theorem dX6_sure_205 : decode cX6_sure 205 = .ok (.goto (-87), 3) := by decide +kernel
theorem dX6_sure_208 : decode cX6_sure 208 = .ok (.aload_n 0, 1) := by decide +kernel
theorem dX6_sure_209 : decode cX6_sure 209 = .ok (.getfield 17, 3) := by decide +kernel
theorem dX6_sure_212 : decode cX6_sure 212 = .ok (.iconst 0, 1) := by decide +kernel
theorem dX6_sure_213 : decode cX6_sure 213 = .ok (.iload 5, 2) := by decide +kernel
theorem dX6_sure_215 : decode cX6_sure 215 = .ok (.iastore, 1) := by decide +kernel
theorem dX6_sure_216 : decode cX6_sure 216 = .ok (.aload_n 0, 1) := by decide +kernel
theorem dX6_sure_217 : decode cX6_sure 217 = .ok (.getfield 17, 3) := by decide +kernel
theorem dX6_sure_220 : decode cX6_sure 220 = .ok (.iconst 1, 1) := by decide +kernel
theorem dX6_sure_221 : decode cX6_sure 221 = .ok (.iload 6, 2) := by decide +kernel
theorem dX6_sure_223 : decode cX6_sure 223 = .ok (.iastore, 1) := by decide +kernel
theorem dX6_sure_224 : decode cX6_sure 224 = .ok (.aload_n 0, 1) := by decide +kernel
theorem dX6_sure_225 : decode cX6_sure 225 = .ok (.getfield 17, 3) := by decide +kernel
theorem dX6_sure_228 : decode cX6_sure 228 = .ok (.iconst 2, 1) := by decide +kernel
theorem dX6_sure_229 : decode cX6_sure 229 = .ok (.iload 7, 2) := by decide +kernel
theorem dX6_sure_231 : decode cX6_sure 231 = .ok (.iastore, 1) := by decide +kernel
theorem dX6_sure_232 : decode cX6_sure 232 = .ok (.aload_n 0, 1) := by decide +kernel
theorem dX6_sure_233 : decode cX6_sure 233 = .ok (.getfield 17, 3) := by decide +kernel
theorem dX6_sure_236 : decode cX6_sure 236 = .ok (.iconst 3, 1) := by decide +kernel
theorem dX6_sure_237 : decode cX6_sure 237 = .ok (.iload 8, 2) := by decide +kernel
theorem dX6_sure_239 : decode cX6_sure 239 = .ok (.iastore, 1) := by decide +kernel
theorem dX6_sure_240 : decode cX6_sure 240 = .ok (.iload 9, 2) := by decide +kernel
theorem dX6_sure_242 : decode cX6_sure 242 = .ok (.ifCond .eq 7, 3) := by decide +kernel
theorem dX6_sure_245 : decode cX6_sure 245 = .ok (.iconst 1, 1) := by decide +kernel
theorem dX6_sure_246 : decode cX6_sure 246 = .ok (.goto 4, 3) := by decide +kernel
theorem dX6_sure_249 : decode cX6_sure 249 = .ok (.iconst 0, 1) := by decide +kernel
theorem dX6_sure_250 : decode cX6_sure 250 = .ok (.ireturn, 1) := by decide +kernel
theorem dX6_tells_0 : decode cX6_tells 0 = .ok (.aload_n 0, 1) := by decide +kernel
theorem dX6_tells_1 : decode cX6_tells 1 = .ok (.iconst 0, 1) := by decide +kernel
theorem dX6_tells_2 : decode cX6_tells 2 = .ok (.putfield 240, 3) := by decide +kernel
theorem dX6_tells_5 : decode cX6_tells 5 = .ok (.iconst 0, 1) := by decide +kernel
theorem dX6_tells_6 : decode cX6_tells 6 = .ok (.istore_n 2, 1) := by decide +kernel
theorem dX6_tells_7 : decode cX6_tells 7 = .ok (.iload_n 2, 1) := by decide +kernel
theorem dX6_tells_8 : decode cX6_tells 8 = .ok (.aload_n 0, 1) := by decide +kernel
theorem dX6_tells_9 : decode cX6_tells 9 = .ok (.getfield 202, 3) := by decide +kernel
theorem dX6_tells_12 : decode cX6_tells 12 = .ok (.if_icmp .ge 17, 3) := by decide +kernel
theorem dX6_tells_15 : decode cX6_tells 15 = .ok (.aload_n 0, 1) := by decide +kernel
theorem dX6_tells_16 : decode cX6_tells 16 = .ok (.getfield 92, 3) := by decide +kernel
theorem dX6_tells_19 : decode cX6_tells 19 = .ok (.iload_n 2, 1) := by decide +kernel
theorem dX6_tells_20 : decode cX6_tells 20 = .ok (.bipush (-9), 2) := by decide +kernel
theorem dX6_tells_22 : decode cX6_tells 22 = .ok (.iastore, 1) := by decide +kernel
theorem dX6_tells_23 : decode cX6_tells 23 = .ok (.iinc 2 1, 3) := by decide +kernel
theorem dX6_tells_26 : decode cX6_tells 26 = .ok (.goto (-19), 3) := by decide +kernel
theorem dX6_tells_29 : decode cX6_tells 29 = .ok (.iconst 0, 1) := by decide +kernel
theorem dX6_tells_30 : decode cX6_tells 30 = .ok (.istore_n 2, 1) := by decide +kernel
theorem dX6_tells_31 : decode cX6_tells 31 = .ok (.iload_n 2, 1) := by decide +kernel
theorem dX6_tells_32 : decode cX6_tells 32 = .ok (.aload_n 0, 1) := by decide +kernel
theorem dX6_tells_33 : decode cX6_tells 33 = .ok (.getfield 205, 3) := by decide +kernel
theorem dX6_tells_36 : decode cX6_tells 36 = .ok (.if_icmp .ge 201, 3) := by decide +kernel
theorem dX6_tells_39 : decode cX6_tells 39 = .ok (.iconst 0, 1) := by decide +kernel
theorem dX6_tells_40 : decode cX6_tells 40 = .ok (.istore_n 3, 1) := by decide +kernel
theorem dX6_tells_41 : decode cX6_tells 41 = .ok (.iload_n 3, 1) := by decide +kernel
theorem dX6_tells_42 : decode cX6_tells 42 = .ok (.aload_n 0, 1) := by decide +kernel
theorem dX6_tells_43 : decode cX6_tells 43 = .ok (.getfield 202, 3) := by decide +kernel
theorem dX6_tells_46 : decode cX6_tells 46 = .ok (.if_icmp .ge 185, 3) := by decide +kernel
theorem dX6_tells_49 : decode cX6_tells 49 = .ok (.aload_n 0, 1) := by decide +kernel
theorem dX6_tells_50 : decode cX6_tells 50 = .ok (.getfield 77, 3) := by decide +kernel
theorem dX6_tells_53 : decode cX6_tells 53 = .ok (.iload_n 3, 1) := by decide +kernel
theorem dX6_tells_54 : decode cX6_tells 54 = .ok (.iaload, 1) := by decide +kernel
theorem dX6_tells_55 : decode cX6_tells 55 = .ok (.istore 4, 2) := by decide +kernel
theorem dX6_tells_57 : decode cX6_tells 57 = .ok (.iload 4, 2) := by decide +kernel
theorem dX6_tells_59 : decode cX6_tells 59 = .ok (.invokestatic 185, 3) := by decide +kernel
theorem dX6_tells_62 : decode cX6_tells 62 = .ok (.ifCond .ne 32, 3) := by decide +kernel
theorem dX6_tells_65 : decode cX6_tells 65 = .ok (.iload_n 1, 1) := by decide +kernel
theorem dX6_tells_66 : decode cX6_tells 66 = .ok (.ifCond .eq 20, 3) := by decide +kernel
theorem dX6_tells_69 : decode cX6_tells 69 = .ok (.iload 4, 2) := by decide +kernel
theorem dX6_tells_71 : decode cX6_tells 71 = .ok (.bipush 62, 2) := by decide +kernel
theorem dX6_tells_73 : decode cX6_tells 73 = .ok (.if_icmp .eq 21, 3) := by decide +kernel
theorem dX6_tells_76 : decode cX6_tells 76 = .ok (.iload 4, 2) := by decide +kernel
theorem dX6_tells_78 : decode cX6_tells 78 = .ok (.bipush 33, 2) := by decide +kernel
theorem dX6_tells_80 : decode cX6_tells 80 = .ok (.if_icmp .ne 18, 3) := by decide +kernel
theorem dX6_tells_83 : decode cX6_tells 83 = .ok (.goto 11, 3) := by decide +kernel
theorem dX6_tells_86 : decode cX6_tells 86 = .ok (.aload_n 0, 1) := by decide +kernel
theorem dX6_tells_87 : decode cX6_tells 87 = .ok (.iload_n 3, 1) := by decide +kernel
theorem dX6_tells_88 : decode cX6_tells 88 = .ok (.invokevirtual 212, 3) := by decide +kernel
theorem dX6_tells_91 : decode cX6_tells 91 = .ok (.ifCond .eq 7, 3) := by decide +kernel
theorem dX6_tells_94 : decode cX6_tells 94 = .ok (.iconst 1, 1) := by decide +kernel
theorem dX6_tells_95 : decode cX6_tells 95 = .ok (.goto 4, 3) := by decide +kernel
theorem dX6_tells_98 : decode cX6_tells 98 = .ok (.iconst 0, 1) := by decide +kernel
theorem dX6_tells_99 : decode cX6_tells 99 = .ok (.istore 5, 2) := by decide +kernel
theorem dX6_tells_101 : decode cX6_tells 101 = .ok (.iload 5, 2) := by decide +kernel
theorem dX6_tells_103 : decode cX6_tells 103 = .ok (.ifCond .eq 122, 3) := by decide +kernel
theorem dX6_tells_106 : decode cX6_tells 106 = .ok (.aload_n 0, 1) := by decide +kernel
theorem dX6_tells_107 : decode cX6_tells 107 = .ok (.getfield 86, 3) := by decide +kernel
theorem dX6_tells_110 : decode cX6_tells 110 = .ok (.iload_n 3, 1) := by decide +kernel
theorem dX6_tells_111 : decode cX6_tells 111 = .ok (.iaload, 1) := by decide +kernel
theorem dX6_tells_112 : decode cX6_tells 112 = .ok (.iload_n 2, 1) := by decide +kernel
theorem dX6_tells_113 : decode cX6_tells 113 = .ok (.if_icmp .ne 112, 3) := by decide +kernel
theorem dX6_tells_116 : decode cX6_tells 116 = .ok (.iconst 0, 1) := by decide +kernel
theorem dX6_tells_117 : decode cX6_tells 117 = .ok (.istore 6, 2) := by decide +kernel
theorem dX6_tells_119 : decode cX6_tells 119 = .ok (.iload 6, 2) := by decide +kernel
theorem dX6_tells_121 : decode cX6_tells 121 = .ok (.aload_n 0, 1) := by decide +kernel
theorem dX6_tells_122 : decode cX6_tells 122 = .ok (.getfield 240, 3) := by decide +kernel
theorem dX6_tells_125 : decode cX6_tells 125 = .ok (.if_icmp .ge 48, 3) := by decide +kernel
theorem dX6_tells_128 : decode cX6_tells 128 = .ok (.aload_n 0, 1) := by decide +kernel
theorem dX6_tells_129 : decode cX6_tells 129 = .ok (.getfield 92, 3) := by decide +kernel
theorem dX6_tells_132 : decode cX6_tells 132 = .ok (.iload_n 3, 1) := by decide +kernel
theorem dX6_tells_133 : decode cX6_tells 133 = .ok (.iaload, 1) := by decide +kernel
theorem dX6_tells_134 : decode cX6_tells 134 = .ok (.bipush (-9), 2) := by decide +kernel
theorem dX6_tells_136 : decode cX6_tells 136 = .ok (.if_icmp .ne 37, 3) := by decide +kernel
theorem dX6_tells_139 : decode cX6_tells 139 = .ok (.aload_n 0, 1) := by decide +kernel
theorem dX6_tells_140 : decode cX6_tells 140 = .ok (.getfield 92, 3) := by decide +kernel
theorem dX6_tells_143 : decode cX6_tells 143 = .ok (.iload_n 3, 1) := by decide +kernel
theorem dX6_tells_144 : decode cX6_tells 144 = .ok (.aload_n 0, 1) := by decide +kernel
theorem dX6_tells_145 : decode cX6_tells 145 = .ok (.aload_n 0, 1) := by decide +kernel
theorem dX6_tells_146 : decode cX6_tells 146 = .ok (.getfield 95, 3) := by decide +kernel
theorem dX6_tells_149 : decode cX6_tells 149 = .ok (.iload 6, 2) := by decide +kernel
theorem dX6_tells_151 : decode cX6_tells 151 = .ok (.iaload, 1) := by decide +kernel
theorem dX6_tells_152 : decode cX6_tells 152 = .ok (.iload_n 3, 1) := by decide +kernel
theorem dX6_tells_153 : decode cX6_tells 153 = .ok (.invokevirtual 227, 3) := by decide +kernel
theorem dX6_tells_156 : decode cX6_tells 156 = .ok (.ifCond .eq 8, 3) := by decide +kernel
theorem dX6_tells_159 : decode cX6_tells 159 = .ok (.iload 6, 2) := by decide +kernel
theorem dX6_tells_161 : decode cX6_tells 161 = .ok (.goto 5, 3) := by decide +kernel
theorem dX6_tells_164 : decode cX6_tells 164 = .ok (.bipush (-9), 2) := by decide +kernel
theorem dX6_tells_166 : decode cX6_tells 166 = .ok (.iastore, 1) := by decide +kernel
theorem dX6_tells_167 : decode cX6_tells 167 = .ok (.iinc 6 1, 3) := by decide +kernel
theorem dX6_tells_170 : decode cX6_tells 170 = .ok (.goto (-51), 3) := by decide +kernel
theorem dX6_tells_173 : decode cX6_tells 173 = .ok (.aload_n 0, 1) := by decide +kernel
theorem dX6_tells_174 : decode cX6_tells 174 = .ok (.getfield 92, 3) := by decide +kernel
theorem dX6_tells_177 : decode cX6_tells 177 = .ok (.iload_n 3, 1) := by decide +kernel
theorem dX6_tells_178 : decode cX6_tells 178 = .ok (.iaload, 1) := by decide +kernel
theorem dX6_tells_179 : decode cX6_tells 179 = .ok (.bipush (-9), 2) := by decide +kernel
theorem dX6_tells_181 : decode cX6_tells 181 = .ok (.if_icmp .ne 44, 3) := by decide +kernel
theorem dX6_tells_184 : decode cX6_tells 184 = .ok (.aload_n 0, 1) := by decide +kernel
theorem dX6_tells_185 : decode cX6_tells 185 = .ok (.getfield 240, 3) := by decide +kernel
theorem dX6_tells_188 : decode cX6_tells 188 = .ok (.bipush 10, 2) := by decide +kernel
theorem dX6_tells_190 : decode cX6_tells 190 = .ok (.if_icmp .ne 5, 3) := by decide +kernel
theorem dX6_tells_193 : decode cX6_tells 193 = .ok (.iconst 0, 1) := by decide +kernel
theorem dX6_tells_194 : decode cX6_tells 194 = .ok (.ireturn, 1) := by decide +kernel
theorem dX6_tells_195 : decode cX6_tells 195 = .ok (.aload_n 0, 1) := by decide +kernel
theorem dX6_tells_196 : decode cX6_tells 196 = .ok (.getfield 92, 3) := by decide +kernel
theorem dX6_tells_199 : decode cX6_tells 199 = .ok (.iload_n 3, 1) := by decide +kernel
theorem dX6_tells_200 : decode cX6_tells 200 = .ok (.aload_n 0, 1) := by decide +kernel
theorem dX6_tells_201 : decode cX6_tells 201 = .ok (.getfield 240, 3) := by decide +kernel
theorem dX6_tells_204 : decode cX6_tells 204 = .ok (.iastore, 1) := by decide +kernel
theorem dX6_tells_205 : decode cX6_tells 205 = .ok (.aload_n 0, 1) := by decide +kernel
theorem dX6_tells_206 : decode cX6_tells 206 = .ok (.getfield 95, 3) := by decide +kernel
theorem dX6_tells_209 : decode cX6_tells 209 = .ok (.aload_n 0, 1) := by decide +kernel
theorem dX6_tells_210 : decode cX6_tells 210 = .ok (.getfield 240, 3) := by decide +kernel
theorem dX6_tells_213 : decode cX6_tells 213 = .ok (.iload_n 3, 1) := by decide +kernel
theorem dX6_tells_214 : decode cX6_tells 214 = .ok (.iastore, 1) := by decide +kernel
theorem dX6_tells_215 : decode cX6_tells 215 = .ok (.aload_n 0, 1) := by decide +kernel
theorem dX6_tells_216 : decode cX6_tells 216 = .ok (.dup, 1) := by decide +kernel
theorem dX6_tells_217 : decode cX6_tells 217 = .ok (.getfield 240, 3) := by decide +kernel
theorem dX6_tells_220 : decode cX6_tells 220 = .ok (.iconst 1, 1) := by decide +kernel
theorem dX6_tells_221 : decode cX6_tells 221 = .ok (.iadd, 1) := by decide +kernel
theorem dX6_tells_222 : decode cX6_tells 222 = .ok (.putfield 240, 3) := by decide +kernel
theorem dX6_tells_225 : decode cX6_tells 225 = .ok (.iinc 3 1, 3) := by decide +kernel
theorem dX6_tells_228 : decode cX6_tells 228 = .ok (.goto (-187), 3) := by decide +kernel
theorem dX6_tells_231 : decode cX6_tells 231 = .ok (.iinc 2 1, 3) := by decide +kernel
theorem dX6_tells_234 : decode cX6_tells 234 = .ok (.goto (-203), 3) := by decide +kernel
theorem dX6_tells_237 : decode cX6_tells 237 = .ok (.iconst 1, 1) := by decide +kernel
theorem dX6_tells_238 : decode cX6_tells 238 = .ok (.ireturn, 1) := by decide +kernel
theorem dX6_judges_0 : decode cX6_judges 0 = .ok (.iconst 0, 1) := by decide +kernel
theorem dX6_judges_1 : decode cX6_judges 1 = .ok (.istore_n 2, 1) := by decide +kernel
theorem dX6_judges_2 : decode cX6_judges 2 = .ok (.iconst 0, 1) := by decide +kernel
theorem dX6_judges_3 : decode cX6_judges 3 = .ok (.istore_n 3, 1) := by decide +kernel
theorem dX6_judges_4 : decode cX6_judges 4 = .ok (.iload_n 3, 1) := by decide +kernel
theorem dX6_judges_5 : decode cX6_judges 5 = .ok (.aload_n 0, 1) := by decide +kernel
theorem dX6_judges_6 : decode cX6_judges 6 = .ok (.getfield 202, 3) := by decide +kernel
theorem dX6_judges_9 : decode cX6_judges 9 = .ok (.if_icmp .ge 180, 3) := by decide +kernel
theorem dX6_judges_12 : decode cX6_judges 12 = .ok (.aload_n 0, 1) := by decide +kernel
theorem dX6_judges_13 : decode cX6_judges 13 = .ok (.getfield 77, 3) := by decide +kernel
theorem dX6_judges_16 : decode cX6_judges 16 = .ok (.iload_n 3, 1) := by decide +kernel
theorem dX6_judges_17 : decode cX6_judges 17 = .ok (.iaload, 1) := by decide +kernel
theorem dX6_judges_18 : decode cX6_judges 18 = .ok (.istore 4, 2) := by decide +kernel
theorem dX6_judges_20 : decode cX6_judges 20 = .ok (.iload 4, 2) := by decide +kernel
theorem dX6_judges_22 : decode cX6_judges 22 = .ok (.invokestatic 182, 3) := by decide +kernel
theorem dX6_judges_25 : decode cX6_judges 25 = .ok (.ifCond .ne 11, 3) := by decide +kernel
theorem dX6_judges_28 : decode cX6_judges 28 = .ok (.iload 4, 2) := by decide +kernel
theorem dX6_judges_30 : decode cX6_judges 30 = .ok (.invokestatic 192, 3) := by decide +kernel
theorem dX6_judges_33 : decode cX6_judges 33 = .ok (.ifCond .eq 17, 3) := by decide +kernel
theorem dX6_judges_36 : decode cX6_judges 36 = .ok (.aload_n 0, 1) := by decide +kernel
theorem dX6_judges_37 : decode cX6_judges 37 = .ok (.getfield 98, 3) := by decide +kernel
theorem dX6_judges_40 : decode cX6_judges 40 = .ok (.aload_n 0, 1) := by decide +kernel
theorem dX6_judges_41 : decode cX6_judges 41 = .ok (.getfield 80, 3) := by decide +kernel
theorem dX6_judges_44 : decode cX6_judges 44 = .ok (.iload_n 3, 1) := by decide +kernel
theorem dX6_judges_45 : decode cX6_judges 45 = .ok (.iaload, 1) := by decide +kernel
theorem dX6_judges_46 : decode cX6_judges 46 = .ok (.iaload, 1) := by decide +kernel
theorem dX6_judges_47 : decode cX6_judges 47 = .ok (.goto 4, 3) := by decide +kernel
theorem dX6_judges_50 : decode cX6_judges 50 = .ok (.iconst 0, 1) := by decide +kernel
theorem dX6_judges_51 : decode cX6_judges 51 = .ok (.istore 5, 2) := by decide +kernel
theorem dX6_judges_53 : decode cX6_judges 53 = .ok (.iload 4, 2) := by decide +kernel
theorem dX6_judges_55 : decode cX6_judges 55 = .ok (.invokestatic 192, 3) := by decide +kernel
theorem dX6_judges_58 : decode cX6_judges 58 = .ok (.ifCond .eq 17, 3) := by decide +kernel
theorem dX6_judges_61 : decode cX6_judges 61 = .ok (.aload_n 0, 1) := by decide +kernel
theorem dX6_judges_62 : decode cX6_judges 62 = .ok (.getfield 98, 3) := by decide +kernel
theorem dX6_judges_65 : decode cX6_judges 65 = .ok (.aload_n 0, 1) := by decide +kernel
theorem dX6_judges_66 : decode cX6_judges 66 = .ok (.getfield 83, 3) := by decide +kernel
theorem dX6_judges_69 : decode cX6_judges 69 = .ok (.iload_n 3, 1) := by decide +kernel
theorem dX6_judges_70 : decode cX6_judges 70 = .ok (.iaload, 1) := by decide +kernel
theorem dX6_judges_71 : decode cX6_judges 71 = .ok (.iaload, 1) := by decide +kernel
theorem dX6_judges_72 : decode cX6_judges 72 = .ok (.goto 4, 3) := by decide +kernel
theorem dX6_judges_75 : decode cX6_judges 75 = .ok (.iconst 0, 1) := by decide +kernel
theorem dX6_judges_76 : decode cX6_judges 76 = .ok (.istore 6, 2) := by decide +kernel
theorem dX6_judges_78 : decode cX6_judges 78 = .ok (.aload_n 0, 1) := by decide +kernel
theorem dX6_judges_79 : decode cX6_judges 79 = .ok (.getfield 92, 3) := by decide +kernel
theorem dX6_judges_82 : decode cX6_judges 82 = .ok (.iload_n 3, 1) := by decide +kernel
theorem dX6_judges_83 : decode cX6_judges 83 = .ok (.iaload, 1) := by decide +kernel
theorem dX6_judges_84 : decode cX6_judges 84 = .ok (.bipush (-9), 2) := by decide +kernel
theorem dX6_judges_86 : decode cX6_judges 86 = .ok (.if_icmp .eq 16, 3) := by decide +kernel
theorem dX6_judges_89 : decode cX6_judges 89 = .ok (.iload_n 1, 1) := by decide +kernel
theorem dX6_judges_90 : decode cX6_judges 90 = .ok (.aload_n 0, 1) := by decide +kernel
theorem dX6_judges_91 : decode cX6_judges 91 = .ok (.getfield 92, 3) := by decide +kernel
theorem dX6_judges_94 : decode cX6_judges 94 = .ok (.iload_n 3, 1) := by decide +kernel
theorem dX6_judges_95 : decode cX6_judges 95 = .ok (.iaload, 1) := by decide +kernel
theorem dX6_judges_96 : decode cX6_judges 96 = .ok (.ishr, 1) := by decide +kernel
theorem dX6_judges_97 : decode cX6_judges 97 = .ok (.iconst 1, 1) := by decide +kernel
theorem dX6_judges_98 : decode cX6_judges 98 = .ok (.iand, 1) := by decide +kernel
theorem dX6_judges_99 : decode cX6_judges 99 = .ok (.goto 76, 3) := by decide +kernel
theorem dX6_judges_102 : decode cX6_judges 102 = .ok (.iload 4, 2) := by decide +kernel
theorem dX6_judges_104 : decode cX6_judges 104 = .ok (.bipush 84, 2) := by decide +kernel
theorem dX6_judges_106 : decode cX6_judges 106 = .ok (.if_icmp .ne 7, 3) := by decide +kernel
theorem dX6_judges_109 : decode cX6_judges 109 = .ok (.iconst 1, 1) := by decide +kernel
theorem dX6_judges_110 : decode cX6_judges 110 = .ok (.goto 65, 3) := by decide +kernel
theorem dX6_judges_113 : decode cX6_judges 113 = .ok (.iload 4, 2) := by decide +kernel
theorem dX6_judges_115 : decode cX6_judges 115 = .ok (.bipush 70, 2) := by decide +kernel
theorem dX6_judges_117 : decode cX6_judges 117 = .ok (.if_icmp .ne 7, 3) := by decide +kernel
theorem dX6_judges_120 : decode cX6_judges 120 = .ok (.iconst 0, 1) := by decide +kernel
theorem dX6_judges_121 : decode cX6_judges 121 = .ok (.goto 54, 3) := by decide +kernel
theorem dX6_judges_124 : decode cX6_judges 124 = .ok (.iload 4, 2) := by decide +kernel
theorem dX6_judges_126 : decode cX6_judges 126 = .ok (.bipush 33, 2) := by decide +kernel
theorem dX6_judges_128 : decode cX6_judges 128 = .ok (.if_icmp .ne 10, 3) := by decide +kernel
theorem dX6_judges_131 : decode cX6_judges 131 = .ok (.iconst 1, 1) := by decide +kernel
theorem dX6_judges_132 : decode cX6_judges 132 = .ok (.iload 5, 2) := by decide +kernel
theorem dX6_judges_134 : decode cX6_judges 134 = .ok (.isub, 1) := by decide +kernel
theorem dX6_judges_135 : decode cX6_judges 135 = .ok (.goto 40, 3) := by decide +kernel
theorem dX6_judges_138 : decode cX6_judges 138 = .ok (.iload 4, 2) := by decide +kernel
theorem dX6_judges_140 : decode cX6_judges 140 = .ok (.bipush 38, 2) := by decide +kernel
theorem dX6_judges_142 : decode cX6_judges 142 = .ok (.if_icmp .ne 11, 3) := by decide +kernel
theorem dX6_judges_145 : decode cX6_judges 145 = .ok (.iload 5, 2) := by decide +kernel
theorem dX6_judges_147 : decode cX6_judges 147 = .ok (.iload 6, 2) := by decide +kernel
theorem dX6_judges_149 : decode cX6_judges 149 = .ok (.iand, 1) := by decide +kernel
theorem dX6_judges_150 : decode cX6_judges 150 = .ok (.goto 25, 3) := by decide +kernel
theorem dX6_judges_153 : decode cX6_judges 153 = .ok (.iload 4, 2) := by decide +kernel
theorem dX6_judges_155 : decode cX6_judges 155 = .ok (.bipush 124, 2) := by decide +kernel
theorem dX6_judges_157 : decode cX6_judges 157 = .ok (.if_icmp .ne 11, 3) := by decide +kernel
theorem dX6_judges_160 : decode cX6_judges 160 = .ok (.iload 5, 2) := by decide +kernel
theorem dX6_judges_162 : decode cX6_judges 162 = .ok (.iload 6, 2) := by decide +kernel
theorem dX6_judges_164 : decode cX6_judges 164 = .ok (.ior, 1) := by decide +kernel
theorem dX6_judges_165 : decode cX6_judges 165 = .ok (.goto 10, 3) := by decide +kernel
theorem dX6_judges_168 : decode cX6_judges 168 = .ok (.iconst 1, 1) := by decide +kernel
theorem dX6_judges_169 : decode cX6_judges 169 = .ok (.iload 5, 2) := by decide +kernel
theorem dX6_judges_171 : decode cX6_judges 171 = .ok (.isub, 1) := by decide +kernel
theorem dX6_judges_172 : decode cX6_judges 172 = .ok (.iload 6, 2) := by decide +kernel
theorem dX6_judges_174 : decode cX6_judges 174 = .ok (.ior, 1) := by decide +kernel
theorem dX6_judges_175 : decode cX6_judges 175 = .ok (.istore_n 2, 1) := by decide +kernel
theorem dX6_judges_176 : decode cX6_judges 176 = .ok (.aload_n 0, 1) := by decide +kernel
theorem dX6_judges_177 : decode cX6_judges 177 = .ok (.getfield 98, 3) := by decide +kernel
theorem dX6_judges_180 : decode cX6_judges 180 = .ok (.iload_n 3, 1) := by decide +kernel
theorem dX6_judges_181 : decode cX6_judges 181 = .ok (.iload_n 2, 1) := by decide +kernel
theorem dX6_judges_182 : decode cX6_judges 182 = .ok (.iastore, 1) := by decide +kernel
theorem dX6_judges_183 : decode cX6_judges 183 = .ok (.iinc 3 1, 3) := by decide +kernel
theorem dX6_judges_186 : decode cX6_judges 186 = .ok (.goto (-182), 3) := by decide +kernel
theorem dX6_judges_189 : decode cX6_judges 189 = .ok (.aload_n 0, 1) := by decide +kernel
theorem dX6_judges_190 : decode cX6_judges 190 = .ok (.getfield 107, 3) := by decide +kernel
theorem dX6_judges_193 : decode cX6_judges 193 = .ok (.iload_n 1, 1) := by decide +kernel
theorem dX6_judges_194 : decode cX6_judges 194 = .ok (.iload_n 2, 1) := by decide +kernel
theorem dX6_judges_195 : decode cX6_judges 195 = .ok (.iconst 1, 1) := by decide +kernel
theorem dX6_judges_196 : decode cX6_judges 196 = .ok (.if_icmp .ne 7, 3) := by decide +kernel
theorem dX6_judges_199 : decode cX6_judges 199 = .ok (.iconst 1, 1) := by decide +kernel
theorem dX6_judges_200 : decode cX6_judges 200 = .ok (.goto 4, 3) := by decide +kernel
theorem dX6_judges_203 : decode cX6_judges 203 = .ok (.iconst 0, 1) := by decide +kernel
theorem dX6_judges_204 : decode cX6_judges 204 = .ok (.bastore, 1) := by decide +kernel
theorem dX6_judges_205 : decode cX6_judges 205 = .ok (.return_, 1) := by decide +kernel
theorem dX6_types_0 : decode cX6_types 0 = .ok (.aload_n 0, 1) := by decide +kernel
theorem dX6_types_1 : decode cX6_types 1 = .ok (.iconst 0, 1) := by decide +kernel
theorem dX6_types_2 : decode cX6_types 2 = .ok (.putfield 243, 3) := by decide +kernel
theorem dX6_types_5 : decode cX6_types 5 = .ok (.aload_n 0, 1) := by decide +kernel
theorem dX6_types_6 : decode cX6_types 6 = .ok (.iconst 0, 1) := by decide +kernel
theorem dX6_types_7 : decode cX6_types 7 = .ok (.putfield 246, 3) := by decide +kernel
theorem dX6_types_10 : decode cX6_types 10 = .ok (.iconst 0, 1) := by decide +kernel
theorem dX6_types_11 : decode cX6_types 11 = .ok (.istore_n 1, 1) := by decide +kernel
theorem dX6_types_12 : decode cX6_types 12 = .ok (.iload_n 1, 1) := by decide +kernel
theorem dX6_types_13 : decode cX6_types 13 = .ok (.aload_n 0, 1) := by decide +kernel
theorem dX6_types_14 : decode cX6_types 14 = .ok (.getfield 240, 3) := by decide +kernel
theorem dX6_types_17 : decode cX6_types 17 = .ok (.if_icmp .ge 73, 3) := by decide +kernel
theorem dX6_types_20 : decode cX6_types 20 = .ok (.aload_n 0, 1) := by decide +kernel
theorem dX6_types_21 : decode cX6_types 21 = .ok (.dup, 1) := by decide +kernel
theorem dX6_types_22 : decode cX6_types 22 = .ok (.getfield 243, 3) := by decide +kernel
theorem dX6_types_25 : decode cX6_types 25 = .ok (.aload_n 0, 1) := by decide +kernel
theorem dX6_types_26 : decode cX6_types 26 = .ok (.getfield 77, 3) := by decide +kernel
theorem dX6_types_29 : decode cX6_types 29 = .ok (.aload_n 0, 1) := by decide +kernel
theorem dX6_types_30 : decode cX6_types 30 = .ok (.getfield 95, 3) := by decide +kernel
theorem dX6_types_33 : decode cX6_types 33 = .ok (.iload_n 1, 1) := by decide +kernel
theorem dX6_types_34 : decode cX6_types 34 = .ok (.iaload, 1) := by decide +kernel
theorem dX6_types_35 : decode cX6_types 35 = .ok (.iaload, 1) := by decide +kernel
theorem dX6_types_36 : decode cX6_types 36 = .ok (.bipush 91, 2) := by decide +kernel
theorem dX6_types_38 : decode cX6_types 38 = .ok (.if_icmp .ne 9, 3) := by decide +kernel
theorem dX6_types_41 : decode cX6_types 41 = .ok (.iconst 1, 1) := by decide +kernel
theorem dX6_types_42 : decode cX6_types 42 = .ok (.iload_n 1, 1) := by decide +kernel
theorem dX6_types_43 : decode cX6_types 43 = .ok (.ishl, 1) := by decide +kernel
theorem dX6_types_44 : decode cX6_types 44 = .ok (.goto 4, 3) := by decide +kernel
theorem dX6_types_47 : decode cX6_types 47 = .ok (.iconst 0, 1) := by decide +kernel
theorem dX6_types_48 : decode cX6_types 48 = .ok (.ior, 1) := by decide +kernel
theorem dX6_types_49 : decode cX6_types 49 = .ok (.putfield 243, 3) := by decide +kernel
theorem dX6_types_52 : decode cX6_types 52 = .ok (.aload_n 0, 1) := by decide +kernel
theorem dX6_types_53 : decode cX6_types 53 = .ok (.dup, 1) := by decide +kernel
theorem dX6_types_54 : decode cX6_types 54 = .ok (.getfield 246, 3) := by decide +kernel
theorem dX6_types_57 : decode cX6_types 57 = .ok (.aload_n 0, 1) := by decide +kernel
theorem dX6_types_58 : decode cX6_types 58 = .ok (.getfield 77, 3) := by decide +kernel
theorem dX6_types_61 : decode cX6_types 61 = .ok (.aload_n 0, 1) := by decide +kernel
theorem dX6_types_62 : decode cX6_types 62 = .ok (.getfield 95, 3) := by decide +kernel
theorem dX6_types_65 : decode cX6_types 65 = .ok (.iload_n 1, 1) := by decide +kernel
theorem dX6_types_66 : decode cX6_types 66 = .ok (.iaload, 1) := by decide +kernel
theorem dX6_types_67 : decode cX6_types 67 = .ok (.iaload, 1) := by decide +kernel
theorem dX6_types_68 : decode cX6_types 68 = .ok (.bipush 123, 2) := by decide +kernel
theorem dX6_types_70 : decode cX6_types 70 = .ok (.if_icmp .ne 9, 3) := by decide +kernel
theorem dX6_types_73 : decode cX6_types 73 = .ok (.iconst 1, 1) := by decide +kernel
theorem dX6_types_74 : decode cX6_types 74 = .ok (.iload_n 1, 1) := by decide +kernel
theorem dX6_types_75 : decode cX6_types 75 = .ok (.ishl, 1) := by decide +kernel
theorem dX6_types_76 : decode cX6_types 76 = .ok (.goto 4, 3) := by decide +kernel
theorem dX6_types_79 : decode cX6_types 79 = .ok (.iconst 0, 1) := by decide +kernel
theorem dX6_types_80 : decode cX6_types 80 = .ok (.ior, 1) := by decide +kernel
theorem dX6_types_81 : decode cX6_types 81 = .ok (.putfield 246, 3) := by decide +kernel
theorem dX6_types_84 : decode cX6_types 84 = .ok (.iinc 1 1, 3) := by decide +kernel
theorem dX6_types_87 : decode cX6_types 87 = .ok (.goto (-75), 3) := by decide +kernel
theorem dX6_types_90 : decode cX6_types 90 = .ok (.iconst 0, 1) := by decide +kernel
theorem dX6_types_91 : decode cX6_types 91 = .ok (.istore_n 1, 1) := by decide +kernel
theorem dX6_types_92 : decode cX6_types 92 = .ok (.iload_n 1, 1) := by decide +kernel
theorem dX6_types_93 : decode cX6_types 93 = .ok (.iconst 1, 1) := by decide +kernel
theorem dX6_types_94 : decode cX6_types 94 = .ok (.aload_n 0, 1) := by decide +kernel
theorem dX6_types_95 : decode cX6_types 95 = .ok (.getfield 240, 3) := by decide +kernel
theorem dX6_types_98 : decode cX6_types 98 = .ok (.ishl, 1) := by decide +kernel
theorem dX6_types_99 : decode cX6_types 99 = .ok (.if_icmp .ge 117, 3) := by decide +kernel
theorem dX6_types_102 : decode cX6_types 102 = .ok (.aload_n 0, 1) := by decide +kernel
theorem dX6_types_103 : decode cX6_types 103 = .ok (.iload_n 1, 1) := by decide +kernel
theorem dX6_types_104 : decode cX6_types 104 = .ok (.invokevirtual 249, 3) := by decide +kernel
theorem dX6_types_107 : decode cX6_types 107 = .ok (.aload_n 0, 1) := by decide +kernel
theorem dX6_types_108 : decode cX6_types 108 = .ok (.getfield 101, 3) := by decide +kernel
theorem dX6_types_111 : decode cX6_types 111 = .ok (.iload_n 1, 1) := by decide +kernel
theorem dX6_types_112 : decode cX6_types 112 = .ok (.iload_n 1, 1) := by decide +kernel
theorem dX6_types_113 : decode cX6_types 113 = .ok (.aload_n 0, 1) := by decide +kernel
theorem dX6_types_114 : decode cX6_types 114 = .ok (.getfield 243, 3) := by decide +kernel
theorem dX6_types_117 : decode cX6_types 117 = .ok (.aload_n 0, 1) := by decide +kernel
theorem dX6_types_118 : decode cX6_types 118 = .ok (.getfield 246, 3) := by decide +kernel
theorem dX6_types_121 : decode cX6_types 121 = .ok (.ior, 1) := by decide +kernel
theorem dX6_types_122 : decode cX6_types 122 = .ok (.iand, 1) := by decide +kernel
theorem dX6_types_123 : decode cX6_types 123 = .ok (.iastore, 1) := by decide +kernel
theorem dX6_types_124 : decode cX6_types 124 = .ok (.aload_n 0, 1) := by decide +kernel
theorem dX6_types_125 : decode cX6_types 125 = .ok (.getfield 104, 3) := by decide +kernel
theorem dX6_types_128 : decode cX6_types 128 = .ok (.iload_n 1, 1) := by decide +kernel
theorem dX6_types_129 : decode cX6_types 129 = .ok (.iconst 0, 1) := by decide +kernel
theorem dX6_types_130 : decode cX6_types 130 = .ok (.iastore, 1) := by decide +kernel
theorem dX6_types_131 : decode cX6_types 131 = .ok (.iconst 0, 1) := by decide +kernel
theorem dX6_types_132 : decode cX6_types 132 = .ok (.istore_n 2, 1) := by decide +kernel
theorem dX6_types_133 : decode cX6_types 133 = .ok (.iload_n 2, 1) := by decide +kernel
theorem dX6_types_134 : decode cX6_types 134 = .ok (.aload_n 0, 1) := by decide +kernel
theorem dX6_types_135 : decode cX6_types 135 = .ok (.getfield 240, 3) := by decide +kernel
theorem dX6_types_138 : decode cX6_types 138 = .ok (.if_icmp .ge 72, 3) := by decide +kernel
theorem dX6_types_141 : decode cX6_types 141 = .ok (.aload_n 0, 1) := by decide +kernel
theorem dX6_types_142 : decode cX6_types 142 = .ok (.getfield 243, 3) := by decide +kernel
theorem dX6_types_145 : decode cX6_types 145 = .ok (.aload_n 0, 1) := by decide +kernel
theorem dX6_types_146 : decode cX6_types 146 = .ok (.getfield 246, 3) := by decide +kernel
theorem dX6_types_149 : decode cX6_types 149 = .ok (.ior, 1) := by decide +kernel
theorem dX6_types_150 : decode cX6_types 150 = .ok (.iload_n 2, 1) := by decide +kernel
theorem dX6_types_151 : decode cX6_types 151 = .ok (.ishr, 1) := by decide +kernel
theorem dX6_types_152 : decode cX6_types 152 = .ok (.iconst 1, 1) := by decide +kernel
theorem dX6_types_153 : decode cX6_types 153 = .ok (.iand, 1) := by decide +kernel
theorem dX6_types_154 : decode cX6_types 154 = .ok (.iconst 1, 1) := by decide +kernel
theorem dX6_types_155 : decode cX6_types 155 = .ok (.if_icmp .ne 27, 3) := by decide +kernel
theorem dX6_types_158 : decode cX6_types 158 = .ok (.aload_n 0, 1) := by decide +kernel
theorem dX6_types_159 : decode cX6_types 159 = .ok (.getfield 98, 3) := by decide +kernel
theorem dX6_types_162 : decode cX6_types 162 = .ok (.aload_n 0, 1) := by decide +kernel
theorem dX6_types_163 : decode cX6_types 163 = .ok (.getfield 80, 3) := by decide +kernel
theorem dX6_types_166 : decode cX6_types 166 = .ok (.aload_n 0, 1) := by decide +kernel
theorem dX6_types_167 : decode cX6_types 167 = .ok (.getfield 95, 3) := by decide +kernel
theorem dX6_types_170 : decode cX6_types 170 = .ok (.iload_n 2, 1) := by decide +kernel
theorem dX6_types_171 : decode cX6_types 171 = .ok (.iaload, 1) := by decide +kernel
theorem dX6_types_172 : decode cX6_types 172 = .ok (.iaload, 1) := by decide +kernel
theorem dX6_types_173 : decode cX6_types 173 = .ok (.iaload, 1) := by decide +kernel
theorem dX6_types_174 : decode cX6_types 174 = .ok (.iconst 1, 1) := by decide +kernel
theorem dX6_types_175 : decode cX6_types 175 = .ok (.if_icmp .ne 7, 3) := by decide +kernel
theorem dX6_types_178 : decode cX6_types 178 = .ok (.iconst 1, 1) := by decide +kernel
theorem dX6_types_179 : decode cX6_types 179 = .ok (.goto 4, 3) := by decide +kernel
theorem dX6_types_182 : decode cX6_types 182 = .ok (.iconst 0, 1) := by decide +kernel
theorem dX6_types_183 : decode cX6_types 183 = .ok (.istore_n 3, 1) := by decide +kernel
theorem dX6_types_184 : decode cX6_types 184 = .ok (.aload_n 0, 1) := by decide +kernel
theorem dX6_types_185 : decode cX6_types 185 = .ok (.getfield 104, 3) := by decide +kernel
theorem dX6_types_188 : decode cX6_types 188 = .ok (.iload_n 1, 1) := by decide +kernel
theorem dX6_types_189 : decode cX6_types 189 = .ok (.dup2, 1) := by decide +kernel
theorem dX6_types_190 : decode cX6_types 190 = .ok (.iaload, 1) := by decide +kernel
theorem dX6_types_191 : decode cX6_types 191 = .ok (.iload_n 3, 1) := by decide +kernel
theorem dX6_types_192 : decode cX6_types 192 = .ok (.ifCond .eq 9, 3) := by decide +kernel
theorem dX6_types_195 : decode cX6_types 195 = .ok (.iconst 1, 1) := by decide +kernel
theorem dX6_types_196 : decode cX6_types 196 = .ok (.iload_n 2, 1) := by decide +kernel
theorem dX6_types_197 : decode cX6_types 197 = .ok (.ishl, 1) := by decide +kernel
theorem dX6_types_198 : decode cX6_types 198 = .ok (.goto 4, 3) := by decide +kernel
theorem dX6_types_201 : decode cX6_types 201 = .ok (.iconst 0, 1) := by decide +kernel
theorem dX6_types_202 : decode cX6_types 202 = .ok (.ior, 1) := by decide +kernel
theorem dX6_types_203 : decode cX6_types 203 = .ok (.iastore, 1) := by decide +kernel
theorem dX6_types_204 : decode cX6_types 204 = .ok (.iinc 2 1, 3) := by decide +kernel
theorem dX6_types_207 : decode cX6_types 207 = .ok (.goto (-74), 3) := by decide +kernel
theorem dX6_types_210 : decode cX6_types 210 = .ok (.iinc 1 1, 3) := by decide +kernel
theorem dX6_types_213 : decode cX6_types 213 = .ok (.goto (-121), 3) := by decide +kernel
theorem dX6_types_216 : decode cX6_types 216 = .ok (.return_, 1) := by decide +kernel
theorem dX6_lets_0 : decode cX6_lets 0 = .ok (.aload_n 0, 1) := by decide +kernel
theorem dX6_lets_1 : decode cX6_lets 1 = .ok (.getfield 101, 3) := by decide +kernel
theorem dX6_lets_4 : decode cX6_lets 4 = .ok (.iload_n 1, 1) := by decide +kernel
theorem dX6_lets_5 : decode cX6_lets 5 = .ok (.iaload, 1) := by decide +kernel
theorem dX6_lets_6 : decode cX6_lets 6 = .ok (.aload_n 0, 1) := by decide +kernel
theorem dX6_lets_7 : decode cX6_lets 7 = .ok (.getfield 243, 3) := by decide +kernel
theorem dX6_lets_10 : decode cX6_lets 10 = .ok (.iand, 1) := by decide +kernel
theorem dX6_lets_11 : decode cX6_lets 11 = .ok (.istore 4, 2) := by decide +kernel
theorem dX6_lets_13 : decode cX6_lets 13 = .ok (.aload_n 0, 1) := by decide +kernel
theorem dX6_lets_14 : decode cX6_lets 14 = .ok (.getfield 101, 3) := by decide +kernel
theorem dX6_lets_17 : decode cX6_lets 17 = .ok (.iload_n 1, 1) := by decide +kernel
theorem dX6_lets_18 : decode cX6_lets 18 = .ok (.iaload, 1) := by decide +kernel
theorem dX6_lets_19 : decode cX6_lets 19 = .ok (.iconst (-1), 1) := by decide +kernel
theorem dX6_lets_20 : decode cX6_lets 20 = .ok (.ixor, 1) := by decide +kernel
theorem dX6_lets_21 : decode cX6_lets 21 = .ok (.aload_n 0, 1) := by decide +kernel
theorem dX6_lets_22 : decode cX6_lets 22 = .ok (.getfield 246, 3) := by decide +kernel
theorem dX6_lets_25 : decode cX6_lets 25 = .ok (.iand, 1) := by decide +kernel
theorem dX6_lets_26 : decode cX6_lets 26 = .ok (.istore 5, 2) := by decide +kernel
theorem dX6_lets_28 : decode cX6_lets 28 = .ok (.iload 4, 2) := by decide +kernel
theorem dX6_lets_30 : decode cX6_lets 30 = .ok (.aload_n 0, 1) := by decide +kernel
theorem dX6_lets_31 : decode cX6_lets 31 = .ok (.getfield 104, 3) := by decide +kernel
theorem dX6_lets_34 : decode cX6_lets 34 = .ok (.iload_n 2, 1) := by decide +kernel
theorem dX6_lets_35 : decode cX6_lets 35 = .ok (.iaload, 1) := by decide +kernel
theorem dX6_lets_36 : decode cX6_lets 36 = .ok (.iconst (-1), 1) := by decide +kernel
theorem dX6_lets_37 : decode cX6_lets 37 = .ok (.ixor, 1) := by decide +kernel
theorem dX6_lets_38 : decode cX6_lets 38 = .ok (.iand, 1) := by decide +kernel
theorem dX6_lets_39 : decode cX6_lets 39 = .ok (.ifCond .ne 19, 3) := by decide +kernel
theorem dX6_lets_42 : decode cX6_lets 42 = .ok (.iload 5, 2) := by decide +kernel
theorem dX6_lets_44 : decode cX6_lets 44 = .ok (.aload_n 0, 1) := by decide +kernel
theorem dX6_lets_45 : decode cX6_lets 45 = .ok (.getfield 104, 3) := by decide +kernel
theorem dX6_lets_48 : decode cX6_lets 48 = .ok (.iload_n 2, 1) := by decide +kernel
theorem dX6_lets_49 : decode cX6_lets 49 = .ok (.iaload, 1) := by decide +kernel
theorem dX6_lets_50 : decode cX6_lets 50 = .ok (.iand, 1) := by decide +kernel
theorem dX6_lets_51 : decode cX6_lets 51 = .ok (.ifCond .ne 7, 3) := by decide +kernel
theorem dX6_lets_54 : decode cX6_lets 54 = .ok (.iconst 1, 1) := by decide +kernel
theorem dX6_lets_55 : decode cX6_lets 55 = .ok (.goto 4, 3) := by decide +kernel
theorem dX6_lets_58 : decode cX6_lets 58 = .ok (.iconst 0, 1) := by decide +kernel
theorem dX6_lets_59 : decode cX6_lets 59 = .ok (.istore 6, 2) := by decide +kernel
theorem dX6_lets_61 : decode cX6_lets 61 = .ok (.iload 6, 2) := by decide +kernel
theorem dX6_lets_63 : decode cX6_lets 63 = .ok (.ifCond .eq 37, 3) := by decide +kernel
theorem dX6_lets_66 : decode cX6_lets 66 = .ok (.iload_n 3, 1) := by decide +kernel
theorem dX6_lets_67 : decode cX6_lets 67 = .ok (.ifCond .eq 29, 3) := by decide +kernel
theorem dX6_lets_70 : decode cX6_lets 70 = .ok (.iload 4, 2) := by decide +kernel
theorem dX6_lets_72 : decode cX6_lets 72 = .ok (.aload_n 0, 1) := by decide +kernel
theorem dX6_lets_73 : decode cX6_lets 73 = .ok (.getfield 101, 3) := by decide +kernel
theorem dX6_lets_76 : decode cX6_lets 76 = .ok (.iload_n 2, 1) := by decide +kernel
theorem dX6_lets_77 : decode cX6_lets 77 = .ok (.iaload, 1) := by decide +kernel
theorem dX6_lets_78 : decode cX6_lets 78 = .ok (.iconst (-1), 1) := by decide +kernel
theorem dX6_lets_79 : decode cX6_lets 79 = .ok (.ixor, 1) := by decide +kernel
theorem dX6_lets_80 : decode cX6_lets 80 = .ok (.iand, 1) := by decide +kernel
theorem dX6_lets_81 : decode cX6_lets 81 = .ok (.ifCond .ne 19, 3) := by decide +kernel
theorem dX6_lets_84 : decode cX6_lets 84 = .ok (.iload 5, 2) := by decide +kernel
theorem dX6_lets_86 : decode cX6_lets 86 = .ok (.aload_n 0, 1) := by decide +kernel
theorem dX6_lets_87 : decode cX6_lets 87 = .ok (.getfield 101, 3) := by decide +kernel
theorem dX6_lets_90 : decode cX6_lets 90 = .ok (.iload_n 2, 1) := by decide +kernel
theorem dX6_lets_91 : decode cX6_lets 91 = .ok (.iaload, 1) := by decide +kernel
theorem dX6_lets_92 : decode cX6_lets 92 = .ok (.iand, 1) := by decide +kernel
theorem dX6_lets_93 : decode cX6_lets 93 = .ok (.ifCond .ne 7, 3) := by decide +kernel
theorem dX6_lets_96 : decode cX6_lets 96 = .ok (.iconst 1, 1) := by decide +kernel
theorem dX6_lets_97 : decode cX6_lets 97 = .ok (.goto 4, 3) := by decide +kernel
theorem dX6_lets_100 : decode cX6_lets 100 = .ok (.iconst 0, 1) := by decide +kernel
theorem dX6_lets_101 : decode cX6_lets 101 = .ok (.ireturn, 1) := by decide +kernel
theorem dX6_maySee_0 : decode cX6_maySee 0 = .ok (.aload_n 0, 1) := by decide +kernel
theorem dX6_maySee_1 : decode cX6_maySee 1 = .ok (.iload_n 2, 1) := by decide +kernel
theorem dX6_maySee_2 : decode cX6_maySee 2 = .ok (.iload_n 3, 1) := by decide +kernel
theorem dX6_maySee_3 : decode cX6_maySee 3 = .ok (.iload_n 1, 1) := by decide +kernel
theorem dX6_maySee_4 : decode cX6_maySee 4 = .ok (.iconst 3, 1) := by decide +kernel
theorem dX6_maySee_5 : decode cX6_maySee 5 = .ok (.if_icmp .eq 8, 3) := by decide +kernel
theorem dX6_maySee_8 : decode cX6_maySee 8 = .ok (.iload_n 1, 1) := by decide +kernel
theorem dX6_maySee_9 : decode cX6_maySee 9 = .ok (.iconst 4, 1) := by decide +kernel
theorem dX6_maySee_10 : decode cX6_maySee 10 = .ok (.if_icmp .ne 7, 3) := by decide +kernel
theorem dX6_maySee_13 : decode cX6_maySee 13 = .ok (.iconst 1, 1) := by decide +kernel
theorem dX6_maySee_14 : decode cX6_maySee 14 = .ok (.goto 4, 3) := by decide +kernel
theorem dX6_maySee_17 : decode cX6_maySee 17 = .ok (.iconst 0, 1) := by decide +kernel
theorem dX6_maySee_18 : decode cX6_maySee 18 = .ok (.invokevirtual 252, 3) := by decide +kernel
theorem dX6_maySee_21 : decode cX6_maySee 21 = .ok (.istore 4, 2) := by decide +kernel
theorem dX6_maySee_23 : decode cX6_maySee 23 = .ok (.iload_n 1, 1) := by decide +kernel
theorem dX6_maySee_24 : decode cX6_maySee 24 = .ok (.iconst 4, 1) := by decide +kernel
theorem dX6_maySee_25 : decode cX6_maySee 25 = .ok (.if_icmp .le 25, 3) := by decide +kernel
theorem dX6_maySee_28 : decode cX6_maySee 28 = .ok (.iload 4, 2) := by decide +kernel
theorem dX6_maySee_30 : decode cX6_maySee 30 = .ok (.ifCond .eq 17, 3) := by decide +kernel
theorem dX6_maySee_33 : decode cX6_maySee 33 = .ok (.aload_n 0, 1) := by decide +kernel
theorem dX6_maySee_34 : decode cX6_maySee 34 = .ok (.iload_n 3, 1) := by decide +kernel
theorem dX6_maySee_35 : decode cX6_maySee 35 = .ok (.iload_n 2, 1) := by decide +kernel
theorem dX6_maySee_36 : decode cX6_maySee 36 = .ok (.iconst 0, 1) := by decide +kernel
theorem dX6_maySee_37 : decode cX6_maySee 37 = .ok (.invokevirtual 252, 3) := by decide +kernel
theorem dX6_maySee_40 : decode cX6_maySee 40 = .ok (.ifCond .eq 7, 3) := by decide +kernel
theorem dX6_maySee_43 : decode cX6_maySee 43 = .ok (.iconst 1, 1) := by decide +kernel
theorem dX6_maySee_44 : decode cX6_maySee 44 = .ok (.goto 4, 3) := by decide +kernel
theorem dX6_maySee_47 : decode cX6_maySee 47 = .ok (.iconst 0, 1) := by decide +kernel
theorem dX6_maySee_48 : decode cX6_maySee 48 = .ok (.istore 4, 2) := by decide +kernel
theorem dX6_maySee_50 : decode cX6_maySee 50 = .ok (.iload 4, 2) := by decide +kernel
theorem dX6_maySee_52 : decode cX6_maySee 52 = .ok (.ifCond .eq 28, 3) := by decide +kernel
theorem dX6_maySee_55 : decode cX6_maySee 55 = .ok (.iload_n 1, 1) := by decide +kernel
theorem dX6_maySee_56 : decode cX6_maySee 56 = .ok (.bipush 7, 2) := by decide +kernel
theorem dX6_maySee_58 : decode cX6_maySee 58 = .ok (.if_icmp .ne 18, 3) := by decide +kernel
theorem dX6_maySee_61 : decode cX6_maySee 61 = .ok (.aload_n 0, 1) := by decide +kernel
theorem dX6_maySee_62 : decode cX6_maySee 62 = .ok (.getfield 101, 3) := by decide +kernel
theorem dX6_maySee_65 : decode cX6_maySee 65 = .ok (.iload_n 2, 1) := by decide +kernel
theorem dX6_maySee_66 : decode cX6_maySee 66 = .ok (.iaload, 1) := by decide +kernel
theorem dX6_maySee_67 : decode cX6_maySee 67 = .ok (.aload_n 0, 1) := by decide +kernel
theorem dX6_maySee_68 : decode cX6_maySee 68 = .ok (.getfield 101, 3) := by decide +kernel
theorem dX6_maySee_71 : decode cX6_maySee 71 = .ok (.iload_n 3, 1) := by decide +kernel
theorem dX6_maySee_72 : decode cX6_maySee 72 = .ok (.iaload, 1) := by decide +kernel
theorem dX6_maySee_73 : decode cX6_maySee 73 = .ok (.if_icmp .ne 7, 3) := by decide +kernel
theorem dX6_maySee_76 : decode cX6_maySee 76 = .ok (.iconst 1, 1) := by decide +kernel
theorem dX6_maySee_77 : decode cX6_maySee 77 = .ok (.goto 4, 3) := by decide +kernel
theorem dX6_maySee_80 : decode cX6_maySee 80 = .ok (.iconst 0, 1) := by decide +kernel
theorem dX6_maySee_81 : decode cX6_maySee 81 = .ok (.ireturn, 1) := by decide +kernel
theorem dX6_isThere_0 : decode cX6_isThere 0 = .ok (.aload_n 0, 1) := by decide +kernel
theorem dX6_isThere_1 : decode cX6_isThere 1 = .ok (.getfield 111, 3) := by decide +kernel
theorem dX6_isThere_4 : decode cX6_isThere 4 = .ok (.iload_n 1, 1) := by decide +kernel
theorem dX6_isThere_5 : decode cX6_isThere 5 = .ok (.iaload, 1) := by decide +kernel
theorem dX6_isThere_6 : decode cX6_isThere 6 = .ok (.bipush (-9), 2) := by decide +kernel
theorem dX6_isThere_8 : decode cX6_isThere 8 = .ok (.if_icmp .ne 7, 3) := by decide +kernel
theorem dX6_isThere_11 : decode cX6_isThere 11 = .ok (.iconst 1, 1) := by decide +kernel
theorem dX6_isThere_12 : decode cX6_isThere 12 = .ok (.goto 4, 3) := by decide +kernel
theorem dX6_isThere_15 : decode cX6_isThere 15 = .ok (.iconst 0, 1) := by decide +kernel
theorem dX6_isThere_16 : decode cX6_isThere 16 = .ok (.ireturn, 1) := by decide +kernel
theorem dX6_isFalling_0 : decode cX6_isFalling 0 = .ok (.aload_n 0, 1) := by decide +kernel
theorem dX6_isFalling_1 : decode cX6_isFalling 1 = .ok (.getfield 101, 3) := by decide +kernel
theorem dX6_isFalling_4 : decode cX6_isFalling 4 = .ok (.iload_n 2, 1) := by decide +kernel
theorem dX6_isFalling_5 : decode cX6_isFalling 5 = .ok (.iaload, 1) := by decide +kernel
theorem dX6_isFalling_6 : decode cX6_isFalling 6 = .ok (.aload_n 0, 1) := by decide +kernel
theorem dX6_isFalling_7 : decode cX6_isFalling 7 = .ok (.getfield 246, 3) := by decide +kernel
theorem dX6_isFalling_10 : decode cX6_isFalling 10 = .ok (.iand, 1) := by decide +kernel
theorem dX6_isFalling_11 : decode cX6_isFalling 11 = .ok (.aload_n 0, 1) := by decide +kernel
theorem dX6_isFalling_12 : decode cX6_isFalling 12 = .ok (.getfield 101, 3) := by decide +kernel
theorem dX6_isFalling_15 : decode cX6_isFalling 15 = .ok (.iload_n 2, 1) := by decide +kernel
theorem dX6_isFalling_16 : decode cX6_isFalling 16 = .ok (.iaload, 1) := by decide +kernel
theorem dX6_isFalling_17 : decode cX6_isFalling 17 = .ok (.iconst (-1), 1) := by decide +kernel
theorem dX6_isFalling_18 : decode cX6_isFalling 18 = .ok (.ixor, 1) := by decide +kernel
theorem dX6_isFalling_19 : decode cX6_isFalling 19 = .ok (.aload_n 0, 1) := by decide +kernel
theorem dX6_isFalling_20 : decode cX6_isFalling 20 = .ok (.getfield 243, 3) := by decide +kernel
theorem dX6_isFalling_23 : decode cX6_isFalling 23 = .ok (.iand, 1) := by decide +kernel
theorem dX6_isFalling_24 : decode cX6_isFalling 24 = .ok (.ior, 1) := by decide +kernel
theorem dX6_isFalling_25 : decode cX6_isFalling 25 = .ok (.istore_n 3, 1) := by decide +kernel
theorem dX6_isFalling_26 : decode cX6_isFalling 26 = .ok (.iload_n 1, 1) := by decide +kernel
theorem dX6_isFalling_27 : decode cX6_isFalling 27 = .ok (.iconst 1, 1) := by decide +kernel
theorem dX6_isFalling_28 : decode cX6_isFalling 28 = .ok (.if_icmp .eq 7, 3) := by decide +kernel
theorem dX6_isFalling_31 : decode cX6_isFalling 31 = .ok (.iconst 1, 1) := by decide +kernel
theorem dX6_isFalling_32 : decode cX6_isFalling 32 = .ok (.goto 4, 3) := by decide +kernel
theorem dX6_isFalling_35 : decode cX6_isFalling 35 = .ok (.iconst 0, 1) := by decide +kernel
theorem dX6_isFalling_36 : decode cX6_isFalling 36 = .ok (.istore 4, 2) := by decide +kernel
theorem dX6_isFalling_38 : decode cX6_isFalling 38 = .ok (.iconst 0, 1) := by decide +kernel
theorem dX6_isFalling_39 : decode cX6_isFalling 39 = .ok (.istore 5, 2) := by decide +kernel
theorem dX6_isFalling_41 : decode cX6_isFalling 41 = .ok (.iload 5, 2) := by decide +kernel
theorem dX6_isFalling_43 : decode cX6_isFalling 43 = .ok (.iconst 1, 1) := by decide +kernel
theorem dX6_isFalling_44 : decode cX6_isFalling 44 = .ok (.aload_n 0, 1) := by decide +kernel
theorem dX6_isFalling_45 : decode cX6_isFalling 45 = .ok (.getfield 240, 3) := by decide +kernel
theorem dX6_isFalling_48 : decode cX6_isFalling 48 = .ok (.ishl, 1) := by decide +kernel
theorem dX6_isFalling_49 : decode cX6_isFalling 49 = .ok (.if_icmp .ge 73, 3) := by decide +kernel
theorem dX6_isFalling_52 : decode cX6_isFalling 52 = .ok (.iload_n 3, 1) := by decide +kernel
theorem dX6_isFalling_53 : decode cX6_isFalling 53 = .ok (.ifCond .ne 8, 3) := by decide +kernel
theorem dX6_isFalling_56 : decode cX6_isFalling 56 = .ok (.iload 4, 2) := by decide +kernel
theorem dX6_isFalling_58 : decode cX6_isFalling 58 = .ok (.ifCond .ne 64, 3) := by decide +kernel
theorem dX6_isFalling_61 : decode cX6_isFalling 61 = .ok (.aload_n 0, 1) := by decide +kernel
theorem dX6_isFalling_62 : decode cX6_isFalling 62 = .ok (.iload 5, 2) := by decide +kernel
theorem dX6_isFalling_64 : decode cX6_isFalling 64 = .ok (.invokevirtual 256, 3) := by decide +kernel
theorem dX6_isFalling_67 : decode cX6_isFalling 67 = .ok (.ifCond .eq 49, 3) := by decide +kernel
theorem dX6_isFalling_70 : decode cX6_isFalling 70 = .ok (.aload_n 0, 1) := by decide +kernel
theorem dX6_isFalling_71 : decode cX6_isFalling 71 = .ok (.iload_n 1, 1) := by decide +kernel
theorem dX6_isFalling_72 : decode cX6_isFalling 72 = .ok (.iload_n 2, 1) := by decide +kernel
theorem dX6_isFalling_73 : decode cX6_isFalling 73 = .ok (.iload 5, 2) := by decide +kernel
theorem dX6_isFalling_75 : decode cX6_isFalling 75 = .ok (.invokevirtual 259, 3) := by decide +kernel
theorem dX6_isFalling_78 : decode cX6_isFalling 78 = .ok (.ifCond .eq 38, 3) := by decide +kernel
theorem dX6_isFalling_81 : decode cX6_isFalling 81 = .ok (.iconst 1, 1) := by decide +kernel
theorem dX6_isFalling_82 : decode cX6_isFalling 82 = .ok (.istore 4, 2) := by decide +kernel
theorem dX6_isFalling_84 : decode cX6_isFalling 84 = .ok (.iload_n 3, 1) := by decide +kernel
theorem dX6_isFalling_85 : decode cX6_isFalling 85 = .ok (.aload_n 0, 1) := by decide +kernel
theorem dX6_isFalling_86 : decode cX6_isFalling 86 = .ok (.getfield 104, 3) := by decide +kernel
theorem dX6_isFalling_89 : decode cX6_isFalling 89 = .ok (.iload 5, 2) := by decide +kernel
theorem dX6_isFalling_91 : decode cX6_isFalling 91 = .ok (.iaload, 1) := by decide +kernel
theorem dX6_isFalling_92 : decode cX6_isFalling 92 = .ok (.aload_n 0, 1) := by decide +kernel
theorem dX6_isFalling_93 : decode cX6_isFalling 93 = .ok (.getfield 246, 3) := by decide +kernel
theorem dX6_isFalling_96 : decode cX6_isFalling 96 = .ok (.iand, 1) := by decide +kernel
theorem dX6_isFalling_97 : decode cX6_isFalling 97 = .ok (.aload_n 0, 1) := by decide +kernel
theorem dX6_isFalling_98 : decode cX6_isFalling 98 = .ok (.getfield 104, 3) := by decide +kernel
theorem dX6_isFalling_101 : decode cX6_isFalling 101 = .ok (.iload 5, 2) := by decide +kernel
theorem dX6_isFalling_103 : decode cX6_isFalling 103 = .ok (.iaload, 1) := by decide +kernel
theorem dX6_isFalling_104 : decode cX6_isFalling 104 = .ok (.iconst (-1), 1) := by decide +kernel
theorem dX6_isFalling_105 : decode cX6_isFalling 105 = .ok (.ixor, 1) := by decide +kernel
theorem dX6_isFalling_106 : decode cX6_isFalling 106 = .ok (.aload_n 0, 1) := by decide +kernel
theorem dX6_isFalling_107 : decode cX6_isFalling 107 = .ok (.getfield 243, 3) := by decide +kernel
theorem dX6_isFalling_110 : decode cX6_isFalling 110 = .ok (.iand, 1) := by decide +kernel
theorem dX6_isFalling_111 : decode cX6_isFalling 111 = .ok (.ior, 1) := by decide +kernel
theorem dX6_isFalling_112 : decode cX6_isFalling 112 = .ok (.iconst (-1), 1) := by decide +kernel
theorem dX6_isFalling_113 : decode cX6_isFalling 113 = .ok (.ixor, 1) := by decide +kernel
theorem dX6_isFalling_114 : decode cX6_isFalling 114 = .ok (.iand, 1) := by decide +kernel
theorem dX6_isFalling_115 : decode cX6_isFalling 115 = .ok (.istore_n 3, 1) := by decide +kernel
theorem dX6_isFalling_116 : decode cX6_isFalling 116 = .ok (.iinc 5 1, 3) := by decide +kernel
theorem dX6_isFalling_119 : decode cX6_isFalling 119 = .ok (.goto (-78), 3) := by decide +kernel
theorem dX6_isFalling_122 : decode cX6_isFalling 122 = .ok (.iload_n 3, 1) := by decide +kernel
theorem dX6_isFalling_123 : decode cX6_isFalling 123 = .ok (.ifCond .ne 8, 3) := by decide +kernel
theorem dX6_isFalling_126 : decode cX6_isFalling 126 = .ok (.iload 4, 2) := by decide +kernel
theorem dX6_isFalling_128 : decode cX6_isFalling 128 = .ok (.ifCond .ne 7, 3) := by decide +kernel
theorem dX6_isFalling_131 : decode cX6_isFalling 131 = .ok (.iconst 1, 1) := by decide +kernel
theorem dX6_isFalling_132 : decode cX6_isFalling 132 = .ok (.goto 4, 3) := by decide +kernel
theorem dX6_isFalling_135 : decode cX6_isFalling 135 = .ok (.iconst 0, 1) := by decide +kernel
theorem dX6_isFalling_136 : decode cX6_isFalling 136 = .ok (.ireturn, 1) := by decide +kernel
theorem dX6_rounds_0 : decode cX6_rounds 0 = .ok (.iload_n 1, 1) := by decide +kernel
theorem dX6_rounds_1 : decode cX6_rounds 1 = .ok (.iconst 2, 1) := by decide +kernel
theorem dX6_rounds_2 : decode cX6_rounds 2 = .ok (.if_icmp .eq 13, 3) := by decide +kernel
theorem dX6_rounds_5 : decode cX6_rounds 5 = .ok (.iload_n 1, 1) := by decide +kernel
theorem dX6_rounds_6 : decode cX6_rounds 6 = .ok (.iconst 4, 1) := by decide +kernel
theorem dX6_rounds_7 : decode cX6_rounds 7 = .ok (.if_icmp .eq 8, 3) := by decide +kernel
theorem dX6_rounds_10 : decode cX6_rounds 10 = .ok (.iload_n 1, 1) := by decide +kernel
theorem dX6_rounds_11 : decode cX6_rounds 11 = .ok (.iconst 5, 1) := by decide +kernel
theorem dX6_rounds_12 : decode cX6_rounds 12 = .ok (.if_icmp .le 7, 3) := by decide +kernel
theorem dX6_rounds_15 : decode cX6_rounds 15 = .ok (.iconst 1, 1) := by decide +kernel
theorem dX6_rounds_16 : decode cX6_rounds 16 = .ok (.goto 4, 3) := by decide +kernel
theorem dX6_rounds_19 : decode cX6_rounds 19 = .ok (.iconst 0, 1) := by decide +kernel
theorem dX6_rounds_20 : decode cX6_rounds 20 = .ok (.istore_n 2, 1) := by decide +kernel
theorem dX6_rounds_21 : decode cX6_rounds 21 = .ok (.iconst 0, 1) := by decide +kernel
theorem dX6_rounds_22 : decode cX6_rounds 22 = .ok (.istore_n 3, 1) := by decide +kernel
theorem dX6_rounds_23 : decode cX6_rounds 23 = .ok (.iload_n 3, 1) := by decide +kernel
theorem dX6_rounds_24 : decode cX6_rounds 24 = .ok (.iconst 1, 1) := by decide +kernel
theorem dX6_rounds_25 : decode cX6_rounds 25 = .ok (.aload_n 0, 1) := by decide +kernel
theorem dX6_rounds_26 : decode cX6_rounds 26 = .ok (.getfield 240, 3) := by decide +kernel
theorem dX6_rounds_29 : decode cX6_rounds 29 = .ok (.ishl, 1) := by decide +kernel
theorem dX6_rounds_30 : decode cX6_rounds 30 = .ok (.if_icmp .ge 35, 3) := by decide +kernel
theorem dX6_rounds_33 : decode cX6_rounds 33 = .ok (.aload_n 0, 1) := by decide +kernel
theorem dX6_rounds_34 : decode cX6_rounds 34 = .ok (.getfield 111, 3) := by decide +kernel
theorem dX6_rounds_37 : decode cX6_rounds 37 = .ok (.iload_n 3, 1) := by decide +kernel
theorem dX6_rounds_38 : decode cX6_rounds 38 = .ok (.iload_n 2, 1) := by decide +kernel
theorem dX6_rounds_39 : decode cX6_rounds 39 = .ok (.ifCond .eq 17, 3) := by decide +kernel
theorem dX6_rounds_42 : decode cX6_rounds 42 = .ok (.aload_n 0, 1) := by decide +kernel
theorem dX6_rounds_43 : decode cX6_rounds 43 = .ok (.iload_n 1, 1) := by decide +kernel
theorem dX6_rounds_44 : decode cX6_rounds 44 = .ok (.iload_n 3, 1) := by decide +kernel
theorem dX6_rounds_45 : decode cX6_rounds 45 = .ok (.iload_n 3, 1) := by decide +kernel
theorem dX6_rounds_46 : decode cX6_rounds 46 = .ok (.invokevirtual 259, 3) := by decide +kernel
theorem dX6_rounds_49 : decode cX6_rounds 49 = .ok (.ifCond .ne 7, 3) := by decide +kernel
theorem dX6_rounds_52 : decode cX6_rounds 52 = .ok (.iconst 0, 1) := by decide +kernel
theorem dX6_rounds_53 : decode cX6_rounds 53 = .ok (.goto 5, 3) := by decide +kernel
theorem dX6_rounds_56 : decode cX6_rounds 56 = .ok (.bipush (-9), 2) := by decide +kernel
theorem dX6_rounds_58 : decode cX6_rounds 58 = .ok (.iastore, 1) := by decide +kernel
theorem dX6_rounds_59 : decode cX6_rounds 59 = .ok (.iinc 3 1, 3) := by decide +kernel
theorem dX6_rounds_62 : decode cX6_rounds 62 = .ok (.goto (-39), 3) := by decide +kernel
theorem dX6_rounds_65 : decode cX6_rounds 65 = .ok (.iconst 0, 1) := by decide +kernel
theorem dX6_rounds_66 : decode cX6_rounds 66 = .ok (.istore_n 3, 1) := by decide +kernel
theorem dX6_rounds_67 : decode cX6_rounds 67 = .ok (.iconst 1, 1) := by decide +kernel
theorem dX6_rounds_68 : decode cX6_rounds 68 = .ok (.istore 4, 2) := by decide +kernel
theorem dX6_rounds_70 : decode cX6_rounds 70 = .ok (.iload 4, 2) := by decide +kernel
theorem dX6_rounds_72 : decode cX6_rounds 72 = .ok (.ifCond .eq 133, 3) := by decide +kernel
theorem dX6_rounds_75 : decode cX6_rounds 75 = .ok (.iconst 0, 1) := by decide +kernel
theorem dX6_rounds_76 : decode cX6_rounds 76 = .ok (.istore 4, 2) := by decide +kernel
theorem dX6_rounds_78 : decode cX6_rounds 78 = .ok (.iconst 0, 1) := by decide +kernel
theorem dX6_rounds_79 : decode cX6_rounds 79 = .ok (.istore 5, 2) := by decide +kernel
theorem dX6_rounds_81 : decode cX6_rounds 81 = .ok (.iload 5, 2) := by decide +kernel
theorem dX6_rounds_83 : decode cX6_rounds 83 = .ok (.iconst 1, 1) := by decide +kernel
theorem dX6_rounds_84 : decode cX6_rounds 84 = .ok (.aload_n 0, 1) := by decide +kernel
theorem dX6_rounds_85 : decode cX6_rounds 85 = .ok (.getfield 240, 3) := by decide +kernel
theorem dX6_rounds_88 : decode cX6_rounds 88 = .ok (.ishl, 1) := by decide +kernel
theorem dX6_rounds_89 : decode cX6_rounds 89 = .ok (.if_icmp .ge 52, 3) := by decide +kernel
theorem dX6_rounds_92 : decode cX6_rounds 92 = .ok (.aload_n 0, 1) := by decide +kernel
theorem dX6_rounds_93 : decode cX6_rounds 93 = .ok (.getfield 114, 3) := by decide +kernel
theorem dX6_rounds_96 : decode cX6_rounds 96 = .ok (.iload 5, 2) := by decide +kernel
theorem dX6_rounds_98 : decode cX6_rounds 98 = .ok (.aload_n 0, 1) := by decide +kernel
theorem dX6_rounds_99 : decode cX6_rounds 99 = .ok (.iload 5, 2) := by decide +kernel
theorem dX6_rounds_101 : decode cX6_rounds 101 = .ok (.invokevirtual 256, 3) := by decide +kernel
theorem dX6_rounds_104 : decode cX6_rounds 104 = .ok (.ifCond .eq 17, 3) := by decide +kernel
theorem dX6_rounds_107 : decode cX6_rounds 107 = .ok (.aload_n 0, 1) := by decide +kernel
theorem dX6_rounds_108 : decode cX6_rounds 108 = .ok (.iload_n 1, 1) := by decide +kernel
theorem dX6_rounds_109 : decode cX6_rounds 109 = .ok (.iload 5, 2) := by decide +kernel
theorem dX6_rounds_111 : decode cX6_rounds 111 = .ok (.invokevirtual 262, 3) := by decide +kernel
theorem dX6_rounds_114 : decode cX6_rounds 114 = .ok (.ifCond .eq 7, 3) := by decide +kernel
theorem dX6_rounds_117 : decode cX6_rounds 117 = .ok (.iconst 1, 1) := by decide +kernel
theorem dX6_rounds_118 : decode cX6_rounds 118 = .ok (.goto 4, 3) := by decide +kernel
theorem dX6_rounds_121 : decode cX6_rounds 121 = .ok (.iconst 0, 1) := by decide +kernel
theorem dX6_rounds_122 : decode cX6_rounds 122 = .ok (.bastore, 1) := by decide +kernel
theorem dX6_rounds_123 : decode cX6_rounds 123 = .ok (.iload 4, 2) := by decide +kernel
theorem dX6_rounds_125 : decode cX6_rounds 125 = .ok (.aload_n 0, 1) := by decide +kernel
theorem dX6_rounds_126 : decode cX6_rounds 126 = .ok (.getfield 114, 3) := by decide +kernel
theorem dX6_rounds_129 : decode cX6_rounds 129 = .ok (.iload 5, 2) := by decide +kernel
theorem dX6_rounds_131 : decode cX6_rounds 131 = .ok (.baload, 1) := by decide +kernel
theorem dX6_rounds_132 : decode cX6_rounds 132 = .ok (.ior, 1) := by decide +kernel
theorem dX6_rounds_133 : decode cX6_rounds 133 = .ok (.istore 4, 2) := by decide +kernel
theorem dX6_rounds_135 : decode cX6_rounds 135 = .ok (.iinc 5 1, 3) := by decide +kernel
theorem dX6_rounds_138 : decode cX6_rounds 138 = .ok (.goto (-57), 3) := by decide +kernel
theorem dX6_rounds_141 : decode cX6_rounds 141 = .ok (.iload_n 3, 1) := by decide +kernel
theorem dX6_rounds_142 : decode cX6_rounds 142 = .ok (.iload 4, 2) := by decide +kernel
theorem dX6_rounds_144 : decode cX6_rounds 144 = .ok (.ifCond .eq 7, 3) := by decide +kernel
theorem dX6_rounds_147 : decode cX6_rounds 147 = .ok (.iconst 1, 1) := by decide +kernel
theorem dX6_rounds_148 : decode cX6_rounds 148 = .ok (.goto 4, 3) := by decide +kernel
theorem dX6_rounds_151 : decode cX6_rounds 151 = .ok (.iconst 0, 1) := by decide +kernel
theorem dX6_rounds_152 : decode cX6_rounds 152 = .ok (.iadd, 1) := by decide +kernel
theorem dX6_rounds_153 : decode cX6_rounds 153 = .ok (.istore_n 3, 1) := by decide +kernel
theorem dX6_rounds_154 : decode cX6_rounds 154 = .ok (.iconst 0, 1) := by decide +kernel
theorem dX6_rounds_155 : decode cX6_rounds 155 = .ok (.istore 5, 2) := by decide +kernel
theorem dX6_rounds_157 : decode cX6_rounds 157 = .ok (.iload 5, 2) := by decide +kernel
theorem dX6_rounds_159 : decode cX6_rounds 159 = .ok (.iconst 1, 1) := by decide +kernel
theorem dX6_rounds_160 : decode cX6_rounds 160 = .ok (.aload_n 0, 1) := by decide +kernel
theorem dX6_rounds_161 : decode cX6_rounds 161 = .ok (.getfield 240, 3) := by decide +kernel
theorem dX6_rounds_164 : decode cX6_rounds 164 = .ok (.ishl, 1) := by decide +kernel
theorem dX6_rounds_165 : decode cX6_rounds 165 = .ok (.if_icmp .ge 37, 3) := by decide +kernel
theorem dX6_rounds_168 : decode cX6_rounds 168 = .ok (.aload_n 0, 1) := by decide +kernel
theorem dX6_rounds_169 : decode cX6_rounds 169 = .ok (.getfield 111, 3) := by decide +kernel
theorem dX6_rounds_172 : decode cX6_rounds 172 = .ok (.iload 5, 2) := by decide +kernel
theorem dX6_rounds_174 : decode cX6_rounds 174 = .ok (.aload_n 0, 1) := by decide +kernel
theorem dX6_rounds_175 : decode cX6_rounds 175 = .ok (.getfield 114, 3) := by decide +kernel
theorem dX6_rounds_178 : decode cX6_rounds 178 = .ok (.iload 5, 2) := by decide +kernel
theorem dX6_rounds_180 : decode cX6_rounds 180 = .ok (.baload, 1) := by decide +kernel
theorem dX6_rounds_181 : decode cX6_rounds 181 = .ok (.ifCond .eq 7, 3) := by decide +kernel
theorem dX6_rounds_184 : decode cX6_rounds 184 = .ok (.iload_n 3, 1) := by decide +kernel
theorem dX6_rounds_185 : decode cX6_rounds 185 = .ok (.goto 10, 3) := by decide +kernel
theorem dX6_rounds_188 : decode cX6_rounds 188 = .ok (.aload_n 0, 1) := by decide +kernel
theorem dX6_rounds_189 : decode cX6_rounds 189 = .ok (.getfield 111, 3) := by decide +kernel
theorem dX6_rounds_192 : decode cX6_rounds 192 = .ok (.iload 5, 2) := by decide +kernel
theorem dX6_rounds_194 : decode cX6_rounds 194 = .ok (.iaload, 1) := by decide +kernel
theorem dX6_rounds_195 : decode cX6_rounds 195 = .ok (.iastore, 1) := by decide +kernel
theorem dX6_rounds_196 : decode cX6_rounds 196 = .ok (.iinc 5 1, 3) := by decide +kernel
theorem dX6_rounds_199 : decode cX6_rounds 199 = .ok (.goto (-42), 3) := by decide +kernel
theorem dX6_rounds_202 : decode cX6_rounds 202 = .ok (.goto (-132), 3) := by decide +kernel
theorem dX6_rounds_205 : decode cX6_rounds 205 = .ok (.iload_n 3, 1) := by decide +kernel
theorem dX6_rounds_206 : decode cX6_rounds 206 = .ok (.ireturn, 1) := by decide +kernel
theorem dX6_isLaw_0 : decode cX6_isLaw 0 = .ok (.iconst 1, 1) := by decide +kernel
theorem dX6_isLaw_1 : decode cX6_isLaw 1 = .ok (.istore_n 1, 1) := by decide +kernel
theorem dX6_isLaw_2 : decode cX6_isLaw 2 = .ok (.iconst 0, 1) := by decide +kernel
theorem dX6_isLaw_3 : decode cX6_isLaw 3 = .ok (.istore_n 2, 1) := by decide +kernel
theorem dX6_isLaw_4 : decode cX6_isLaw 4 = .ok (.iload_n 2, 1) := by decide +kernel
theorem dX6_isLaw_5 : decode cX6_isLaw 5 = .ok (.iconst 1, 1) := by decide +kernel
theorem dX6_isLaw_6 : decode cX6_isLaw 6 = .ok (.aload_n 0, 1) := by decide +kernel
theorem dX6_isLaw_7 : decode cX6_isLaw 7 = .ok (.getfield 240, 3) := by decide +kernel
theorem dX6_isLaw_10 : decode cX6_isLaw 10 = .ok (.ishl, 1) := by decide +kernel
theorem dX6_isLaw_11 : decode cX6_isLaw 11 = .ok (.if_icmp .ge 34, 3) := by decide +kernel
theorem dX6_isLaw_14 : decode cX6_isLaw 14 = .ok (.iload_n 1, 1) := by decide +kernel
theorem dX6_isLaw_15 : decode cX6_isLaw 15 = .ok (.aload_n 0, 1) := by decide +kernel
theorem dX6_isLaw_16 : decode cX6_isLaw 16 = .ok (.iload_n 2, 1) := by decide +kernel
theorem dX6_isLaw_17 : decode cX6_isLaw 17 = .ok (.invokevirtual 256, 3) := by decide +kernel
theorem dX6_isLaw_20 : decode cX6_isLaw 20 = .ok (.ifCond .eq 12, 3) := by decide +kernel
theorem dX6_isLaw_23 : decode cX6_isLaw 23 = .ok (.aload_n 0, 1) := by decide +kernel
theorem dX6_isLaw_24 : decode cX6_isLaw 24 = .ok (.getfield 107, 3) := by decide +kernel
theorem dX6_isLaw_27 : decode cX6_isLaw 27 = .ok (.iload_n 2, 1) := by decide +kernel
theorem dX6_isLaw_28 : decode cX6_isLaw 28 = .ok (.baload, 1) := by decide +kernel
theorem dX6_isLaw_29 : decode cX6_isLaw 29 = .ok (.ifCond .eq 7, 3) := by decide +kernel
theorem dX6_isLaw_32 : decode cX6_isLaw 32 = .ok (.iconst 1, 1) := by decide +kernel
theorem dX6_isLaw_33 : decode cX6_isLaw 33 = .ok (.goto 4, 3) := by decide +kernel
theorem dX6_isLaw_36 : decode cX6_isLaw 36 = .ok (.iconst 0, 1) := by decide +kernel
theorem dX6_isLaw_37 : decode cX6_isLaw 37 = .ok (.iand, 1) := by decide +kernel
theorem dX6_isLaw_38 : decode cX6_isLaw 38 = .ok (.istore_n 1, 1) := by decide +kernel
theorem dX6_isLaw_39 : decode cX6_isLaw 39 = .ok (.iinc 2 1, 3) := by decide +kernel
theorem dX6_isLaw_42 : decode cX6_isLaw 42 = .ok (.goto (-38), 3) := by decide +kernel
theorem dX6_isLaw_45 : decode cX6_isLaw 45 = .ok (.iload_n 1, 1) := by decide +kernel
theorem dX6_isLaw_46 : decode cX6_isLaw 46 = .ok (.ireturn, 1) := by decide +kernel
theorem dX6_shownFrom_0 : decode cX6_shownFrom 0 = .ok (.iconst 0, 1) := by decide +kernel
theorem dX6_shownFrom_1 : decode cX6_shownFrom 1 = .ok (.istore_n 3, 1) := by decide +kernel
theorem dX6_shownFrom_2 : decode cX6_shownFrom 2 = .ok (.iload_n 3, 1) := by decide +kernel
theorem dX6_shownFrom_3 : decode cX6_shownFrom 3 = .ok (.iconst 1, 1) := by decide +kernel
theorem dX6_shownFrom_4 : decode cX6_shownFrom 4 = .ok (.aload_n 0, 1) := by decide +kernel
theorem dX6_shownFrom_5 : decode cX6_shownFrom 5 = .ok (.getfield 240, 3) := by decide +kernel
theorem dX6_shownFrom_8 : decode cX6_shownFrom 8 = .ok (.ishl, 1) := by decide +kernel
theorem dX6_shownFrom_9 : decode cX6_shownFrom 9 = .ok (.if_icmp .ge 16, 3) := by decide +kernel
theorem dX6_shownFrom_12 : decode cX6_shownFrom 12 = .ok (.aload_n 0, 1) := by decide +kernel
theorem dX6_shownFrom_13 : decode cX6_shownFrom 13 = .ok (.getfield 114, 3) := by decide +kernel
theorem dX6_shownFrom_16 : decode cX6_shownFrom 16 = .ok (.iload_n 3, 1) := by decide +kernel
theorem dX6_shownFrom_17 : decode cX6_shownFrom 17 = .ok (.iconst 0, 1) := by decide +kernel
theorem dX6_shownFrom_18 : decode cX6_shownFrom 18 = .ok (.bastore, 1) := by decide +kernel
theorem dX6_shownFrom_19 : decode cX6_shownFrom 19 = .ok (.iinc 3 1, 3) := by decide +kernel
theorem dX6_shownFrom_22 : decode cX6_shownFrom 22 = .ok (.goto (-20), 3) := by decide +kernel
theorem dX6_shownFrom_25 : decode cX6_shownFrom 25 = .ok (.aload_n 0, 1) := by decide +kernel
theorem dX6_shownFrom_26 : decode cX6_shownFrom 26 = .ok (.getfield 114, 3) := by decide +kernel
theorem dX6_shownFrom_29 : decode cX6_shownFrom 29 = .ok (.iload_n 2, 1) := by decide +kernel
theorem dX6_shownFrom_30 : decode cX6_shownFrom 30 = .ok (.iconst 1, 1) := by decide +kernel
theorem dX6_shownFrom_31 : decode cX6_shownFrom 31 = .ok (.bastore, 1) := by decide +kernel
theorem dX6_shownFrom_32 : decode cX6_shownFrom 32 = .ok (.aload_n 0, 1) := by decide +kernel
theorem dX6_shownFrom_33 : decode cX6_shownFrom 33 = .ok (.getfield 117, 3) := by decide +kernel
theorem dX6_shownFrom_36 : decode cX6_shownFrom 36 = .ok (.iconst 0, 1) := by decide +kernel
theorem dX6_shownFrom_37 : decode cX6_shownFrom 37 = .ok (.iload_n 2, 1) := by decide +kernel
theorem dX6_shownFrom_38 : decode cX6_shownFrom 38 = .ok (.iastore, 1) := by decide +kernel
theorem dX6_shownFrom_39 : decode cX6_shownFrom 39 = .ok (.iconst 1, 1) := by decide +kernel
theorem dX6_shownFrom_40 : decode cX6_shownFrom 40 = .ok (.istore_n 3, 1) := by decide +kernel
theorem dX6_shownFrom_41 : decode cX6_shownFrom 41 = .ok (.iconst 0, 1) := by decide +kernel
theorem dX6_shownFrom_42 : decode cX6_shownFrom 42 = .ok (.istore 4, 2) := by decide +kernel
theorem dX6_shownFrom_44 : decode cX6_shownFrom 44 = .ok (.iload 4, 2) := by decide +kernel
theorem dX6_shownFrom_46 : decode cX6_shownFrom 46 = .ok (.iload_n 3, 1) := by decide +kernel
theorem dX6_shownFrom_47 : decode cX6_shownFrom 47 = .ok (.if_icmp .ge 84, 3) := by decide +kernel
theorem dX6_shownFrom_50 : decode cX6_shownFrom 50 = .ok (.iconst 0, 1) := by decide +kernel
theorem dX6_shownFrom_51 : decode cX6_shownFrom 51 = .ok (.istore 5, 2) := by decide +kernel
theorem dX6_shownFrom_53 : decode cX6_shownFrom 53 = .ok (.iload 5, 2) := by decide +kernel
theorem dX6_shownFrom_55 : decode cX6_shownFrom 55 = .ok (.iconst 1, 1) := by decide +kernel
theorem dX6_shownFrom_56 : decode cX6_shownFrom 56 = .ok (.aload_n 0, 1) := by decide +kernel
theorem dX6_shownFrom_57 : decode cX6_shownFrom 57 = .ok (.getfield 240, 3) := by decide +kernel
theorem dX6_shownFrom_60 : decode cX6_shownFrom 60 = .ok (.ishl, 1) := by decide +kernel
theorem dX6_shownFrom_61 : decode cX6_shownFrom 61 = .ok (.if_icmp .ge 64, 3) := by decide +kernel
theorem dX6_shownFrom_64 : decode cX6_shownFrom 64 = .ok (.aload_n 0, 1) := by decide +kernel
theorem dX6_shownFrom_65 : decode cX6_shownFrom 65 = .ok (.getfield 114, 3) := by decide +kernel
theorem dX6_shownFrom_68 : decode cX6_shownFrom 68 = .ok (.iload 5, 2) := by decide +kernel
theorem dX6_shownFrom_70 : decode cX6_shownFrom 70 = .ok (.baload, 1) := by decide +kernel
theorem dX6_shownFrom_71 : decode cX6_shownFrom 71 = .ok (.ifCond .ne 48, 3) := by decide +kernel
theorem dX6_shownFrom_74 : decode cX6_shownFrom 74 = .ok (.aload_n 0, 1) := by decide +kernel
theorem dX6_shownFrom_75 : decode cX6_shownFrom 75 = .ok (.iload 5, 2) := by decide +kernel
theorem dX6_shownFrom_77 : decode cX6_shownFrom 77 = .ok (.invokevirtual 256, 3) := by decide +kernel
theorem dX6_shownFrom_80 : decode cX6_shownFrom 80 = .ok (.ifCond .eq 39, 3) := by decide +kernel
theorem dX6_shownFrom_83 : decode cX6_shownFrom 83 = .ok (.aload_n 0, 1) := by decide +kernel
theorem dX6_shownFrom_84 : decode cX6_shownFrom 84 = .ok (.iload_n 1, 1) := by decide +kernel
theorem dX6_shownFrom_85 : decode cX6_shownFrom 85 = .ok (.aload_n 0, 1) := by decide +kernel
theorem dX6_shownFrom_86 : decode cX6_shownFrom 86 = .ok (.getfield 117, 3) := by decide +kernel
theorem dX6_shownFrom_89 : decode cX6_shownFrom 89 = .ok (.iload 4, 2) := by decide +kernel
theorem dX6_shownFrom_91 : decode cX6_shownFrom 91 = .ok (.iaload, 1) := by decide +kernel
theorem dX6_shownFrom_92 : decode cX6_shownFrom 92 = .ok (.iload 5, 2) := by decide +kernel
theorem dX6_shownFrom_94 : decode cX6_shownFrom 94 = .ok (.invokevirtual 259, 3) := by decide +kernel
theorem dX6_shownFrom_97 : decode cX6_shownFrom 97 = .ok (.ifCond .eq 22, 3) := by decide +kernel
theorem dX6_shownFrom_100 : decode cX6_shownFrom 100 = .ok (.aload_n 0, 1) := by decide +kernel
theorem dX6_shownFrom_101 : decode cX6_shownFrom 101 = .ok (.getfield 114, 3) := by decide +kernel
theorem dX6_shownFrom_104 : decode cX6_shownFrom 104 = .ok (.iload 5, 2) := by decide +kernel
theorem dX6_shownFrom_106 : decode cX6_shownFrom 106 = .ok (.iconst 1, 1) := by decide +kernel
theorem dX6_shownFrom_107 : decode cX6_shownFrom 107 = .ok (.bastore, 1) := by decide +kernel
theorem dX6_shownFrom_108 : decode cX6_shownFrom 108 = .ok (.aload_n 0, 1) := by decide +kernel
theorem dX6_shownFrom_109 : decode cX6_shownFrom 109 = .ok (.getfield 117, 3) := by decide +kernel
theorem dX6_shownFrom_112 : decode cX6_shownFrom 112 = .ok (.iload_n 3, 1) := by decide +kernel
theorem dX6_shownFrom_113 : decode cX6_shownFrom 113 = .ok (.iload 5, 2) := by decide +kernel
theorem dX6_shownFrom_115 : decode cX6_shownFrom 115 = .ok (.iastore, 1) := by decide +kernel
theorem dX6_shownFrom_116 : decode cX6_shownFrom 116 = .ok (.iinc 3 1, 3) := by decide +kernel
theorem dX6_shownFrom_119 : decode cX6_shownFrom 119 = .ok (.iinc 5 1, 3) := by decide +kernel
theorem dX6_shownFrom_122 : decode cX6_shownFrom 122 = .ok (.goto (-69), 3) := by decide +kernel
theorem dX6_shownFrom_125 : decode cX6_shownFrom 125 = .ok (.iinc 4 1, 3) := by decide +kernel
theorem dX6_shownFrom_128 : decode cX6_shownFrom 128 = .ok (.goto (-84), 3) := by decide +kernel
theorem dX6_shownFrom_131 : decode cX6_shownFrom 131 = .ok (.iload_n 3, 1) := by decide +kernel
theorem dX6_shownFrom_132 : decode cX6_shownFrom 132 = .ok (.ireturn, 1) := by decide +kernel
theorem dX6_isLogic_0 : decode cX6_isLogic 0 = .ok (.iload_n 0, 1) := by decide +kernel
theorem dX6_isLogic_1 : decode cX6_isLogic 1 = .ok (.iconst 0, 1) := by decide +kernel
theorem dX6_isLogic_2 : decode cX6_isLogic 2 = .ok (.bipush 7, 2) := by decide +kernel
theorem dX6_isLogic_4 : decode cX6_isLogic 4 = .ok (.invokestatic 135, 3) := by decide +kernel
theorem dX6_isLogic_7 : decode cX6_isLogic 7 = .ok (.ireturn, 1) := by decide +kernel
theorem dX6_logic_0 : decode cX6_logic 0 = .ok (.aload_n 0, 1) := by decide +kernel
theorem dX6_logic_1 : decode cX6_logic 1 = .ok (.iconst 0, 1) := by decide +kernel
theorem dX6_logic_2 : decode cX6_logic 2 = .ok (.putfield 132, 3) := by decide +kernel
theorem dX6_logic_5 : decode cX6_logic 5 = .ok (.iload_n 1, 1) := by decide +kernel
theorem dX6_logic_6 : decode cX6_logic 6 = .ok (.invokestatic 195, 3) := by decide +kernel
theorem dX6_logic_9 : decode cX6_logic 9 = .ok (.ifCond .eq 20, 3) := by decide +kernel
theorem dX6_logic_12 : decode cX6_logic 12 = .ok (.iload_n 2, 1) := by decide +kernel
theorem dX6_logic_13 : decode cX6_logic 13 = .ok (.invokestatic 265, 3) := by decide +kernel
theorem dX6_logic_16 : decode cX6_logic 16 = .ok (.ifCond .eq 13, 3) := by decide +kernel
theorem dX6_logic_19 : decode cX6_logic 19 = .ok (.iload_n 3, 1) := by decide +kernel
theorem dX6_logic_20 : decode cX6_logic 20 = .ok (.iconst 0, 1) := by decide +kernel
theorem dX6_logic_21 : decode cX6_logic 21 = .ok (.bipush 6, 2) := by decide +kernel
theorem dX6_logic_23 : decode cX6_logic 23 = .ok (.invokestatic 135, 3) := by decide +kernel
theorem dX6_logic_26 : decode cX6_logic 26 = .ok (.ifCond .ne 5, 3) := by decide +kernel
theorem dX6_logic_29 : decode cX6_logic 29 = .ok (.iconst (-1), 1) := by decide +kernel
theorem dX6_logic_30 : decode cX6_logic 30 = .ok (.ireturn, 1) := by decide +kernel
theorem dX6_logic_31 : decode cX6_logic 31 = .ok (.aload_n 0, 1) := by decide +kernel
theorem dX6_logic_32 : decode cX6_logic 32 = .ok (.iload_n 1, 1) := by decide +kernel
theorem dX6_logic_33 : decode cX6_logic 33 = .ok (.invokevirtual 215, 3) := by decide +kernel
theorem dX6_logic_36 : decode cX6_logic 36 = .ok (.aload_n 0, 1) := by decide +kernel
theorem dX6_logic_37 : decode cX6_logic 37 = .ok (.iconst 0, 1) := by decide +kernel
theorem dX6_logic_38 : decode cX6_logic 38 = .ok (.invokevirtual 268, 3) := by decide +kernel
theorem dX6_logic_41 : decode cX6_logic 41 = .ok (.ifCond .ne 6, 3) := by decide +kernel
theorem dX6_logic_44 : decode cX6_logic 44 = .ok (.bipush (-2), 2) := by decide +kernel
theorem dX6_logic_46 : decode cX6_logic 46 = .ok (.ireturn, 1) := by decide +kernel
theorem dX6_logic_47 : decode cX6_logic 47 = .ok (.aload_n 0, 1) := by decide +kernel
theorem dX6_logic_48 : decode cX6_logic 48 = .ok (.invokevirtual 272, 3) := by decide +kernel
theorem dX6_logic_51 : decode cX6_logic 51 = .ok (.aload_n 0, 1) := by decide +kernel
theorem dX6_logic_52 : decode cX6_logic 52 = .ok (.iload_n 2, 1) := by decide +kernel
theorem dX6_logic_53 : decode cX6_logic 53 = .ok (.invokevirtual 275, 3) := by decide +kernel
theorem dX6_logic_56 : decode cX6_logic 56 = .ok (.istore 4, 2) := by decide +kernel
theorem dX6_logic_58 : decode cX6_logic 58 = .ok (.bipush (-9), 2) := by decide +kernel
theorem dX6_logic_60 : decode cX6_logic 60 = .ok (.istore 5, 2) := by decide +kernel
theorem dX6_logic_62 : decode cX6_logic 62 = .ok (.iconst 0, 1) := by decide +kernel
theorem dX6_logic_63 : decode cX6_logic 63 = .ok (.istore 6, 2) := by decide +kernel
theorem dX6_logic_65 : decode cX6_logic 65 = .ok (.iconst 0, 1) := by decide +kernel
theorem dX6_logic_66 : decode cX6_logic 66 = .ok (.istore 7, 2) := by decide +kernel
theorem dX6_logic_68 : decode cX6_logic 68 = .ok (.iconst 1, 1) := by decide +kernel
theorem dX6_logic_69 : decode cX6_logic 69 = .ok (.aload_n 0, 1) := by decide +kernel
theorem dX6_logic_70 : decode cX6_logic 70 = .ok (.getfield 240, 3) := by decide +kernel
theorem dX6_logic_73 : decode cX6_logic 73 = .ok (.ishl, 1) := by decide +kernel
theorem dX6_logic_74 : decode cX6_logic 74 = .ok (.iconst 1, 1) := by decide +kernel
theorem dX6_logic_75 : decode cX6_logic 75 = .ok (.isub, 1) := by decide +kernel
theorem dX6_logic_76 : decode cX6_logic 76 = .ok (.istore 8, 2) := by decide +kernel
theorem dX6_logic_78 : decode cX6_logic 78 = .ok (.iload 8, 2) := by decide +kernel
theorem dX6_logic_80 : decode cX6_logic 80 = .ok (.ifCond .lt 76, 3) := by decide +kernel
theorem dX6_logic_83 : decode cX6_logic 83 = .ok (.aload_n 0, 1) := by decide +kernel
theorem dX6_logic_84 : decode cX6_logic 84 = .ok (.iload 8, 2) := by decide +kernel
theorem dX6_logic_86 : decode cX6_logic 86 = .ok (.invokevirtual 256, 3) := by decide +kernel
theorem dX6_logic_89 : decode cX6_logic 89 = .ok (.ifCond .eq 18, 3) := by decide +kernel
theorem dX6_logic_92 : decode cX6_logic 92 = .ok (.aload_n 0, 1) := by decide +kernel
theorem dX6_logic_93 : decode cX6_logic 93 = .ok (.getfield 107, 3) := by decide +kernel
theorem dX6_logic_96 : decode cX6_logic 96 = .ok (.iload 8, 2) := by decide +kernel
theorem dX6_logic_98 : decode cX6_logic 98 = .ok (.baload, 1) := by decide +kernel
theorem dX6_logic_99 : decode cX6_logic 99 = .ok (.ifCond .eq 8, 3) := by decide +kernel
theorem dX6_logic_102 : decode cX6_logic 102 = .ok (.iload 8, 2) := by decide +kernel
theorem dX6_logic_104 : decode cX6_logic 104 = .ok (.goto 5, 3) := by decide +kernel
theorem dX6_logic_107 : decode cX6_logic 107 = .ok (.iload 5, 2) := by decide +kernel
theorem dX6_logic_109 : decode cX6_logic 109 = .ok (.istore 5, 2) := by decide +kernel
theorem dX6_logic_111 : decode cX6_logic 111 = .ok (.iload 6, 2) := by decide +kernel
theorem dX6_logic_113 : decode cX6_logic 113 = .ok (.aload_n 0, 1) := by decide +kernel
theorem dX6_logic_114 : decode cX6_logic 114 = .ok (.getfield 111, 3) := by decide +kernel
theorem dX6_logic_117 : decode cX6_logic 117 = .ok (.iload 8, 2) := by decide +kernel
theorem dX6_logic_119 : decode cX6_logic 119 = .ok (.iaload, 1) := by decide +kernel
theorem dX6_logic_120 : decode cX6_logic 120 = .ok (.ifCond .eq 7, 3) := by decide +kernel
theorem dX6_logic_123 : decode cX6_logic 123 = .ok (.iconst 1, 1) := by decide +kernel
theorem dX6_logic_124 : decode cX6_logic 124 = .ok (.goto 4, 3) := by decide +kernel
theorem dX6_logic_127 : decode cX6_logic 127 = .ok (.iconst 0, 1) := by decide +kernel
theorem dX6_logic_128 : decode cX6_logic 128 = .ok (.iadd, 1) := by decide +kernel
theorem dX6_logic_129 : decode cX6_logic 129 = .ok (.istore 6, 2) := by decide +kernel
theorem dX6_logic_131 : decode cX6_logic 131 = .ok (.iload 7, 2) := by decide +kernel
theorem dX6_logic_133 : decode cX6_logic 133 = .ok (.aload_n 0, 1) := by decide +kernel
theorem dX6_logic_134 : decode cX6_logic 134 = .ok (.iload 8, 2) := by decide +kernel
theorem dX6_logic_136 : decode cX6_logic 136 = .ok (.invokevirtual 256, 3) := by decide +kernel
theorem dX6_logic_139 : decode cX6_logic 139 = .ok (.ifCond .eq 7, 3) := by decide +kernel
theorem dX6_logic_142 : decode cX6_logic 142 = .ok (.iconst 1, 1) := by decide +kernel
theorem dX6_logic_143 : decode cX6_logic 143 = .ok (.goto 4, 3) := by decide +kernel
theorem dX6_logic_146 : decode cX6_logic 146 = .ok (.iconst 0, 1) := by decide +kernel
theorem dX6_logic_147 : decode cX6_logic 147 = .ok (.iadd, 1) := by decide +kernel
theorem dX6_logic_148 : decode cX6_logic 148 = .ok (.istore 7, 2) := by decide +kernel
theorem dX6_logic_150 : decode cX6_logic 150 = .ok (.iinc 8 (-1), 3) := by decide +kernel
theorem dX6_logic_153 : decode cX6_logic 153 = .ok (.goto (-75), 3) := by decide +kernel
theorem dX6_logic_156 : decode cX6_logic 156 = .ok (.iload_n 3, 1) := by decide +kernel
theorem dX6_logic_157 : decode cX6_logic 157 = .ok (.tableswitch 93 0 5 #[39, 52, 65, 68, 87, 90], 39) := by decide +kernel
theorem dX6_logic_196 : decode cX6_logic 196 = .ok (.iload 5, 2) := by decide +kernel
theorem dX6_logic_198 : decode cX6_logic 198 = .ok (.bipush (-9), 2) := by decide +kernel
theorem dX6_logic_200 : decode cX6_logic 200 = .ok (.if_icmp .ne 7, 3) := by decide +kernel
theorem dX6_logic_203 : decode cX6_logic 203 = .ok (.iconst 0, 1) := by decide +kernel
theorem dX6_logic_204 : decode cX6_logic 204 = .ok (.goto 4, 3) := by decide +kernel
theorem dX6_logic_207 : decode cX6_logic 207 = .ok (.iconst 1, 1) := by decide +kernel
theorem dX6_logic_208 : decode cX6_logic 208 = .ok (.ireturn, 1) := by decide +kernel
theorem dX6_logic_209 : decode cX6_logic 209 = .ok (.aload_n 0, 1) := by decide +kernel
theorem dX6_logic_210 : decode cX6_logic 210 = .ok (.invokevirtual 278, 3) := by decide +kernel
theorem dX6_logic_213 : decode cX6_logic 213 = .ok (.ifCond .eq 7, 3) := by decide +kernel
theorem dX6_logic_216 : decode cX6_logic 216 = .ok (.iconst 1, 1) := by decide +kernel
theorem dX6_logic_217 : decode cX6_logic 217 = .ok (.goto 4, 3) := by decide +kernel
theorem dX6_logic_220 : decode cX6_logic 220 = .ok (.iconst 0, 1) := by decide +kernel
theorem dX6_logic_221 : decode cX6_logic 221 = .ok (.ireturn, 1) := by decide +kernel
theorem dX6_logic_222 : decode cX6_logic 222 = .ok (.iload 5, 2) := by decide +kernel
theorem dX6_logic_224 : decode cX6_logic 224 = .ok (.ireturn, 1) := by decide +kernel
theorem dX6_logic_225 : decode cX6_logic 225 = .ok (.iload 5, 2) := by decide +kernel
theorem dX6_logic_227 : decode cX6_logic 227 = .ok (.bipush (-9), 2) := by decide +kernel
theorem dX6_logic_229 : decode cX6_logic 229 = .ok (.if_icmp .ne 7, 3) := by decide +kernel
theorem dX6_logic_232 : decode cX6_logic 232 = .ok (.iconst 0, 1) := by decide +kernel
theorem dX6_logic_233 : decode cX6_logic 233 = .ok (.goto 10, 3) := by decide +kernel
theorem dX6_logic_236 : decode cX6_logic 236 = .ok (.aload_n 0, 1) := by decide +kernel
theorem dX6_logic_237 : decode cX6_logic 237 = .ok (.iload_n 2, 1) := by decide +kernel
theorem dX6_logic_238 : decode cX6_logic 238 = .ok (.iload 5, 2) := by decide +kernel
theorem dX6_logic_240 : decode cX6_logic 240 = .ok (.invokevirtual 281, 3) := by decide +kernel
theorem dX6_logic_243 : decode cX6_logic 243 = .ok (.ireturn, 1) := by decide +kernel
theorem dX6_logic_244 : decode cX6_logic 244 = .ok (.iload 6, 2) := by decide +kernel
theorem dX6_logic_246 : decode cX6_logic 246 = .ok (.ireturn, 1) := by decide +kernel
theorem dX6_logic_247 : decode cX6_logic 247 = .ok (.iload 7, 2) := by decide +kernel
theorem dX6_logic_249 : decode cX6_logic 249 = .ok (.ireturn, 1) := by decide +kernel
theorem dX6_logic_250 : decode cX6_logic 250 = .ok (.iload 4, 2) := by decide +kernel
theorem dX6_logic_252 : decode cX6_logic 252 = .ok (.ireturn, 1) := by decide +kernel
theorem dX6_falls_0 : decode cX6_falls 0 = .ok (.aload_n 0, 1) := by decide +kernel
theorem dX6_falls_1 : decode cX6_falls 1 = .ok (.iconst 0, 1) := by decide +kernel
theorem dX6_falls_2 : decode cX6_falls 2 = .ok (.putfield 132, 3) := by decide +kernel
theorem dX6_falls_5 : decode cX6_falls 5 = .ok (.iload_n 1, 1) := by decide +kernel
theorem dX6_falls_6 : decode cX6_falls 6 = .ok (.invokestatic 195, 3) := by decide +kernel
theorem dX6_falls_9 : decode cX6_falls 9 = .ok (.ifCond .eq 14, 3) := by decide +kernel
theorem dX6_falls_12 : decode cX6_falls 12 = .ok (.iload_n 2, 1) := by decide +kernel
theorem dX6_falls_13 : decode cX6_falls 13 = .ok (.invokestatic 265, 3) := by decide +kernel
theorem dX6_falls_16 : decode cX6_falls 16 = .ok (.ifCond .eq 7, 3) := by decide +kernel
theorem dX6_falls_19 : decode cX6_falls 19 = .ok (.iload_n 3, 1) := by decide +kernel
theorem dX6_falls_20 : decode cX6_falls 20 = .ok (.ifCond .ge 5, 3) := by decide +kernel
theorem dX6_falls_23 : decode cX6_falls 23 = .ok (.iconst (-1), 1) := by decide +kernel
theorem dX6_falls_24 : decode cX6_falls 24 = .ok (.ireturn, 1) := by decide +kernel
theorem dX6_falls_25 : decode cX6_falls 25 = .ok (.aload_n 0, 1) := by decide +kernel
theorem dX6_falls_26 : decode cX6_falls 26 = .ok (.iload_n 1, 1) := by decide +kernel
theorem dX6_falls_27 : decode cX6_falls 27 = .ok (.invokevirtual 215, 3) := by decide +kernel
theorem dX6_falls_30 : decode cX6_falls 30 = .ok (.aload_n 0, 1) := by decide +kernel
theorem dX6_falls_31 : decode cX6_falls 31 = .ok (.iconst 0, 1) := by decide +kernel
theorem dX6_falls_32 : decode cX6_falls 32 = .ok (.invokevirtual 268, 3) := by decide +kernel
theorem dX6_falls_35 : decode cX6_falls 35 = .ok (.ifCond .ne 6, 3) := by decide +kernel
theorem dX6_falls_38 : decode cX6_falls 38 = .ok (.bipush (-2), 2) := by decide +kernel
theorem dX6_falls_40 : decode cX6_falls 40 = .ok (.ireturn, 1) := by decide +kernel
theorem dX6_falls_41 : decode cX6_falls 41 = .ok (.iload_n 3, 1) := by decide +kernel
theorem dX6_falls_42 : decode cX6_falls 42 = .ok (.iconst 1, 1) := by decide +kernel
theorem dX6_falls_43 : decode cX6_falls 43 = .ok (.aload_n 0, 1) := by decide +kernel
theorem dX6_falls_44 : decode cX6_falls 44 = .ok (.getfield 240, 3) := by decide +kernel
theorem dX6_falls_47 : decode cX6_falls 47 = .ok (.ishl, 1) := by decide +kernel
theorem dX6_falls_48 : decode cX6_falls 48 = .ok (.if_icmp .lt 5, 3) := by decide +kernel
theorem dX6_falls_51 : decode cX6_falls 51 = .ok (.iconst (-1), 1) := by decide +kernel
theorem dX6_falls_52 : decode cX6_falls 52 = .ok (.ireturn, 1) := by decide +kernel
theorem dX6_falls_53 : decode cX6_falls 53 = .ok (.aload_n 0, 1) := by decide +kernel
theorem dX6_falls_54 : decode cX6_falls 54 = .ok (.invokevirtual 272, 3) := by decide +kernel
theorem dX6_falls_57 : decode cX6_falls 57 = .ok (.aload_n 0, 1) := by decide +kernel
theorem dX6_falls_58 : decode cX6_falls 58 = .ok (.iload_n 2, 1) := by decide +kernel
theorem dX6_falls_59 : decode cX6_falls 59 = .ok (.invokevirtual 275, 3) := by decide +kernel
theorem dX6_falls_62 : decode cX6_falls 62 = .ok (.pop, 1) := by decide +kernel
theorem dX6_falls_63 : decode cX6_falls 63 = .ok (.aload_n 0, 1) := by decide +kernel
theorem dX6_falls_64 : decode cX6_falls 64 = .ok (.getfield 111, 3) := by decide +kernel
theorem dX6_falls_67 : decode cX6_falls 67 = .ok (.iload_n 3, 1) := by decide +kernel
theorem dX6_falls_68 : decode cX6_falls 68 = .ok (.iaload, 1) := by decide +kernel
theorem dX6_falls_69 : decode cX6_falls 69 = .ok (.ireturn, 1) := by decide +kernel
theorem dX6_follows_0 : decode cX6_follows 0 = .ok (.aload_n 0, 1) := by decide +kernel
theorem dX6_follows_1 : decode cX6_follows 1 = .ok (.iconst 0, 1) := by decide +kernel
theorem dX6_follows_2 : decode cX6_follows 2 = .ok (.putfield 132, 3) := by decide +kernel
theorem dX6_follows_5 : decode cX6_follows 5 = .ok (.iload_n 1, 1) := by decide +kernel
theorem dX6_follows_6 : decode cX6_follows 6 = .ok (.invokestatic 195, 3) := by decide +kernel
theorem dX6_follows_9 : decode cX6_follows 9 = .ok (.ifCond .eq 17, 3) := by decide +kernel
theorem dX6_follows_12 : decode cX6_follows 12 = .ok (.iload_n 2, 1) := by decide +kernel
theorem dX6_follows_13 : decode cX6_follows 13 = .ok (.invokestatic 195, 3) := by decide +kernel
theorem dX6_follows_16 : decode cX6_follows 16 = .ok (.ifCond .eq 10, 3) := by decide +kernel
theorem dX6_follows_19 : decode cX6_follows 19 = .ok (.iload_n 3, 1) := by decide +kernel
theorem dX6_follows_20 : decode cX6_follows 20 = .ok (.invokestatic 265, 3) := by decide +kernel
theorem dX6_follows_23 : decode cX6_follows 23 = .ok (.ifCond .ne 5, 3) := by decide +kernel
theorem dX6_follows_26 : decode cX6_follows 26 = .ok (.iconst (-1), 1) := by decide +kernel
theorem dX6_follows_27 : decode cX6_follows 27 = .ok (.ireturn, 1) := by decide +kernel
theorem dX6_follows_28 : decode cX6_follows 28 = .ok (.aload_n 0, 1) := by decide +kernel
theorem dX6_follows_29 : decode cX6_follows 29 = .ok (.iconst 0, 1) := by decide +kernel
theorem dX6_follows_30 : decode cX6_follows 30 = .ok (.putfield 202, 3) := by decide +kernel
theorem dX6_follows_33 : decode cX6_follows 33 = .ok (.aload_n 0, 1) := by decide +kernel
theorem dX6_follows_34 : decode cX6_follows 34 = .ok (.getfield 74, 3) := by decide +kernel
theorem dX6_follows_37 : decode cX6_follows 37 = .ok (.iconst 0, 1) := by decide +kernel
theorem dX6_follows_38 : decode cX6_follows 38 = .ok (.bipush 40, 2) := by decide +kernel
theorem dX6_follows_40 : decode cX6_follows 40 = .ok (.iastore, 1) := by decide +kernel
theorem dX6_follows_41 : decode cX6_follows 41 = .ok (.aload_n 0, 1) := by decide +kernel
theorem dX6_follows_42 : decode cX6_follows 42 = .ok (.iconst 1, 1) := by decide +kernel
theorem dX6_follows_43 : decode cX6_follows 43 = .ok (.putfield 205, 3) := by decide +kernel
theorem dX6_follows_46 : decode cX6_follows 46 = .ok (.aload_n 0, 1) := by decide +kernel
theorem dX6_follows_47 : decode cX6_follows 47 = .ok (.iload_n 1, 1) := by decide +kernel
theorem dX6_follows_48 : decode cX6_follows 48 = .ok (.invokevirtual 208, 3) := by decide +kernel
theorem dX6_follows_51 : decode cX6_follows 51 = .ok (.aload_n 0, 1) := by decide +kernel
theorem dX6_follows_52 : decode cX6_follows 52 = .ok (.getfield 202, 3) := by decide +kernel
theorem dX6_follows_55 : decode cX6_follows 55 = .ok (.iconst 1, 1) := by decide +kernel
theorem dX6_follows_56 : decode cX6_follows 56 = .ok (.isub, 1) := by decide +kernel
theorem dX6_follows_57 : decode cX6_follows 57 = .ok (.istore 4, 2) := by decide +kernel
theorem dX6_follows_59 : decode cX6_follows 59 = .ok (.aload_n 0, 1) := by decide +kernel
theorem dX6_follows_60 : decode cX6_follows 60 = .ok (.getfield 74, 3) := by decide +kernel
theorem dX6_follows_63 : decode cX6_follows 63 = .ok (.aload_n 0, 1) := by decide +kernel
theorem dX6_follows_64 : decode cX6_follows 64 = .ok (.getfield 205, 3) := by decide +kernel
theorem dX6_follows_67 : decode cX6_follows 67 = .ok (.bipush 62, 2) := by decide +kernel
theorem dX6_follows_69 : decode cX6_follows 69 = .ok (.iastore, 1) := by decide +kernel
theorem dX6_follows_70 : decode cX6_follows 70 = .ok (.aload_n 0, 1) := by decide +kernel
theorem dX6_follows_71 : decode cX6_follows 71 = .ok (.dup, 1) := by decide +kernel
theorem dX6_follows_72 : decode cX6_follows 72 = .ok (.getfield 205, 3) := by decide +kernel
theorem dX6_follows_75 : decode cX6_follows 75 = .ok (.iconst 1, 1) := by decide +kernel
theorem dX6_follows_76 : decode cX6_follows 76 = .ok (.iadd, 1) := by decide +kernel
theorem dX6_follows_77 : decode cX6_follows 77 = .ok (.putfield 205, 3) := by decide +kernel
theorem dX6_follows_80 : decode cX6_follows 80 = .ok (.aload_n 0, 1) := by decide +kernel
theorem dX6_follows_81 : decode cX6_follows 81 = .ok (.iload_n 2, 1) := by decide +kernel
theorem dX6_follows_82 : decode cX6_follows 82 = .ok (.invokevirtual 208, 3) := by decide +kernel
theorem dX6_follows_85 : decode cX6_follows 85 = .ok (.aload_n 0, 1) := by decide +kernel
theorem dX6_follows_86 : decode cX6_follows 86 = .ok (.getfield 77, 3) := by decide +kernel
theorem dX6_follows_89 : decode cX6_follows 89 = .ok (.aload_n 0, 1) := by decide +kernel
theorem dX6_follows_90 : decode cX6_follows 90 = .ok (.getfield 202, 3) := by decide +kernel
theorem dX6_follows_93 : decode cX6_follows 93 = .ok (.bipush 62, 2) := by decide +kernel
theorem dX6_follows_95 : decode cX6_follows 95 = .ok (.iastore, 1) := by decide +kernel
theorem dX6_follows_96 : decode cX6_follows 96 = .ok (.aload_n 0, 1) := by decide +kernel
theorem dX6_follows_97 : decode cX6_follows 97 = .ok (.getfield 80, 3) := by decide +kernel
theorem dX6_follows_100 : decode cX6_follows 100 = .ok (.aload_n 0, 1) := by decide +kernel
theorem dX6_follows_101 : decode cX6_follows 101 = .ok (.getfield 202, 3) := by decide +kernel
theorem dX6_follows_104 : decode cX6_follows 104 = .ok (.iload 4, 2) := by decide +kernel
theorem dX6_follows_106 : decode cX6_follows 106 = .ok (.iastore, 1) := by decide +kernel
theorem dX6_follows_107 : decode cX6_follows 107 = .ok (.aload_n 0, 1) := by decide +kernel
theorem dX6_follows_108 : decode cX6_follows 108 = .ok (.getfield 83, 3) := by decide +kernel
theorem dX6_follows_111 : decode cX6_follows 111 = .ok (.aload_n 0, 1) := by decide +kernel
theorem dX6_follows_112 : decode cX6_follows 112 = .ok (.getfield 202, 3) := by decide +kernel
theorem dX6_follows_115 : decode cX6_follows 115 = .ok (.aload_n 0, 1) := by decide +kernel
theorem dX6_follows_116 : decode cX6_follows 116 = .ok (.getfield 202, 3) := by decide +kernel
theorem dX6_follows_119 : decode cX6_follows 119 = .ok (.iconst 1, 1) := by decide +kernel
theorem dX6_follows_120 : decode cX6_follows 120 = .ok (.isub, 1) := by decide +kernel
theorem dX6_follows_121 : decode cX6_follows 121 = .ok (.iastore, 1) := by decide +kernel
theorem dX6_follows_122 : decode cX6_follows 122 = .ok (.aload_n 0, 1) := by decide +kernel
theorem dX6_follows_123 : decode cX6_follows 123 = .ok (.getfield 74, 3) := by decide +kernel
theorem dX6_follows_126 : decode cX6_follows 126 = .ok (.aload_n 0, 1) := by decide +kernel
theorem dX6_follows_127 : decode cX6_follows 127 = .ok (.getfield 205, 3) := by decide +kernel
theorem dX6_follows_130 : decode cX6_follows 130 = .ok (.bipush 41, 2) := by decide +kernel
theorem dX6_follows_132 : decode cX6_follows 132 = .ok (.iastore, 1) := by decide +kernel
theorem dX6_follows_133 : decode cX6_follows 133 = .ok (.aload_n 0, 1) := by decide +kernel
theorem dX6_follows_134 : decode cX6_follows 134 = .ok (.dup, 1) := by decide +kernel
theorem dX6_follows_135 : decode cX6_follows 135 = .ok (.getfield 205, 3) := by decide +kernel
theorem dX6_follows_138 : decode cX6_follows 138 = .ok (.iconst 1, 1) := by decide +kernel
theorem dX6_follows_139 : decode cX6_follows 139 = .ok (.iadd, 1) := by decide +kernel
theorem dX6_follows_140 : decode cX6_follows 140 = .ok (.putfield 205, 3) := by decide +kernel
theorem dX6_follows_143 : decode cX6_follows 143 = .ok (.aload_n 0, 1) := by decide +kernel
theorem dX6_follows_144 : decode cX6_follows 144 = .ok (.getfield 86, 3) := by decide +kernel
theorem dX6_follows_147 : decode cX6_follows 147 = .ok (.aload_n 0, 1) := by decide +kernel
theorem dX6_follows_148 : decode cX6_follows 148 = .ok (.getfield 202, 3) := by decide +kernel
theorem dX6_follows_151 : decode cX6_follows 151 = .ok (.iconst 0, 1) := by decide +kernel
theorem dX6_follows_152 : decode cX6_follows 152 = .ok (.iastore, 1) := by decide +kernel
theorem dX6_follows_153 : decode cX6_follows 153 = .ok (.aload_n 0, 1) := by decide +kernel
theorem dX6_follows_154 : decode cX6_follows 154 = .ok (.getfield 89, 3) := by decide +kernel
theorem dX6_follows_157 : decode cX6_follows 157 = .ok (.aload_n 0, 1) := by decide +kernel
theorem dX6_follows_158 : decode cX6_follows 158 = .ok (.getfield 202, 3) := by decide +kernel
theorem dX6_follows_161 : decode cX6_follows 161 = .ok (.aload_n 0, 1) := by decide +kernel
theorem dX6_follows_162 : decode cX6_follows 162 = .ok (.getfield 205, 3) := by decide +kernel
theorem dX6_follows_165 : decode cX6_follows 165 = .ok (.iastore, 1) := by decide +kernel
theorem dX6_follows_166 : decode cX6_follows 166 = .ok (.aload_n 0, 1) := by decide +kernel
theorem dX6_follows_167 : decode cX6_follows 167 = .ok (.dup, 1) := by decide +kernel
theorem dX6_follows_168 : decode cX6_follows 168 = .ok (.getfield 202, 3) := by decide +kernel
theorem dX6_follows_171 : decode cX6_follows 171 = .ok (.iconst 1, 1) := by decide +kernel
theorem dX6_follows_172 : decode cX6_follows 172 = .ok (.iadd, 1) := by decide +kernel
theorem dX6_follows_173 : decode cX6_follows 173 = .ok (.putfield 202, 3) := by decide +kernel
theorem dX6_follows_176 : decode cX6_follows 176 = .ok (.aload_n 0, 1) := by decide +kernel
theorem dX6_follows_177 : decode cX6_follows 177 = .ok (.iconst 0, 1) := by decide +kernel
theorem dX6_follows_178 : decode cX6_follows 178 = .ok (.invokevirtual 268, 3) := by decide +kernel
theorem dX6_follows_181 : decode cX6_follows 181 = .ok (.ifCond .ne 6, 3) := by decide +kernel
theorem dX6_follows_184 : decode cX6_follows 184 = .ok (.bipush (-2), 2) := by decide +kernel
theorem dX6_follows_186 : decode cX6_follows 186 = .ok (.ireturn, 1) := by decide +kernel
theorem dX6_follows_187 : decode cX6_follows 187 = .ok (.aload_n 0, 1) := by decide +kernel
theorem dX6_follows_188 : decode cX6_follows 188 = .ok (.invokevirtual 272, 3) := by decide +kernel
theorem dX6_follows_191 : decode cX6_follows 191 = .ok (.aload_n 0, 1) := by decide +kernel
theorem dX6_follows_192 : decode cX6_follows 192 = .ok (.iload_n 3, 1) := by decide +kernel
theorem dX6_follows_193 : decode cX6_follows 193 = .ok (.invokevirtual 275, 3) := by decide +kernel
theorem dX6_follows_196 : decode cX6_follows 196 = .ok (.pop, 1) := by decide +kernel
theorem dX6_follows_197 : decode cX6_follows 197 = .ok (.aload_n 0, 1) := by decide +kernel
theorem dX6_follows_198 : decode cX6_follows 198 = .ok (.invokevirtual 278, 3) := by decide +kernel
theorem dX6_follows_201 : decode cX6_follows 201 = .ok (.ifCond .eq 7, 3) := by decide +kernel
theorem dX6_follows_204 : decode cX6_follows 204 = .ok (.iconst 1, 1) := by decide +kernel
theorem dX6_follows_205 : decode cX6_follows 205 = .ok (.goto 4, 3) := by decide +kernel
theorem dX6_follows_208 : decode cX6_follows 208 = .ok (.iconst 0, 1) := by decide +kernel
theorem dX6_follows_209 : decode cX6_follows 209 = .ok (.ireturn, 1) := by decide +kernel
theorem dX6_splits_0 : decode cX6_splits 0 = .ok (.aload_n 0, 1) := by decide +kernel
theorem dX6_splits_1 : decode cX6_splits 1 = .ok (.iload_n 1, 1) := by decide +kernel
theorem dX6_splits_2 : decode cX6_splits 2 = .ok (.invokevirtual 234, 3) := by decide +kernel
theorem dX6_splits_5 : decode cX6_splits 5 = .ok (.iconst 0, 1) := by decide +kernel
theorem dX6_splits_6 : decode cX6_splits 6 = .ok (.istore_n 2, 1) := by decide +kernel
theorem dX6_splits_7 : decode cX6_splits 7 = .ok (.iload_n 2, 1) := by decide +kernel
theorem dX6_splits_8 : decode cX6_splits 8 = .ok (.aload_n 0, 1) := by decide +kernel
theorem dX6_splits_9 : decode cX6_splits 9 = .ok (.getfield 7, 3) := by decide +kernel
theorem dX6_splits_12 : decode cX6_splits 12 = .ok (.if_icmp .ge 50, 3) := by decide +kernel
theorem dX6_splits_15 : decode cX6_splits 15 = .ok (.aload_n 0, 1) := by decide +kernel
theorem dX6_splits_16 : decode cX6_splits 16 = .ok (.getfield 123, 3) := by decide +kernel
theorem dX6_splits_19 : decode cX6_splits 19 = .ok (.iload_n 2, 1) := by decide +kernel
theorem dX6_splits_20 : decode cX6_splits 20 = .ok (.iconst 0, 1) := by decide +kernel
theorem dX6_splits_21 : decode cX6_splits 21 = .ok (.iastore, 1) := by decide +kernel
theorem dX6_splits_22 : decode cX6_splits 22 = .ok (.iconst 0, 1) := by decide +kernel
theorem dX6_splits_23 : decode cX6_splits 23 = .ok (.istore_n 3, 1) := by decide +kernel
theorem dX6_splits_24 : decode cX6_splits 24 = .ok (.iload_n 3, 1) := by decide +kernel
theorem dX6_splits_25 : decode cX6_splits 25 = .ok (.iconst 4, 1) := by decide +kernel
theorem dX6_splits_26 : decode cX6_splits 26 = .ok (.if_icmp .ge 30, 3) := by decide +kernel
theorem dX6_splits_29 : decode cX6_splits 29 = .ok (.aload_n 0, 1) := by decide +kernel
theorem dX6_splits_30 : decode cX6_splits 30 = .ok (.getfield 123, 3) := by decide +kernel
theorem dX6_splits_33 : decode cX6_splits 33 = .ok (.iload_n 2, 1) := by decide +kernel
theorem dX6_splits_34 : decode cX6_splits 34 = .ok (.dup2, 1) := by decide +kernel
theorem dX6_splits_35 : decode cX6_splits 35 = .ok (.iaload, 1) := by decide +kernel
theorem dX6_splits_36 : decode cX6_splits 36 = .ok (.aload_n 0, 1) := by decide +kernel
theorem dX6_splits_37 : decode cX6_splits 37 = .ok (.getfield 17, 3) := by decide +kernel
theorem dX6_splits_40 : decode cX6_splits 40 = .ok (.iload_n 3, 1) := by decide +kernel
theorem dX6_splits_41 : decode cX6_splits 41 = .ok (.iaload, 1) := by decide +kernel
theorem dX6_splits_42 : decode cX6_splits 42 = .ok (.iload_n 2, 1) := by decide +kernel
theorem dX6_splits_43 : decode cX6_splits 43 = .ok (.ishr, 1) := by decide +kernel
theorem dX6_splits_44 : decode cX6_splits 44 = .ok (.iconst 1, 1) := by decide +kernel
theorem dX6_splits_45 : decode cX6_splits 45 = .ok (.iand, 1) := by decide +kernel
theorem dX6_splits_46 : decode cX6_splits 46 = .ok (.iload_n 3, 1) := by decide +kernel
theorem dX6_splits_47 : decode cX6_splits 47 = .ok (.ishl, 1) := by decide +kernel
theorem dX6_splits_48 : decode cX6_splits 48 = .ok (.iadd, 1) := by decide +kernel
theorem dX6_splits_49 : decode cX6_splits 49 = .ok (.iastore, 1) := by decide +kernel
theorem dX6_splits_50 : decode cX6_splits 50 = .ok (.iinc 3 1, 3) := by decide +kernel
theorem dX6_splits_53 : decode cX6_splits 53 = .ok (.goto (-29), 3) := by decide +kernel
theorem dX6_splits_56 : decode cX6_splits 56 = .ok (.iinc 2 1, 3) := by decide +kernel
theorem dX6_splits_59 : decode cX6_splits 59 = .ok (.goto (-52), 3) := by decide +kernel
theorem dX6_splits_62 : decode cX6_splits 62 = .ok (.iconst 0, 1) := by decide +kernel
theorem dX6_splits_63 : decode cX6_splits 63 = .ok (.istore_n 2, 1) := by decide +kernel
theorem dX6_splits_64 : decode cX6_splits 64 = .ok (.iload_n 2, 1) := by decide +kernel
theorem dX6_splits_65 : decode cX6_splits 65 = .ok (.bipush 64, 2) := by decide +kernel
theorem dX6_splits_67 : decode cX6_splits 67 = .ok (.if_icmp .ge 64, 3) := by decide +kernel
theorem dX6_splits_70 : decode cX6_splits 70 = .ok (.aload_n 0, 1) := by decide +kernel
theorem dX6_splits_71 : decode cX6_splits 71 = .ok (.getfield 129, 3) := by decide +kernel
theorem dX6_splits_74 : decode cX6_splits 74 = .ok (.iload_n 2, 1) := by decide +kernel
theorem dX6_splits_75 : decode cX6_splits 75 = .ok (.iload_n 2, 1) := by decide +kernel
theorem dX6_splits_76 : decode cX6_splits 76 = .ok (.bipush 8, 2) := by decide +kernel
theorem dX6_splits_78 : decode cX6_splits 78 = .ok (.idiv, 1) := by decide +kernel
theorem dX6_splits_79 : decode cX6_splits 79 = .ok (.aload_n 0, 1) := by decide +kernel
theorem dX6_splits_80 : decode cX6_splits 80 = .ok (.getfield 7, 3) := by decide +kernel
theorem dX6_splits_83 : decode cX6_splits 83 = .ok (.if_icmp .ge 39, 3) := by decide +kernel
theorem dX6_splits_86 : decode cX6_splits 86 = .ok (.iload_n 2, 1) := by decide +kernel
theorem dX6_splits_87 : decode cX6_splits 87 = .ok (.bipush 8, 2) := by decide +kernel
theorem dX6_splits_89 : decode cX6_splits 89 = .ok (.irem, 1) := by decide +kernel
theorem dX6_splits_90 : decode cX6_splits 90 = .ok (.aload_n 0, 1) := by decide +kernel
theorem dX6_splits_91 : decode cX6_splits 91 = .ok (.getfield 7, 3) := by decide +kernel
theorem dX6_splits_94 : decode cX6_splits 94 = .ok (.if_icmp .ge 28, 3) := by decide +kernel
theorem dX6_splits_97 : decode cX6_splits 97 = .ok (.aload_n 0, 1) := by decide +kernel
theorem dX6_splits_98 : decode cX6_splits 98 = .ok (.getfield 123, 3) := by decide +kernel
theorem dX6_splits_101 : decode cX6_splits 101 = .ok (.iload_n 2, 1) := by decide +kernel
theorem dX6_splits_102 : decode cX6_splits 102 = .ok (.bipush 8, 2) := by decide +kernel
theorem dX6_splits_104 : decode cX6_splits 104 = .ok (.idiv, 1) := by decide +kernel
theorem dX6_splits_105 : decode cX6_splits 105 = .ok (.iaload, 1) := by decide +kernel
theorem dX6_splits_106 : decode cX6_splits 106 = .ok (.aload_n 0, 1) := by decide +kernel
theorem dX6_splits_107 : decode cX6_splits 107 = .ok (.getfield 123, 3) := by decide +kernel
theorem dX6_splits_110 : decode cX6_splits 110 = .ok (.iload_n 2, 1) := by decide +kernel
theorem dX6_splits_111 : decode cX6_splits 111 = .ok (.bipush 8, 2) := by decide +kernel
theorem dX6_splits_113 : decode cX6_splits 113 = .ok (.irem, 1) := by decide +kernel
theorem dX6_splits_114 : decode cX6_splits 114 = .ok (.iaload, 1) := by decide +kernel
theorem dX6_splits_115 : decode cX6_splits 115 = .ok (.if_icmp .eq 7, 3) := by decide +kernel
theorem dX6_splits_118 : decode cX6_splits 118 = .ok (.iconst 0, 1) := by decide +kernel
theorem dX6_splits_119 : decode cX6_splits 119 = .ok (.goto 5, 3) := by decide +kernel
theorem dX6_splits_122 : decode cX6_splits 122 = .ok (.bipush (-9), 2) := by decide +kernel
theorem dX6_splits_124 : decode cX6_splits 124 = .ok (.iastore, 1) := by decide +kernel
theorem dX6_splits_125 : decode cX6_splits 125 = .ok (.iinc 2 1, 3) := by decide +kernel
theorem dX6_splits_128 : decode cX6_splits 128 = .ok (.goto (-64), 3) := by decide +kernel
theorem dX6_splits_131 : decode cX6_splits 131 = .ok (.iconst 0, 1) := by decide +kernel
theorem dX6_splits_132 : decode cX6_splits 132 = .ok (.istore_n 2, 1) := by decide +kernel
theorem dX6_splits_133 : decode cX6_splits 133 = .ok (.iconst 1, 1) := by decide +kernel
theorem dX6_splits_134 : decode cX6_splits 134 = .ok (.istore_n 3, 1) := by decide +kernel
theorem dX6_splits_135 : decode cX6_splits 135 = .ok (.iload_n 3, 1) := by decide +kernel
theorem dX6_splits_136 : decode cX6_splits 136 = .ok (.bipush 9, 2) := by decide +kernel
theorem dX6_splits_138 : decode cX6_splits 138 = .ok (.if_icmp .gt 233, 3) := by decide +kernel
theorem dX6_splits_141 : decode cX6_splits 141 = .ok (.iconst 0, 1) := by decide +kernel
theorem dX6_splits_142 : decode cX6_splits 142 = .ok (.istore_n 2, 1) := by decide +kernel
theorem dX6_splits_143 : decode cX6_splits 143 = .ok (.iconst 0, 1) := by decide +kernel
theorem dX6_splits_144 : decode cX6_splits 144 = .ok (.istore 4, 2) := by decide +kernel
theorem dX6_splits_146 : decode cX6_splits 146 = .ok (.iload 4, 2) := by decide +kernel
theorem dX6_splits_148 : decode cX6_splits 148 = .ok (.aload_n 0, 1) := by decide +kernel
theorem dX6_splits_149 : decode cX6_splits 149 = .ok (.getfield 7, 3) := by decide +kernel
theorem dX6_splits_152 : decode cX6_splits 152 = .ok (.if_icmp .ge 76, 3) := by decide +kernel
theorem dX6_splits_155 : decode cX6_splits 155 = .ok (.iconst 0, 1) := by decide +kernel
theorem dX6_splits_156 : decode cX6_splits 156 = .ok (.istore 5, 2) := by decide +kernel
theorem dX6_splits_158 : decode cX6_splits 158 = .ok (.iload 5, 2) := by decide +kernel
theorem dX6_splits_160 : decode cX6_splits 160 = .ok (.iload 4, 2) := by decide +kernel
theorem dX6_splits_162 : decode cX6_splits 162 = .ok (.if_icmp .ge 20, 3) := by decide +kernel
theorem dX6_splits_165 : decode cX6_splits 165 = .ok (.aload_n 0, 1) := by decide +kernel
theorem dX6_splits_166 : decode cX6_splits 166 = .ok (.iload 5, 2) := by decide +kernel
theorem dX6_splits_168 : decode cX6_splits 168 = .ok (.iload 4, 2) := by decide +kernel
theorem dX6_splits_170 : decode cX6_splits 170 = .ok (.invokevirtual 284, 3) := by decide +kernel
theorem dX6_splits_173 : decode cX6_splits 173 = .ok (.ifCond .ne 9, 3) := by decide +kernel
theorem dX6_splits_176 : decode cX6_splits 176 = .ok (.iinc 5 1, 3) := by decide +kernel
theorem dX6_splits_179 : decode cX6_splits 179 = .ok (.goto (-21), 3) := by decide +kernel
theorem dX6_splits_182 : decode cX6_splits 182 = .ok (.aload_n 0, 1) := by decide +kernel
theorem dX6_splits_183 : decode cX6_splits 183 = .ok (.getfield 126, 3) := by decide +kernel
theorem dX6_splits_186 : decode cX6_splits 186 = .ok (.iload 4, 2) := by decide +kernel
theorem dX6_splits_188 : decode cX6_splits 188 = .ok (.iload 5, 2) := by decide +kernel
theorem dX6_splits_190 : decode cX6_splits 190 = .ok (.iload 4, 2) := by decide +kernel
theorem dX6_splits_192 : decode cX6_splits 192 = .ok (.if_icmp .ge 13, 3) := by decide +kernel
theorem dX6_splits_195 : decode cX6_splits 195 = .ok (.aload_n 0, 1) := by decide +kernel
theorem dX6_splits_196 : decode cX6_splits 196 = .ok (.getfield 126, 3) := by decide +kernel
theorem dX6_splits_199 : decode cX6_splits 199 = .ok (.iload 5, 2) := by decide +kernel
theorem dX6_splits_201 : decode cX6_splits 201 = .ok (.iaload, 1) := by decide +kernel
theorem dX6_splits_202 : decode cX6_splits 202 = .ok (.goto 4, 3) := by decide +kernel
theorem dX6_splits_205 : decode cX6_splits 205 = .ok (.iload_n 2, 1) := by decide +kernel
theorem dX6_splits_206 : decode cX6_splits 206 = .ok (.iastore, 1) := by decide +kernel
theorem dX6_splits_207 : decode cX6_splits 207 = .ok (.iload_n 2, 1) := by decide +kernel
theorem dX6_splits_208 : decode cX6_splits 208 = .ok (.iload 5, 2) := by decide +kernel
theorem dX6_splits_210 : decode cX6_splits 210 = .ok (.iload 4, 2) := by decide +kernel
theorem dX6_splits_212 : decode cX6_splits 212 = .ok (.if_icmp .ge 7, 3) := by decide +kernel
theorem dX6_splits_215 : decode cX6_splits 215 = .ok (.iconst 0, 1) := by decide +kernel
theorem dX6_splits_216 : decode cX6_splits 216 = .ok (.goto 4, 3) := by decide +kernel
theorem dX6_splits_219 : decode cX6_splits 219 = .ok (.iconst 1, 1) := by decide +kernel
theorem dX6_splits_220 : decode cX6_splits 220 = .ok (.iadd, 1) := by decide +kernel
theorem dX6_splits_221 : decode cX6_splits 221 = .ok (.istore_n 2, 1) := by decide +kernel
theorem dX6_splits_222 : decode cX6_splits 222 = .ok (.iinc 4 1, 3) := by decide +kernel
theorem dX6_splits_225 : decode cX6_splits 225 = .ok (.goto (-79), 3) := by decide +kernel
theorem dX6_splits_228 : decode cX6_splits 228 = .ok (.iconst 0, 1) := by decide +kernel
theorem dX6_splits_229 : decode cX6_splits 229 = .ok (.istore 4, 2) := by decide +kernel
theorem dX6_splits_231 : decode cX6_splits 231 = .ok (.iload 4, 2) := by decide +kernel
theorem dX6_splits_233 : decode cX6_splits 233 = .ok (.aload_n 0, 1) := by decide +kernel
theorem dX6_splits_234 : decode cX6_splits 234 = .ok (.getfield 7, 3) := by decide +kernel
theorem dX6_splits_237 : decode cX6_splits 237 = .ok (.if_icmp .ge 23, 3) := by decide +kernel
theorem dX6_splits_240 : decode cX6_splits 240 = .ok (.aload_n 0, 1) := by decide +kernel
theorem dX6_splits_241 : decode cX6_splits 241 = .ok (.getfield 123, 3) := by decide +kernel
theorem dX6_splits_244 : decode cX6_splits 244 = .ok (.iload 4, 2) := by decide +kernel
theorem dX6_splits_246 : decode cX6_splits 246 = .ok (.aload_n 0, 1) := by decide +kernel
theorem dX6_splits_247 : decode cX6_splits 247 = .ok (.getfield 126, 3) := by decide +kernel
theorem dX6_splits_250 : decode cX6_splits 250 = .ok (.iload 4, 2) := by decide +kernel
theorem dX6_splits_252 : decode cX6_splits 252 = .ok (.iaload, 1) := by decide +kernel
theorem dX6_splits_253 : decode cX6_splits 253 = .ok (.iastore, 1) := by decide +kernel
theorem dX6_splits_254 : decode cX6_splits 254 = .ok (.iinc 4 1, 3) := by decide +kernel
theorem dX6_splits_257 : decode cX6_splits 257 = .ok (.goto (-26), 3) := by decide +kernel
theorem dX6_splits_260 : decode cX6_splits 260 = .ok (.iconst 0, 1) := by decide +kernel
theorem dX6_splits_261 : decode cX6_splits 261 = .ok (.istore 4, 2) := by decide +kernel
theorem dX6_splits_263 : decode cX6_splits 263 = .ok (.iload 4, 2) := by decide +kernel
theorem dX6_splits_265 : decode cX6_splits 265 = .ok (.bipush 64, 2) := by decide +kernel
theorem dX6_splits_267 : decode cX6_splits 267 = .ok (.if_icmp .ge 98, 3) := by decide +kernel
theorem dX6_splits_270 : decode cX6_splits 270 = .ok (.iload 4, 2) := by decide +kernel
theorem dX6_splits_272 : decode cX6_splits 272 = .ok (.bipush 8, 2) := by decide +kernel
theorem dX6_splits_274 : decode cX6_splits 274 = .ok (.idiv, 1) := by decide +kernel
theorem dX6_splits_275 : decode cX6_splits 275 = .ok (.aload_n 0, 1) := by decide +kernel
theorem dX6_splits_276 : decode cX6_splits 276 = .ok (.getfield 7, 3) := by decide +kernel
theorem dX6_splits_279 : decode cX6_splits 279 = .ok (.if_icmp .ge 54, 3) := by decide +kernel
theorem dX6_splits_282 : decode cX6_splits 282 = .ok (.iload 4, 2) := by decide +kernel
theorem dX6_splits_284 : decode cX6_splits 284 = .ok (.bipush 8, 2) := by decide +kernel
theorem dX6_splits_286 : decode cX6_splits 286 = .ok (.irem, 1) := by decide +kernel
theorem dX6_splits_287 : decode cX6_splits 287 = .ok (.aload_n 0, 1) := by decide +kernel
theorem dX6_splits_288 : decode cX6_splits 288 = .ok (.getfield 7, 3) := by decide +kernel
theorem dX6_splits_291 : decode cX6_splits 291 = .ok (.if_icmp .ge 42, 3) := by decide +kernel
theorem dX6_splits_294 : decode cX6_splits 294 = .ok (.aload_n 0, 1) := by decide +kernel
theorem dX6_splits_295 : decode cX6_splits 295 = .ok (.getfield 129, 3) := by decide +kernel
theorem dX6_splits_298 : decode cX6_splits 298 = .ok (.iload 4, 2) := by decide +kernel
theorem dX6_splits_300 : decode cX6_splits 300 = .ok (.iaload, 1) := by decide +kernel
theorem dX6_splits_301 : decode cX6_splits 301 = .ok (.bipush (-9), 2) := by decide +kernel
theorem dX6_splits_303 : decode cX6_splits 303 = .ok (.if_icmp .ne 30, 3) := by decide +kernel
theorem dX6_splits_306 : decode cX6_splits 306 = .ok (.aload_n 0, 1) := by decide +kernel
theorem dX6_splits_307 : decode cX6_splits 307 = .ok (.getfield 123, 3) := by decide +kernel
theorem dX6_splits_310 : decode cX6_splits 310 = .ok (.iload 4, 2) := by decide +kernel
theorem dX6_splits_312 : decode cX6_splits 312 = .ok (.bipush 8, 2) := by decide +kernel
theorem dX6_splits_314 : decode cX6_splits 314 = .ok (.idiv, 1) := by decide +kernel
theorem dX6_splits_315 : decode cX6_splits 315 = .ok (.iaload, 1) := by decide +kernel
theorem dX6_splits_316 : decode cX6_splits 316 = .ok (.aload_n 0, 1) := by decide +kernel
theorem dX6_splits_317 : decode cX6_splits 317 = .ok (.getfield 123, 3) := by decide +kernel
theorem dX6_splits_320 : decode cX6_splits 320 = .ok (.iload 4, 2) := by decide +kernel
theorem dX6_splits_322 : decode cX6_splits 322 = .ok (.bipush 8, 2) := by decide +kernel
theorem dX6_splits_324 : decode cX6_splits 324 = .ok (.irem, 1) := by decide +kernel
theorem dX6_splits_325 : decode cX6_splits 325 = .ok (.iaload, 1) := by decide +kernel
theorem dX6_splits_326 : decode cX6_splits 326 = .ok (.if_icmp .eq 7, 3) := by decide +kernel
theorem dX6_splits_329 : decode cX6_splits 329 = .ok (.iconst 1, 1) := by decide +kernel
theorem dX6_splits_330 : decode cX6_splits 330 = .ok (.goto 4, 3) := by decide +kernel
theorem dX6_splits_333 : decode cX6_splits 333 = .ok (.iconst 0, 1) := by decide +kernel
theorem dX6_splits_334 : decode cX6_splits 334 = .ok (.istore 5, 2) := by decide +kernel
theorem dX6_splits_336 : decode cX6_splits 336 = .ok (.aload_n 0, 1) := by decide +kernel
theorem dX6_splits_337 : decode cX6_splits 337 = .ok (.getfield 129, 3) := by decide +kernel
theorem dX6_splits_340 : decode cX6_splits 340 = .ok (.iload 4, 2) := by decide +kernel
theorem dX6_splits_342 : decode cX6_splits 342 = .ok (.iload 5, 2) := by decide +kernel
theorem dX6_splits_344 : decode cX6_splits 344 = .ok (.ifCond .eq 7, 3) := by decide +kernel
theorem dX6_splits_347 : decode cX6_splits 347 = .ok (.iload_n 3, 1) := by decide +kernel
theorem dX6_splits_348 : decode cX6_splits 348 = .ok (.goto 10, 3) := by decide +kernel
theorem dX6_splits_351 : decode cX6_splits 351 = .ok (.aload_n 0, 1) := by decide +kernel
theorem dX6_splits_352 : decode cX6_splits 352 = .ok (.getfield 129, 3) := by decide +kernel
theorem dX6_splits_355 : decode cX6_splits 355 = .ok (.iload 4, 2) := by decide +kernel
theorem dX6_splits_357 : decode cX6_splits 357 = .ok (.iaload, 1) := by decide +kernel
theorem dX6_splits_358 : decode cX6_splits 358 = .ok (.iastore, 1) := by decide +kernel
theorem dX6_splits_359 : decode cX6_splits 359 = .ok (.iinc 4 1, 3) := by decide +kernel
theorem dX6_splits_362 : decode cX6_splits 362 = .ok (.goto (-99), 3) := by decide +kernel
theorem dX6_splits_365 : decode cX6_splits 365 = .ok (.iinc 3 1, 3) := by decide +kernel
theorem dX6_splits_368 : decode cX6_splits 368 = .ok (.goto (-233), 3) := by decide +kernel
theorem dX6_splits_371 : decode cX6_splits 371 = .ok (.iload_n 2, 1) := by decide +kernel
theorem dX6_splits_372 : decode cX6_splits 372 = .ok (.ireturn, 1) := by decide +kernel
theorem dX6_isAlike_0 : decode cX6_isAlike 0 = .ok (.aload_n 0, 1) := by decide +kernel
theorem dX6_isAlike_1 : decode cX6_isAlike 1 = .ok (.getfield 123, 3) := by decide +kernel
theorem dX6_isAlike_4 : decode cX6_isAlike 4 = .ok (.iload_n 1, 1) := by decide +kernel
theorem dX6_isAlike_5 : decode cX6_isAlike 5 = .ok (.iaload, 1) := by decide +kernel
theorem dX6_isAlike_6 : decode cX6_isAlike 6 = .ok (.aload_n 0, 1) := by decide +kernel
theorem dX6_isAlike_7 : decode cX6_isAlike 7 = .ok (.getfield 123, 3) := by decide +kernel
theorem dX6_isAlike_10 : decode cX6_isAlike 10 = .ok (.iload_n 2, 1) := by decide +kernel
theorem dX6_isAlike_11 : decode cX6_isAlike 11 = .ok (.iaload, 1) := by decide +kernel
theorem dX6_isAlike_12 : decode cX6_isAlike 12 = .ok (.if_icmp .ne 20, 3) := by decide +kernel
theorem dX6_isAlike_15 : decode cX6_isAlike 15 = .ok (.aload_n 0, 1) := by decide +kernel
theorem dX6_isAlike_16 : decode cX6_isAlike 16 = .ok (.iload_n 1, 1) := by decide +kernel
theorem dX6_isAlike_17 : decode cX6_isAlike 17 = .ok (.invokevirtual 287, 3) := by decide +kernel
theorem dX6_isAlike_20 : decode cX6_isAlike 20 = .ok (.aload_n 0, 1) := by decide +kernel
theorem dX6_isAlike_21 : decode cX6_isAlike 21 = .ok (.iload_n 2, 1) := by decide +kernel
theorem dX6_isAlike_22 : decode cX6_isAlike 22 = .ok (.invokevirtual 287, 3) := by decide +kernel
theorem dX6_isAlike_25 : decode cX6_isAlike 25 = .ok (.if_icmp .ne 7, 3) := by decide +kernel
theorem dX6_isAlike_28 : decode cX6_isAlike 28 = .ok (.iconst 1, 1) := by decide +kernel
theorem dX6_isAlike_29 : decode cX6_isAlike 29 = .ok (.goto 4, 3) := by decide +kernel
theorem dX6_isAlike_32 : decode cX6_isAlike 32 = .ok (.iconst 0, 1) := by decide +kernel
theorem dX6_isAlike_33 : decode cX6_isAlike 33 = .ok (.ireturn, 1) := by decide +kernel
theorem dX6_heapsOf_0 : decode cX6_heapsOf 0 = .ok (.iconst 0, 1) := by decide +kernel
theorem dX6_heapsOf_1 : decode cX6_heapsOf 1 = .ok (.istore_n 2, 1) := by decide +kernel
theorem dX6_heapsOf_2 : decode cX6_heapsOf 2 = .ok (.iconst 0, 1) := by decide +kernel
theorem dX6_heapsOf_3 : decode cX6_heapsOf 3 = .ok (.istore_n 3, 1) := by decide +kernel
theorem dX6_heapsOf_4 : decode cX6_heapsOf 4 = .ok (.iload_n 3, 1) := by decide +kernel
theorem dX6_heapsOf_5 : decode cX6_heapsOf 5 = .ok (.aload_n 0, 1) := by decide +kernel
theorem dX6_heapsOf_6 : decode cX6_heapsOf 6 = .ok (.getfield 7, 3) := by decide +kernel
theorem dX6_heapsOf_9 : decode cX6_heapsOf 9 = .ok (.if_icmp .ge 38, 3) := by decide +kernel
theorem dX6_heapsOf_12 : decode cX6_heapsOf 12 = .ok (.iload_n 2, 1) := by decide +kernel
theorem dX6_heapsOf_13 : decode cX6_heapsOf 13 = .ok (.aload_n 0, 1) := by decide +kernel
theorem dX6_heapsOf_14 : decode cX6_heapsOf 14 = .ok (.getfield 120, 3) := by decide +kernel
theorem dX6_heapsOf_17 : decode cX6_heapsOf 17 = .ok (.iload_n 1, 1) := by decide +kernel
theorem dX6_heapsOf_18 : decode cX6_heapsOf 18 = .ok (.iaload, 1) := by decide +kernel
theorem dX6_heapsOf_19 : decode cX6_heapsOf 19 = .ok (.iload_n 3, 1) := by decide +kernel
theorem dX6_heapsOf_20 : decode cX6_heapsOf 20 = .ok (.ishr, 1) := by decide +kernel
theorem dX6_heapsOf_21 : decode cX6_heapsOf 21 = .ok (.iconst 1, 1) := by decide +kernel
theorem dX6_heapsOf_22 : decode cX6_heapsOf 22 = .ok (.iand, 1) := by decide +kernel
theorem dX6_heapsOf_23 : decode cX6_heapsOf 23 = .ok (.iconst 1, 1) := by decide +kernel
theorem dX6_heapsOf_24 : decode cX6_heapsOf 24 = .ok (.if_icmp .ne 14, 3) := by decide +kernel
theorem dX6_heapsOf_27 : decode cX6_heapsOf 27 = .ok (.iconst 1, 1) := by decide +kernel
theorem dX6_heapsOf_28 : decode cX6_heapsOf 28 = .ok (.aload_n 0, 1) := by decide +kernel
theorem dX6_heapsOf_29 : decode cX6_heapsOf 29 = .ok (.getfield 123, 3) := by decide +kernel
theorem dX6_heapsOf_32 : decode cX6_heapsOf 32 = .ok (.iload_n 3, 1) := by decide +kernel
theorem dX6_heapsOf_33 : decode cX6_heapsOf 33 = .ok (.iaload, 1) := by decide +kernel
theorem dX6_heapsOf_34 : decode cX6_heapsOf 34 = .ok (.ishl, 1) := by decide +kernel
theorem dX6_heapsOf_35 : decode cX6_heapsOf 35 = .ok (.goto 4, 3) := by decide +kernel
theorem dX6_heapsOf_38 : decode cX6_heapsOf 38 = .ok (.iconst 0, 1) := by decide +kernel
theorem dX6_heapsOf_39 : decode cX6_heapsOf 39 = .ok (.ior, 1) := by decide +kernel
theorem dX6_heapsOf_40 : decode cX6_heapsOf 40 = .ok (.istore_n 2, 1) := by decide +kernel
theorem dX6_heapsOf_41 : decode cX6_heapsOf 41 = .ok (.iinc 3 1, 3) := by decide +kernel
theorem dX6_heapsOf_44 : decode cX6_heapsOf 44 = .ok (.goto (-40), 3) := by decide +kernel
theorem dX6_heapsOf_47 : decode cX6_heapsOf 47 = .ok (.iload_n 2, 1) := by decide +kernel
theorem dX6_heapsOf_48 : decode cX6_heapsOf 48 = .ok (.ireturn, 1) := by decide +kernel
theorem dX6_heaps_0 : decode cX6_heaps 0 = .ok (.aload_n 0, 1) := by decide +kernel
theorem dX6_heaps_1 : decode cX6_heaps 1 = .ok (.iconst 0, 1) := by decide +kernel
theorem dX6_heaps_2 : decode cX6_heaps 2 = .ok (.putfield 132, 3) := by decide +kernel
theorem dX6_heaps_5 : decode cX6_heaps 5 = .ok (.iload_n 1, 1) := by decide +kernel
theorem dX6_heaps_6 : decode cX6_heaps 6 = .ok (.invokestatic 151, 3) := by decide +kernel
theorem dX6_heaps_9 : decode cX6_heaps 9 = .ok (.ifCond .eq 11, 3) := by decide +kernel
theorem dX6_heaps_12 : decode cX6_heaps 12 = .ok (.aload_n 0, 1) := by decide +kernel
theorem dX6_heaps_13 : decode cX6_heaps 13 = .ok (.iload_n 1, 1) := by decide +kernel
theorem dX6_heaps_14 : decode cX6_heaps 14 = .ok (.invokevirtual 290, 3) := by decide +kernel
theorem dX6_heaps_17 : decode cX6_heaps 17 = .ok (.goto 4, 3) := by decide +kernel
theorem dX6_heaps_20 : decode cX6_heaps 20 = .ok (.iconst (-1), 1) := by decide +kernel
theorem dX6_heaps_21 : decode cX6_heaps 21 = .ok (.ireturn, 1) := by decide +kernel
theorem dX6_alike_0 : decode cX6_alike 0 = .ok (.aload_n 0, 1) := by decide +kernel
theorem dX6_alike_1 : decode cX6_alike 1 = .ok (.iconst 0, 1) := by decide +kernel
theorem dX6_alike_2 : decode cX6_alike 2 = .ok (.putfield 132, 3) := by decide +kernel
theorem dX6_alike_5 : decode cX6_alike 5 = .ok (.aload_n 0, 1) := by decide +kernel
theorem dX6_alike_6 : decode cX6_alike 6 = .ok (.iload_n 1, 1) := by decide +kernel
theorem dX6_alike_7 : decode cX6_alike 7 = .ok (.invokevirtual 139, 3) := by decide +kernel
theorem dX6_alike_10 : decode cX6_alike 10 = .ok (.ifCond .eq 18, 3) := by decide +kernel
theorem dX6_alike_13 : decode cX6_alike 13 = .ok (.aload_n 0, 1) := by decide +kernel
theorem dX6_alike_14 : decode cX6_alike 14 = .ok (.iload_n 2, 1) := by decide +kernel
theorem dX6_alike_15 : decode cX6_alike 15 = .ok (.invokevirtual 139, 3) := by decide +kernel
theorem dX6_alike_18 : decode cX6_alike 18 = .ok (.ifCond .eq 10, 3) := by decide +kernel
theorem dX6_alike_21 : decode cX6_alike 21 = .ok (.iload_n 3, 1) := by decide +kernel
theorem dX6_alike_22 : decode cX6_alike 22 = .ok (.invokestatic 151, 3) := by decide +kernel
theorem dX6_alike_25 : decode cX6_alike 25 = .ok (.ifCond .ne 5, 3) := by decide +kernel
theorem dX6_alike_28 : decode cX6_alike 28 = .ok (.iconst (-1), 1) := by decide +kernel
theorem dX6_alike_29 : decode cX6_alike 29 = .ok (.ireturn, 1) := by decide +kernel
theorem dX6_alike_30 : decode cX6_alike 30 = .ok (.aload_n 0, 1) := by decide +kernel
theorem dX6_alike_31 : decode cX6_alike 31 = .ok (.iload_n 3, 1) := by decide +kernel
theorem dX6_alike_32 : decode cX6_alike 32 = .ok (.invokevirtual 290, 3) := by decide +kernel
theorem dX6_alike_35 : decode cX6_alike 35 = .ok (.pop, 1) := by decide +kernel
theorem dX6_alike_36 : decode cX6_alike 36 = .ok (.aload_n 0, 1) := by decide +kernel
theorem dX6_alike_37 : decode cX6_alike 37 = .ok (.getfield 129, 3) := by decide +kernel
theorem dX6_alike_40 : decode cX6_alike 40 = .ok (.bipush 8, 2) := by decide +kernel
theorem dX6_alike_42 : decode cX6_alike 42 = .ok (.iload_n 1, 1) := by decide +kernel
theorem dX6_alike_43 : decode cX6_alike 43 = .ok (.imul, 1) := by decide +kernel
theorem dX6_alike_44 : decode cX6_alike 44 = .ok (.iload_n 2, 1) := by decide +kernel
theorem dX6_alike_45 : decode cX6_alike 45 = .ok (.iadd, 1) := by decide +kernel
theorem dX6_alike_46 : decode cX6_alike 46 = .ok (.iaload, 1) := by decide +kernel
theorem dX6_alike_47 : decode cX6_alike 47 = .ok (.bipush (-9), 2) := by decide +kernel
theorem dX6_alike_49 : decode cX6_alike 49 = .ok (.if_icmp .ne 7, 3) := by decide +kernel
theorem dX6_alike_52 : decode cX6_alike 52 = .ok (.iconst 1, 1) := by decide +kernel
theorem dX6_alike_53 : decode cX6_alike 53 = .ok (.goto 4, 3) := by decide +kernel
theorem dX6_alike_56 : decode cX6_alike 56 = .ok (.iconst 0, 1) := by decide +kernel
theorem dX6_alike_57 : decode cX6_alike 57 = .ok (.ireturn, 1) := by decide +kernel
theorem dX6_apart_0 : decode cX6_apart 0 = .ok (.aload_n 0, 1) := by decide +kernel
theorem dX6_apart_1 : decode cX6_apart 1 = .ok (.iconst 0, 1) := by decide +kernel
theorem dX6_apart_2 : decode cX6_apart 2 = .ok (.putfield 132, 3) := by decide +kernel
theorem dX6_apart_5 : decode cX6_apart 5 = .ok (.aload_n 0, 1) := by decide +kernel
theorem dX6_apart_6 : decode cX6_apart 6 = .ok (.iload_n 1, 1) := by decide +kernel
theorem dX6_apart_7 : decode cX6_apart 7 = .ok (.invokevirtual 139, 3) := by decide +kernel
theorem dX6_apart_10 : decode cX6_apart 10 = .ok (.ifCond .eq 18, 3) := by decide +kernel
theorem dX6_apart_13 : decode cX6_apart 13 = .ok (.aload_n 0, 1) := by decide +kernel
theorem dX6_apart_14 : decode cX6_apart 14 = .ok (.iload_n 2, 1) := by decide +kernel
theorem dX6_apart_15 : decode cX6_apart 15 = .ok (.invokevirtual 139, 3) := by decide +kernel
theorem dX6_apart_18 : decode cX6_apart 18 = .ok (.ifCond .eq 10, 3) := by decide +kernel
theorem dX6_apart_21 : decode cX6_apart 21 = .ok (.iload_n 3, 1) := by decide +kernel
theorem dX6_apart_22 : decode cX6_apart 22 = .ok (.invokestatic 151, 3) := by decide +kernel
theorem dX6_apart_25 : decode cX6_apart 25 = .ok (.ifCond .ne 5, 3) := by decide +kernel
theorem dX6_apart_28 : decode cX6_apart 28 = .ok (.iconst (-1), 1) := by decide +kernel
theorem dX6_apart_29 : decode cX6_apart 29 = .ok (.ireturn, 1) := by decide +kernel
theorem dX6_apart_30 : decode cX6_apart 30 = .ok (.aload_n 0, 1) := by decide +kernel
theorem dX6_apart_31 : decode cX6_apart 31 = .ok (.iload_n 3, 1) := by decide +kernel
theorem dX6_apart_32 : decode cX6_apart 32 = .ok (.invokevirtual 290, 3) := by decide +kernel
theorem dX6_apart_35 : decode cX6_apart 35 = .ok (.pop, 1) := by decide +kernel
theorem dX6_apart_36 : decode cX6_apart 36 = .ok (.aload_n 0, 1) := by decide +kernel
theorem dX6_apart_37 : decode cX6_apart 37 = .ok (.getfield 129, 3) := by decide +kernel
theorem dX6_apart_40 : decode cX6_apart 40 = .ok (.bipush 8, 2) := by decide +kernel
theorem dX6_apart_42 : decode cX6_apart 42 = .ok (.iload_n 1, 1) := by decide +kernel
theorem dX6_apart_43 : decode cX6_apart 43 = .ok (.imul, 1) := by decide +kernel
theorem dX6_apart_44 : decode cX6_apart 44 = .ok (.iload_n 2, 1) := by decide +kernel
theorem dX6_apart_45 : decode cX6_apart 45 = .ok (.iadd, 1) := by decide +kernel
theorem dX6_apart_46 : decode cX6_apart 46 = .ok (.iaload, 1) := by decide +kernel
theorem dX6_apart_47 : decode cX6_apart 47 = .ok (.ireturn, 1) := by decide +kernel
theorem dX6_isGrowing_0 : decode cX6_isGrowing 0 = .ok (.iconst 1, 1) := by decide +kernel
theorem dX6_isGrowing_1 : decode cX6_isGrowing 1 = .ok (.istore_n 1, 1) := by decide +kernel
theorem dX6_isGrowing_2 : decode cX6_isGrowing 2 = .ok (.iconst 0, 1) := by decide +kernel
theorem dX6_isGrowing_3 : decode cX6_isGrowing 3 = .ok (.istore_n 2, 1) := by decide +kernel
theorem dX6_isGrowing_4 : decode cX6_isGrowing 4 = .ok (.iload_n 2, 1) := by decide +kernel
theorem dX6_isGrowing_5 : decode cX6_isGrowing 5 = .ok (.aload_n 0, 1) := by decide +kernel
theorem dX6_isGrowing_6 : decode cX6_isGrowing 6 = .ok (.getfield 7, 3) := by decide +kernel
theorem dX6_isGrowing_9 : decode cX6_isGrowing 9 = .ok (.if_icmp .ge 60, 3) := by decide +kernel
theorem dX6_isGrowing_12 : decode cX6_isGrowing 12 = .ok (.iconst 0, 1) := by decide +kernel
theorem dX6_isGrowing_13 : decode cX6_isGrowing 13 = .ok (.istore_n 3, 1) := by decide +kernel
theorem dX6_isGrowing_14 : decode cX6_isGrowing 14 = .ok (.iload_n 3, 1) := by decide +kernel
theorem dX6_isGrowing_15 : decode cX6_isGrowing 15 = .ok (.iconst 4, 1) := by decide +kernel
theorem dX6_isGrowing_16 : decode cX6_isGrowing 16 = .ok (.if_icmp .ge 47, 3) := by decide +kernel
theorem dX6_isGrowing_19 : decode cX6_isGrowing 19 = .ok (.iload_n 1, 1) := by decide +kernel
theorem dX6_isGrowing_20 : decode cX6_isGrowing 20 = .ok (.aload_n 0, 1) := by decide +kernel
theorem dX6_isGrowing_21 : decode cX6_isGrowing 21 = .ok (.getfield 17, 3) := by decide +kernel
theorem dX6_isGrowing_24 : decode cX6_isGrowing 24 = .ok (.iload_n 3, 1) := by decide +kernel
theorem dX6_isGrowing_25 : decode cX6_isGrowing 25 = .ok (.iaload, 1) := by decide +kernel
theorem dX6_isGrowing_26 : decode cX6_isGrowing 26 = .ok (.iload_n 2, 1) := by decide +kernel
theorem dX6_isGrowing_27 : decode cX6_isGrowing 27 = .ok (.ishr, 1) := by decide +kernel
theorem dX6_isGrowing_28 : decode cX6_isGrowing 28 = .ok (.iconst 1, 1) := by decide +kernel
theorem dX6_isGrowing_29 : decode cX6_isGrowing 29 = .ok (.iand, 1) := by decide +kernel
theorem dX6_isGrowing_30 : decode cX6_isGrowing 30 = .ok (.ifCond .eq 20, 3) := by decide +kernel
theorem dX6_isGrowing_33 : decode cX6_isGrowing 33 = .ok (.aload_n 0, 1) := by decide +kernel
theorem dX6_isGrowing_34 : decode cX6_isGrowing 34 = .ok (.iload_n 2, 1) := by decide +kernel
theorem dX6_isGrowing_35 : decode cX6_isGrowing 35 = .ok (.invokevirtual 147, 3) := by decide +kernel
theorem dX6_isGrowing_38 : decode cX6_isGrowing 38 = .ok (.aload_n 0, 1) := by decide +kernel
theorem dX6_isGrowing_39 : decode cX6_isGrowing 39 = .ok (.getfield 17, 3) := by decide +kernel
theorem dX6_isGrowing_42 : decode cX6_isGrowing 42 = .ok (.iload_n 3, 1) := by decide +kernel
theorem dX6_isGrowing_43 : decode cX6_isGrowing 43 = .ok (.iaload, 1) := by decide +kernel
theorem dX6_isGrowing_44 : decode cX6_isGrowing 44 = .ok (.iconst (-1), 1) := by decide +kernel
theorem dX6_isGrowing_45 : decode cX6_isGrowing 45 = .ok (.ixor, 1) := by decide +kernel
theorem dX6_isGrowing_46 : decode cX6_isGrowing 46 = .ok (.iand, 1) := by decide +kernel
theorem dX6_isGrowing_47 : decode cX6_isGrowing 47 = .ok (.ifCond .ne 7, 3) := by decide +kernel
theorem dX6_isGrowing_50 : decode cX6_isGrowing 50 = .ok (.iconst 1, 1) := by decide +kernel
theorem dX6_isGrowing_51 : decode cX6_isGrowing 51 = .ok (.goto 4, 3) := by decide +kernel
theorem dX6_isGrowing_54 : decode cX6_isGrowing 54 = .ok (.iconst 0, 1) := by decide +kernel
theorem dX6_isGrowing_55 : decode cX6_isGrowing 55 = .ok (.iand, 1) := by decide +kernel
theorem dX6_isGrowing_56 : decode cX6_isGrowing 56 = .ok (.istore_n 1, 1) := by decide +kernel
theorem dX6_isGrowing_57 : decode cX6_isGrowing 57 = .ok (.iinc 3 1, 3) := by decide +kernel
theorem dX6_isGrowing_60 : decode cX6_isGrowing 60 = .ok (.goto (-46), 3) := by decide +kernel
theorem dX6_isGrowing_63 : decode cX6_isGrowing 63 = .ok (.iinc 2 1, 3) := by decide +kernel
theorem dX6_isGrowing_66 : decode cX6_isGrowing 66 = .ok (.goto (-62), 3) := by decide +kernel
theorem dX6_isGrowing_69 : decode cX6_isGrowing 69 = .ok (.iload_n 1, 1) := by decide +kernel
theorem dX6_isGrowing_70 : decode cX6_isGrowing 70 = .ok (.ireturn, 1) := by decide +kernel
theorem dX6_growing_0 : decode cX6_growing 0 = .ok (.aload_n 0, 1) := by decide +kernel
theorem dX6_growing_1 : decode cX6_growing 1 = .ok (.iconst 0, 1) := by decide +kernel
theorem dX6_growing_2 : decode cX6_growing 2 = .ok (.putfield 132, 3) := by decide +kernel
theorem dX6_growing_5 : decode cX6_growing 5 = .ok (.aload_n 0, 1) := by decide +kernel
theorem dX6_growing_6 : decode cX6_growing 6 = .ok (.invokevirtual 293, 3) := by decide +kernel
theorem dX6_growing_9 : decode cX6_growing 9 = .ok (.ifCond .eq 7, 3) := by decide +kernel
theorem dX6_growing_12 : decode cX6_growing 12 = .ok (.iconst 1, 1) := by decide +kernel
theorem dX6_growing_13 : decode cX6_growing 13 = .ok (.goto 4, 3) := by decide +kernel
theorem dX6_growing_16 : decode cX6_growing 16 = .ok (.iconst 0, 1) := by decide +kernel
theorem dX6_growing_17 : decode cX6_growing 17 = .ok (.ireturn, 1) := by decide +kernel
theorem dX6_grows_0 : decode cX6_grows 0 = .ok (.aload_n 0, 1) := by decide +kernel
theorem dX6_grows_1 : decode cX6_grows 1 = .ok (.iconst 0, 1) := by decide +kernel
theorem dX6_grows_2 : decode cX6_grows 2 = .ok (.putfield 132, 3) := by decide +kernel
theorem dX6_grows_5 : decode cX6_grows 5 = .ok (.iload_n 1, 1) := by decide +kernel
theorem dX6_grows_6 : decode cX6_grows 6 = .ok (.invokestatic 195, 3) := by decide +kernel
theorem dX6_grows_9 : decode cX6_grows 9 = .ok (.ifCond .ne 5, 3) := by decide +kernel
theorem dX6_grows_12 : decode cX6_grows 12 = .ok (.iconst (-1), 1) := by decide +kernel
theorem dX6_grows_13 : decode cX6_grows 13 = .ok (.ireturn, 1) := by decide +kernel
theorem dX6_grows_14 : decode cX6_grows 14 = .ok (.aload_n 0, 1) := by decide +kernel
theorem dX6_grows_15 : decode cX6_grows 15 = .ok (.iload_n 1, 1) := by decide +kernel
theorem dX6_grows_16 : decode cX6_grows 16 = .ok (.invokevirtual 215, 3) := by decide +kernel
theorem dX6_grows_19 : decode cX6_grows 19 = .ok (.aload_n 0, 1) := by decide +kernel
theorem dX6_grows_20 : decode cX6_grows 20 = .ok (.invokevirtual 221, 3) := by decide +kernel
theorem dX6_grows_23 : decode cX6_grows 23 = .ok (.ifCond .eq 10, 3) := by decide +kernel
theorem dX6_grows_26 : decode cX6_grows 26 = .ok (.aload_n 0, 1) := by decide +kernel
theorem dX6_grows_27 : decode cX6_grows 27 = .ok (.invokevirtual 293, 3) := by decide +kernel
theorem dX6_grows_30 : decode cX6_grows 30 = .ok (.ifCond .ne 6, 3) := by decide +kernel
theorem dX6_grows_33 : decode cX6_grows 33 = .ok (.bipush (-2), 2) := by decide +kernel
theorem dX6_grows_35 : decode cX6_grows 35 = .ok (.ireturn, 1) := by decide +kernel
theorem dX6_grows_36 : decode cX6_grows 36 = .ok (.aload_n 0, 1) := by decide +kernel
theorem dX6_grows_37 : decode cX6_grows 37 = .ok (.iconst 2, 1) := by decide +kernel
theorem dX6_grows_38 : decode cX6_grows 38 = .ok (.invokevirtual 234, 3) := by decide +kernel
theorem dX6_grows_41 : decode cX6_grows 41 = .ok (.iconst 0, 1) := by decide +kernel
theorem dX6_grows_42 : decode cX6_grows 42 = .ok (.istore_n 2, 1) := by decide +kernel
theorem dX6_grows_43 : decode cX6_grows 43 = .ok (.iconst 0, 1) := by decide +kernel
theorem dX6_grows_44 : decode cX6_grows 44 = .ok (.istore_n 3, 1) := by decide +kernel
theorem dX6_grows_45 : decode cX6_grows 45 = .ok (.iload_n 3, 1) := by decide +kernel
theorem dX6_grows_46 : decode cX6_grows 46 = .ok (.aload_n 0, 1) := by decide +kernel
theorem dX6_grows_47 : decode cX6_grows 47 = .ok (.getfield 202, 3) := by decide +kernel
theorem dX6_grows_50 : decode cX6_grows 50 = .ok (.if_icmp .ge 198, 3) := by decide +kernel
theorem dX6_grows_53 : decode cX6_grows 53 = .ok (.aload_n 0, 1) := by decide +kernel
theorem dX6_grows_54 : decode cX6_grows 54 = .ok (.getfield 77, 3) := by decide +kernel
theorem dX6_grows_57 : decode cX6_grows 57 = .ok (.iload_n 3, 1) := by decide +kernel
theorem dX6_grows_58 : decode cX6_grows 58 = .ok (.iaload, 1) := by decide +kernel
theorem dX6_grows_59 : decode cX6_grows 59 = .ok (.istore 4, 2) := by decide +kernel
theorem dX6_grows_61 : decode cX6_grows 61 = .ok (.iload 4, 2) := by decide +kernel
theorem dX6_grows_63 : decode cX6_grows 63 = .ok (.invokestatic 182, 3) := by decide +kernel
theorem dX6_grows_66 : decode cX6_grows 66 = .ok (.ifCond .ne 11, 3) := by decide +kernel
theorem dX6_grows_69 : decode cX6_grows 69 = .ok (.iload 4, 2) := by decide +kernel
theorem dX6_grows_71 : decode cX6_grows 71 = .ok (.invokestatic 192, 3) := by decide +kernel
theorem dX6_grows_74 : decode cX6_grows 74 = .ok (.ifCond .eq 17, 3) := by decide +kernel
theorem dX6_grows_77 : decode cX6_grows 77 = .ok (.aload_n 0, 1) := by decide +kernel
theorem dX6_grows_78 : decode cX6_grows 78 = .ok (.getfield 98, 3) := by decide +kernel
theorem dX6_grows_81 : decode cX6_grows 81 = .ok (.aload_n 0, 1) := by decide +kernel
theorem dX6_grows_82 : decode cX6_grows 82 = .ok (.getfield 80, 3) := by decide +kernel
theorem dX6_grows_85 : decode cX6_grows 85 = .ok (.iload_n 3, 1) := by decide +kernel
theorem dX6_grows_86 : decode cX6_grows 86 = .ok (.iaload, 1) := by decide +kernel
theorem dX6_grows_87 : decode cX6_grows 87 = .ok (.iaload, 1) := by decide +kernel
theorem dX6_grows_88 : decode cX6_grows 88 = .ok (.goto 4, 3) := by decide +kernel
theorem dX6_grows_91 : decode cX6_grows 91 = .ok (.iconst 0, 1) := by decide +kernel
theorem dX6_grows_92 : decode cX6_grows 92 = .ok (.istore 5, 2) := by decide +kernel
theorem dX6_grows_94 : decode cX6_grows 94 = .ok (.iload 4, 2) := by decide +kernel
theorem dX6_grows_96 : decode cX6_grows 96 = .ok (.invokestatic 192, 3) := by decide +kernel
theorem dX6_grows_99 : decode cX6_grows 99 = .ok (.ifCond .eq 17, 3) := by decide +kernel
theorem dX6_grows_102 : decode cX6_grows 102 = .ok (.aload_n 0, 1) := by decide +kernel
theorem dX6_grows_103 : decode cX6_grows 103 = .ok (.getfield 98, 3) := by decide +kernel
theorem dX6_grows_106 : decode cX6_grows 106 = .ok (.aload_n 0, 1) := by decide +kernel
theorem dX6_grows_107 : decode cX6_grows 107 = .ok (.getfield 83, 3) := by decide +kernel
theorem dX6_grows_110 : decode cX6_grows 110 = .ok (.iload_n 3, 1) := by decide +kernel
theorem dX6_grows_111 : decode cX6_grows 111 = .ok (.iaload, 1) := by decide +kernel
theorem dX6_grows_112 : decode cX6_grows 112 = .ok (.iaload, 1) := by decide +kernel
theorem dX6_grows_113 : decode cX6_grows 113 = .ok (.goto 4, 3) := by decide +kernel
theorem dX6_grows_116 : decode cX6_grows 116 = .ok (.iconst 0, 1) := by decide +kernel
theorem dX6_grows_117 : decode cX6_grows 117 = .ok (.istore 6, 2) := by decide +kernel
theorem dX6_grows_119 : decode cX6_grows 119 = .ok (.iload 4, 2) := by decide +kernel
theorem dX6_grows_121 : decode cX6_grows 121 = .ok (.invokestatic 185, 3) := by decide +kernel
theorem dX6_grows_124 : decode cX6_grows 124 = .ok (.ifCond .eq 16, 3) := by decide +kernel
theorem dX6_grows_127 : decode cX6_grows 127 = .ok (.aload_n 0, 1) := by decide +kernel
theorem dX6_grows_128 : decode cX6_grows 128 = .ok (.getfield 17, 3) := by decide +kernel
theorem dX6_grows_131 : decode cX6_grows 131 = .ok (.iload 4, 2) := by decide +kernel
theorem dX6_grows_133 : decode cX6_grows 133 = .ok (.bipush 112, 2) := by decide +kernel
theorem dX6_grows_135 : decode cX6_grows 135 = .ok (.isub, 1) := by decide +kernel
theorem dX6_grows_136 : decode cX6_grows 136 = .ok (.iaload, 1) := by decide +kernel
theorem dX6_grows_137 : decode cX6_grows 137 = .ok (.goto 97, 3) := by decide +kernel
theorem dX6_grows_140 : decode cX6_grows 140 = .ok (.iload 4, 2) := by decide +kernel
theorem dX6_grows_142 : decode cX6_grows 142 = .ok (.bipush 84, 2) := by decide +kernel
theorem dX6_grows_144 : decode cX6_grows 144 = .ok (.if_icmp .ne 10, 3) := by decide +kernel
theorem dX6_grows_147 : decode cX6_grows 147 = .ok (.aload_n 0, 1) := by decide +kernel
theorem dX6_grows_148 : decode cX6_grows 148 = .ok (.invokevirtual 143, 3) := by decide +kernel
theorem dX6_grows_151 : decode cX6_grows 151 = .ok (.goto 83, 3) := by decide +kernel
theorem dX6_grows_154 : decode cX6_grows 154 = .ok (.iload 4, 2) := by decide +kernel
theorem dX6_grows_156 : decode cX6_grows 156 = .ok (.bipush 70, 2) := by decide +kernel
theorem dX6_grows_158 : decode cX6_grows 158 = .ok (.if_icmp .ne 7, 3) := by decide +kernel
theorem dX6_grows_161 : decode cX6_grows 161 = .ok (.iconst 0, 1) := by decide +kernel
theorem dX6_grows_162 : decode cX6_grows 162 = .ok (.goto 72, 3) := by decide +kernel
theorem dX6_grows_165 : decode cX6_grows 165 = .ok (.iload 4, 2) := by decide +kernel
theorem dX6_grows_167 : decode cX6_grows 167 = .ok (.bipush 33, 2) := by decide +kernel
theorem dX6_grows_169 : decode cX6_grows 169 = .ok (.if_icmp .ne 19, 3) := by decide +kernel
theorem dX6_grows_172 : decode cX6_grows 172 = .ok (.aload_n 0, 1) := by decide +kernel
theorem dX6_grows_173 : decode cX6_grows 173 = .ok (.aload_n 0, 1) := by decide +kernel
theorem dX6_grows_174 : decode cX6_grows 174 = .ok (.invokevirtual 143, 3) := by decide +kernel
theorem dX6_grows_177 : decode cX6_grows 177 = .ok (.iload 5, 2) := by decide +kernel
theorem dX6_grows_179 : decode cX6_grows 179 = .ok (.iconst (-1), 1) := by decide +kernel
theorem dX6_grows_180 : decode cX6_grows 180 = .ok (.ixor, 1) := by decide +kernel
theorem dX6_grows_181 : decode cX6_grows 181 = .ok (.iand, 1) := by decide +kernel
theorem dX6_grows_182 : decode cX6_grows 182 = .ok (.invokevirtual 231, 3) := by decide +kernel
theorem dX6_grows_185 : decode cX6_grows 185 = .ok (.goto 49, 3) := by decide +kernel
theorem dX6_grows_188 : decode cX6_grows 188 = .ok (.iload 4, 2) := by decide +kernel
theorem dX6_grows_190 : decode cX6_grows 190 = .ok (.bipush 38, 2) := by decide +kernel
theorem dX6_grows_192 : decode cX6_grows 192 = .ok (.if_icmp .ne 11, 3) := by decide +kernel
theorem dX6_grows_195 : decode cX6_grows 195 = .ok (.iload 5, 2) := by decide +kernel
theorem dX6_grows_197 : decode cX6_grows 197 = .ok (.iload 6, 2) := by decide +kernel
theorem dX6_grows_199 : decode cX6_grows 199 = .ok (.iand, 1) := by decide +kernel
theorem dX6_grows_200 : decode cX6_grows 200 = .ok (.goto 34, 3) := by decide +kernel
theorem dX6_grows_203 : decode cX6_grows 203 = .ok (.iload 4, 2) := by decide +kernel
theorem dX6_grows_205 : decode cX6_grows 205 = .ok (.bipush 124, 2) := by decide +kernel
theorem dX6_grows_207 : decode cX6_grows 207 = .ok (.if_icmp .ne 11, 3) := by decide +kernel
theorem dX6_grows_210 : decode cX6_grows 210 = .ok (.iload 5, 2) := by decide +kernel
theorem dX6_grows_212 : decode cX6_grows 212 = .ok (.iload 6, 2) := by decide +kernel
theorem dX6_grows_214 : decode cX6_grows 214 = .ok (.ior, 1) := by decide +kernel
theorem dX6_grows_215 : decode cX6_grows 215 = .ok (.goto 19, 3) := by decide +kernel
theorem dX6_grows_218 : decode cX6_grows 218 = .ok (.aload_n 0, 1) := by decide +kernel
theorem dX6_grows_219 : decode cX6_grows 219 = .ok (.aload_n 0, 1) := by decide +kernel
theorem dX6_grows_220 : decode cX6_grows 220 = .ok (.invokevirtual 143, 3) := by decide +kernel
theorem dX6_grows_223 : decode cX6_grows 223 = .ok (.iload 5, 2) := by decide +kernel
theorem dX6_grows_225 : decode cX6_grows 225 = .ok (.iconst (-1), 1) := by decide +kernel
theorem dX6_grows_226 : decode cX6_grows 226 = .ok (.ixor, 1) := by decide +kernel
theorem dX6_grows_227 : decode cX6_grows 227 = .ok (.iand, 1) := by decide +kernel
theorem dX6_grows_228 : decode cX6_grows 228 = .ok (.iload 6, 2) := by decide +kernel
theorem dX6_grows_230 : decode cX6_grows 230 = .ok (.ior, 1) := by decide +kernel
theorem dX6_grows_231 : decode cX6_grows 231 = .ok (.invokevirtual 231, 3) := by decide +kernel
theorem dX6_grows_234 : decode cX6_grows 234 = .ok (.istore_n 2, 1) := by decide +kernel
theorem dX6_grows_235 : decode cX6_grows 235 = .ok (.aload_n 0, 1) := by decide +kernel
theorem dX6_grows_236 : decode cX6_grows 236 = .ok (.getfield 98, 3) := by decide +kernel
theorem dX6_grows_239 : decode cX6_grows 239 = .ok (.iload_n 3, 1) := by decide +kernel
theorem dX6_grows_240 : decode cX6_grows 240 = .ok (.iload_n 2, 1) := by decide +kernel
theorem dX6_grows_241 : decode cX6_grows 241 = .ok (.iastore, 1) := by decide +kernel
theorem dX6_grows_242 : decode cX6_grows 242 = .ok (.iinc 3 1, 3) := by decide +kernel
theorem dX6_grows_245 : decode cX6_grows 245 = .ok (.goto (-200), 3) := by decide +kernel
theorem dX6_grows_248 : decode cX6_grows 248 = .ok (.iload_n 2, 1) := by decide +kernel
theorem dX6_grows_249 : decode cX6_grows 249 = .ok (.ireturn, 1) := by decide +kernel
theorem dX6_isFit_0 : decode cX6_isFit 0 = .ok (.aload_n 0, 1) := by decide +kernel
theorem dX6_isFit_1 : decode cX6_isFit 1 = .ok (.iload_n 1, 1) := by decide +kernel
theorem dX6_isFit_2 : decode cX6_isFit 2 = .ok (.invokevirtual 249, 3) := by decide +kernel
theorem dX6_isFit_5 : decode cX6_isFit 5 = .ok (.iconst 1, 1) := by decide +kernel
theorem dX6_isFit_6 : decode cX6_isFit 6 = .ok (.istore_n 2, 1) := by decide +kernel
theorem dX6_isFit_7 : decode cX6_isFit 7 = .ok (.iconst 0, 1) := by decide +kernel
theorem dX6_isFit_8 : decode cX6_isFit 8 = .ok (.istore_n 3, 1) := by decide +kernel
theorem dX6_isFit_9 : decode cX6_isFit 9 = .ok (.iload_n 3, 1) := by decide +kernel
theorem dX6_isFit_10 : decode cX6_isFit 10 = .ok (.aload_n 0, 1) := by decide +kernel
theorem dX6_isFit_11 : decode cX6_isFit 11 = .ok (.getfield 240, 3) := by decide +kernel
theorem dX6_isFit_14 : decode cX6_isFit 14 = .ok (.if_icmp .ge 129, 3) := by decide +kernel
theorem dX6_isFit_17 : decode cX6_isFit 17 = .ok (.aload_n 0, 1) := by decide +kernel
theorem dX6_isFit_18 : decode cX6_isFit 18 = .ok (.getfield 95, 3) := by decide +kernel
theorem dX6_isFit_21 : decode cX6_isFit 21 = .ok (.iload_n 3, 1) := by decide +kernel
theorem dX6_isFit_22 : decode cX6_isFit 22 = .ok (.iaload, 1) := by decide +kernel
theorem dX6_isFit_23 : decode cX6_isFit 23 = .ok (.istore 4, 2) := by decide +kernel
theorem dX6_isFit_25 : decode cX6_isFit 25 = .ok (.iload_n 1, 1) := by decide +kernel
theorem dX6_isFit_26 : decode cX6_isFit 26 = .ok (.iload_n 3, 1) := by decide +kernel
theorem dX6_isFit_27 : decode cX6_isFit 27 = .ok (.ishr, 1) := by decide +kernel
theorem dX6_isFit_28 : decode cX6_isFit 28 = .ok (.iconst 1, 1) := by decide +kernel
theorem dX6_isFit_29 : decode cX6_isFit 29 = .ok (.iand, 1) := by decide +kernel
theorem dX6_isFit_30 : decode cX6_isFit 30 = .ok (.iconst 1, 1) := by decide +kernel
theorem dX6_isFit_31 : decode cX6_isFit 31 = .ok (.if_icmp .ne 7, 3) := by decide +kernel
theorem dX6_isFit_34 : decode cX6_isFit 34 = .ok (.iconst 1, 1) := by decide +kernel
theorem dX6_isFit_35 : decode cX6_isFit 35 = .ok (.goto 4, 3) := by decide +kernel
theorem dX6_isFit_38 : decode cX6_isFit 38 = .ok (.iconst 0, 1) := by decide +kernel
theorem dX6_isFit_39 : decode cX6_isFit 39 = .ok (.istore 5, 2) := by decide +kernel
theorem dX6_isFit_41 : decode cX6_isFit 41 = .ok (.iload_n 2, 1) := by decide +kernel
theorem dX6_isFit_42 : decode cX6_isFit 42 = .ok (.iload 5, 2) := by decide +kernel
theorem dX6_isFit_44 : decode cX6_isFit 44 = .ok (.ifCond .eq 30, 3) := by decide +kernel
theorem dX6_isFit_47 : decode cX6_isFit 47 = .ok (.aload_n 0, 1) := by decide +kernel
theorem dX6_isFit_48 : decode cX6_isFit 48 = .ok (.getfield 77, 3) := by decide +kernel
theorem dX6_isFit_51 : decode cX6_isFit 51 = .ok (.iload 4, 2) := by decide +kernel
theorem dX6_isFit_53 : decode cX6_isFit 53 = .ok (.iaload, 1) := by decide +kernel
theorem dX6_isFit_54 : decode cX6_isFit 54 = .ok (.bipush 33, 2) := by decide +kernel
theorem dX6_isFit_56 : decode cX6_isFit 56 = .ok (.if_icmp .ne 18, 3) := by decide +kernel
theorem dX6_isFit_59 : decode cX6_isFit 59 = .ok (.aload_n 0, 1) := by decide +kernel
theorem dX6_isFit_60 : decode cX6_isFit 60 = .ok (.getfield 98, 3) := by decide +kernel
theorem dX6_isFit_63 : decode cX6_isFit 63 = .ok (.aload_n 0, 1) := by decide +kernel
theorem dX6_isFit_64 : decode cX6_isFit 64 = .ok (.getfield 80, 3) := by decide +kernel
theorem dX6_isFit_67 : decode cX6_isFit 67 = .ok (.iload 4, 2) := by decide +kernel
theorem dX6_isFit_69 : decode cX6_isFit 69 = .ok (.iaload, 1) := by decide +kernel
theorem dX6_isFit_70 : decode cX6_isFit 70 = .ok (.iaload, 1) := by decide +kernel
theorem dX6_isFit_71 : decode cX6_isFit 71 = .ok (.ifCond .ne 7, 3) := by decide +kernel
theorem dX6_isFit_74 : decode cX6_isFit 74 = .ok (.iconst 1, 1) := by decide +kernel
theorem dX6_isFit_75 : decode cX6_isFit 75 = .ok (.goto 4, 3) := by decide +kernel
theorem dX6_isFit_78 : decode cX6_isFit 78 = .ok (.iconst 0, 1) := by decide +kernel
theorem dX6_isFit_79 : decode cX6_isFit 79 = .ok (.iand, 1) := by decide +kernel
theorem dX6_isFit_80 : decode cX6_isFit 80 = .ok (.istore_n 2, 1) := by decide +kernel
theorem dX6_isFit_81 : decode cX6_isFit 81 = .ok (.iload_n 2, 1) := by decide +kernel
theorem dX6_isFit_82 : decode cX6_isFit 82 = .ok (.iload 5, 2) := by decide +kernel
theorem dX6_isFit_84 : decode cX6_isFit 84 = .ok (.ifCond .eq 46, 3) := by decide +kernel
theorem dX6_isFit_87 : decode cX6_isFit 87 = .ok (.aload_n 0, 1) := by decide +kernel
theorem dX6_isFit_88 : decode cX6_isFit 88 = .ok (.getfield 77, 3) := by decide +kernel
theorem dX6_isFit_91 : decode cX6_isFit 91 = .ok (.iload 4, 2) := by decide +kernel
theorem dX6_isFit_93 : decode cX6_isFit 93 = .ok (.iaload, 1) := by decide +kernel
theorem dX6_isFit_94 : decode cX6_isFit 94 = .ok (.bipush 62, 2) := by decide +kernel
theorem dX6_isFit_96 : decode cX6_isFit 96 = .ok (.if_icmp .ne 34, 3) := by decide +kernel
theorem dX6_isFit_99 : decode cX6_isFit 99 = .ok (.aload_n 0, 1) := by decide +kernel
theorem dX6_isFit_100 : decode cX6_isFit 100 = .ok (.getfield 98, 3) := by decide +kernel
theorem dX6_isFit_103 : decode cX6_isFit 103 = .ok (.aload_n 0, 1) := by decide +kernel
theorem dX6_isFit_104 : decode cX6_isFit 104 = .ok (.getfield 80, 3) := by decide +kernel
theorem dX6_isFit_107 : decode cX6_isFit 107 = .ok (.iload 4, 2) := by decide +kernel
theorem dX6_isFit_109 : decode cX6_isFit 109 = .ok (.iaload, 1) := by decide +kernel
theorem dX6_isFit_110 : decode cX6_isFit 110 = .ok (.iaload, 1) := by decide +kernel
theorem dX6_isFit_111 : decode cX6_isFit 111 = .ok (.ifCond .eq 19, 3) := by decide +kernel
theorem dX6_isFit_114 : decode cX6_isFit 114 = .ok (.aload_n 0, 1) := by decide +kernel
theorem dX6_isFit_115 : decode cX6_isFit 115 = .ok (.getfield 98, 3) := by decide +kernel
theorem dX6_isFit_118 : decode cX6_isFit 118 = .ok (.aload_n 0, 1) := by decide +kernel
theorem dX6_isFit_119 : decode cX6_isFit 119 = .ok (.getfield 83, 3) := by decide +kernel
theorem dX6_isFit_122 : decode cX6_isFit 122 = .ok (.iload 4, 2) := by decide +kernel
theorem dX6_isFit_124 : decode cX6_isFit 124 = .ok (.iaload, 1) := by decide +kernel
theorem dX6_isFit_125 : decode cX6_isFit 125 = .ok (.iaload, 1) := by decide +kernel
theorem dX6_isFit_126 : decode cX6_isFit 126 = .ok (.iconst 1, 1) := by decide +kernel
theorem dX6_isFit_127 : decode cX6_isFit 127 = .ok (.if_icmp .ne 7, 3) := by decide +kernel
theorem dX6_isFit_130 : decode cX6_isFit 130 = .ok (.iconst 1, 1) := by decide +kernel
theorem dX6_isFit_131 : decode cX6_isFit 131 = .ok (.goto 4, 3) := by decide +kernel
theorem dX6_isFit_134 : decode cX6_isFit 134 = .ok (.iconst 0, 1) := by decide +kernel
theorem dX6_isFit_135 : decode cX6_isFit 135 = .ok (.iand, 1) := by decide +kernel
theorem dX6_isFit_136 : decode cX6_isFit 136 = .ok (.istore_n 2, 1) := by decide +kernel
theorem dX6_isFit_137 : decode cX6_isFit 137 = .ok (.iinc 3 1, 3) := by decide +kernel
theorem dX6_isFit_140 : decode cX6_isFit 140 = .ok (.goto (-131), 3) := by decide +kernel
theorem dX6_isFit_143 : decode cX6_isFit 143 = .ok (.iload_n 2, 1) := by decide +kernel
theorem dX6_isFit_144 : decode cX6_isFit 144 = .ok (.ireturn, 1) := by decide +kernel
theorem dX6_breaks_0 : decode cX6_breaks 0 = .ok (.aload_n 0, 1) := by decide +kernel
theorem dX6_breaks_1 : decode cX6_breaks 1 = .ok (.iload_n 1, 1) := by decide +kernel
theorem dX6_breaks_2 : decode cX6_breaks 2 = .ok (.invokevirtual 249, 3) := by decide +kernel
theorem dX6_breaks_5 : decode cX6_breaks 5 = .ok (.iconst 0, 1) := by decide +kernel
theorem dX6_breaks_6 : decode cX6_breaks 6 = .ok (.istore_n 2, 1) := by decide +kernel
theorem dX6_breaks_7 : decode cX6_breaks 7 = .ok (.iconst 0, 1) := by decide +kernel
theorem dX6_breaks_8 : decode cX6_breaks 8 = .ok (.istore_n 3, 1) := by decide +kernel
theorem dX6_breaks_9 : decode cX6_breaks 9 = .ok (.iload_n 3, 1) := by decide +kernel
theorem dX6_breaks_10 : decode cX6_breaks 10 = .ok (.aload_n 0, 1) := by decide +kernel
theorem dX6_breaks_11 : decode cX6_breaks 11 = .ok (.getfield 240, 3) := by decide +kernel
theorem dX6_breaks_14 : decode cX6_breaks 14 = .ok (.if_icmp .ge 95, 3) := by decide +kernel
theorem dX6_breaks_17 : decode cX6_breaks 17 = .ok (.aload_n 0, 1) := by decide +kernel
theorem dX6_breaks_18 : decode cX6_breaks 18 = .ok (.getfield 95, 3) := by decide +kernel
theorem dX6_breaks_21 : decode cX6_breaks 21 = .ok (.iload_n 3, 1) := by decide +kernel
theorem dX6_breaks_22 : decode cX6_breaks 22 = .ok (.iaload, 1) := by decide +kernel
theorem dX6_breaks_23 : decode cX6_breaks 23 = .ok (.istore 4, 2) := by decide +kernel
theorem dX6_breaks_25 : decode cX6_breaks 25 = .ok (.aload_n 0, 1) := by decide +kernel
theorem dX6_breaks_26 : decode cX6_breaks 26 = .ok (.getfield 77, 3) := by decide +kernel
theorem dX6_breaks_29 : decode cX6_breaks 29 = .ok (.iload 4, 2) := by decide +kernel
theorem dX6_breaks_31 : decode cX6_breaks 31 = .ok (.iaload, 1) := by decide +kernel
theorem dX6_breaks_32 : decode cX6_breaks 32 = .ok (.invokestatic 185, 3) := by decide +kernel
theorem dX6_breaks_35 : decode cX6_breaks 35 = .ok (.ifCond .ne 50, 3) := by decide +kernel
theorem dX6_breaks_38 : decode cX6_breaks 38 = .ok (.aload_n 0, 1) := by decide +kernel
theorem dX6_breaks_39 : decode cX6_breaks 39 = .ok (.getfield 98, 3) := by decide +kernel
theorem dX6_breaks_42 : decode cX6_breaks 42 = .ok (.aload_n 0, 1) := by decide +kernel
theorem dX6_breaks_43 : decode cX6_breaks 43 = .ok (.getfield 80, 3) := by decide +kernel
theorem dX6_breaks_46 : decode cX6_breaks 46 = .ok (.iload 4, 2) := by decide +kernel
theorem dX6_breaks_48 : decode cX6_breaks 48 = .ok (.iaload, 1) := by decide +kernel
theorem dX6_breaks_49 : decode cX6_breaks 49 = .ok (.iaload, 1) := by decide +kernel
theorem dX6_breaks_50 : decode cX6_breaks 50 = .ok (.iconst 1, 1) := by decide +kernel
theorem dX6_breaks_51 : decode cX6_breaks 51 = .ok (.if_icmp .ne 34, 3) := by decide +kernel
theorem dX6_breaks_54 : decode cX6_breaks 54 = .ok (.aload_n 0, 1) := by decide +kernel
theorem dX6_breaks_55 : decode cX6_breaks 55 = .ok (.getfield 77, 3) := by decide +kernel
theorem dX6_breaks_58 : decode cX6_breaks 58 = .ok (.iload 4, 2) := by decide +kernel
theorem dX6_breaks_60 : decode cX6_breaks 60 = .ok (.iaload, 1) := by decide +kernel
theorem dX6_breaks_61 : decode cX6_breaks 61 = .ok (.bipush 33, 2) := by decide +kernel
theorem dX6_breaks_63 : decode cX6_breaks 63 = .ok (.if_icmp .eq 18, 3) := by decide +kernel
theorem dX6_breaks_66 : decode cX6_breaks 66 = .ok (.aload_n 0, 1) := by decide +kernel
theorem dX6_breaks_67 : decode cX6_breaks 67 = .ok (.getfield 98, 3) := by decide +kernel
theorem dX6_breaks_70 : decode cX6_breaks 70 = .ok (.aload_n 0, 1) := by decide +kernel
theorem dX6_breaks_71 : decode cX6_breaks 71 = .ok (.getfield 83, 3) := by decide +kernel
theorem dX6_breaks_74 : decode cX6_breaks 74 = .ok (.iload 4, 2) := by decide +kernel
theorem dX6_breaks_76 : decode cX6_breaks 76 = .ok (.iaload, 1) := by decide +kernel
theorem dX6_breaks_77 : decode cX6_breaks 77 = .ok (.iaload, 1) := by decide +kernel
theorem dX6_breaks_78 : decode cX6_breaks 78 = .ok (.ifCond .ne 7, 3) := by decide +kernel
theorem dX6_breaks_81 : decode cX6_breaks 81 = .ok (.iconst 1, 1) := by decide +kernel
theorem dX6_breaks_82 : decode cX6_breaks 82 = .ok (.goto 4, 3) := by decide +kernel
theorem dX6_breaks_85 : decode cX6_breaks 85 = .ok (.iconst 0, 1) := by decide +kernel
theorem dX6_breaks_86 : decode cX6_breaks 86 = .ok (.istore 5, 2) := by decide +kernel
theorem dX6_breaks_88 : decode cX6_breaks 88 = .ok (.iload_n 2, 1) := by decide +kernel
theorem dX6_breaks_89 : decode cX6_breaks 89 = .ok (.iload 5, 2) := by decide +kernel
theorem dX6_breaks_91 : decode cX6_breaks 91 = .ok (.ifCond .eq 9, 3) := by decide +kernel
theorem dX6_breaks_94 : decode cX6_breaks 94 = .ok (.iconst 1, 1) := by decide +kernel
theorem dX6_breaks_95 : decode cX6_breaks 95 = .ok (.iload_n 3, 1) := by decide +kernel
theorem dX6_breaks_96 : decode cX6_breaks 96 = .ok (.ishl, 1) := by decide +kernel
theorem dX6_breaks_97 : decode cX6_breaks 97 = .ok (.goto 4, 3) := by decide +kernel
theorem dX6_breaks_100 : decode cX6_breaks 100 = .ok (.iconst 0, 1) := by decide +kernel
theorem dX6_breaks_101 : decode cX6_breaks 101 = .ok (.ior, 1) := by decide +kernel
theorem dX6_breaks_102 : decode cX6_breaks 102 = .ok (.istore_n 2, 1) := by decide +kernel
theorem dX6_breaks_103 : decode cX6_breaks 103 = .ok (.iinc 3 1, 3) := by decide +kernel
theorem dX6_breaks_106 : decode cX6_breaks 106 = .ok (.goto (-97), 3) := by decide +kernel
theorem dX6_breaks_109 : decode cX6_breaks 109 = .ok (.iload_n 2, 1) := by decide +kernel
theorem dX6_breaks_110 : decode cX6_breaks 110 = .ok (.ireturn, 1) := by decide +kernel
theorem dX6_isShown_0 : decode cX6_isShown 0 = .ok (.iconst 0, 1) := by decide +kernel
theorem dX6_isShown_1 : decode cX6_isShown 1 = .ok (.istore_n 1, 1) := by decide +kernel
theorem dX6_isShown_2 : decode cX6_isShown 2 = .ok (.iconst 0, 1) := by decide +kernel
theorem dX6_isShown_3 : decode cX6_isShown 3 = .ok (.istore_n 2, 1) := by decide +kernel
theorem dX6_isShown_4 : decode cX6_isShown 4 = .ok (.iload_n 2, 1) := by decide +kernel
theorem dX6_isShown_5 : decode cX6_isShown 5 = .ok (.aload_n 0, 1) := by decide +kernel
theorem dX6_isShown_6 : decode cX6_isShown 6 = .ok (.getfield 240, 3) := by decide +kernel
theorem dX6_isShown_9 : decode cX6_isShown 9 = .ok (.if_icmp .ge 36, 3) := by decide +kernel
theorem dX6_isShown_12 : decode cX6_isShown 12 = .ok (.iload_n 1, 1) := by decide +kernel
theorem dX6_isShown_13 : decode cX6_isShown 13 = .ok (.aload_n 0, 1) := by decide +kernel
theorem dX6_isShown_14 : decode cX6_isShown 14 = .ok (.getfield 77, 3) := by decide +kernel
theorem dX6_isShown_17 : decode cX6_isShown 17 = .ok (.aload_n 0, 1) := by decide +kernel
theorem dX6_isShown_18 : decode cX6_isShown 18 = .ok (.getfield 95, 3) := by decide +kernel
theorem dX6_isShown_21 : decode cX6_isShown 21 = .ok (.iload_n 2, 1) := by decide +kernel
theorem dX6_isShown_22 : decode cX6_isShown 22 = .ok (.iaload, 1) := by decide +kernel
theorem dX6_isShown_23 : decode cX6_isShown 23 = .ok (.iaload, 1) := by decide +kernel
theorem dX6_isShown_24 : decode cX6_isShown 24 = .ok (.invokestatic 185, 3) := by decide +kernel
theorem dX6_isShown_27 : decode cX6_isShown 27 = .ok (.ifCond .eq 7, 3) := by decide +kernel
theorem dX6_isShown_30 : decode cX6_isShown 30 = .ok (.iconst 0, 1) := by decide +kernel
theorem dX6_isShown_31 : decode cX6_isShown 31 = .ok (.goto 6, 3) := by decide +kernel
theorem dX6_isShown_34 : decode cX6_isShown 34 = .ok (.iconst 1, 1) := by decide +kernel
theorem dX6_isShown_35 : decode cX6_isShown 35 = .ok (.iload_n 2, 1) := by decide +kernel
theorem dX6_isShown_36 : decode cX6_isShown 36 = .ok (.ishl, 1) := by decide +kernel
theorem dX6_isShown_37 : decode cX6_isShown 37 = .ok (.ior, 1) := by decide +kernel
theorem dX6_isShown_38 : decode cX6_isShown 38 = .ok (.istore_n 1, 1) := by decide +kernel
theorem dX6_isShown_39 : decode cX6_isShown 39 = .ok (.iinc 2 1, 3) := by decide +kernel
theorem dX6_isShown_42 : decode cX6_isShown 42 = .ok (.goto (-38), 3) := by decide +kernel
theorem dX6_isShown_45 : decode cX6_isShown 45 = .ok (.iconst 0, 1) := by decide +kernel
theorem dX6_isShown_46 : decode cX6_isShown 46 = .ok (.istore_n 2, 1) := by decide +kernel
theorem dX6_isShown_47 : decode cX6_isShown 47 = .ok (.iload_n 2, 1) := by decide +kernel
theorem dX6_isShown_48 : decode cX6_isShown 48 = .ok (.iconst 1, 1) := by decide +kernel
theorem dX6_isShown_49 : decode cX6_isShown 49 = .ok (.aload_n 0, 1) := by decide +kernel
theorem dX6_isShown_50 : decode cX6_isShown 50 = .ok (.getfield 240, 3) := by decide +kernel
theorem dX6_isShown_53 : decode cX6_isShown 53 = .ok (.ishl, 1) := by decide +kernel
theorem dX6_isShown_54 : decode cX6_isShown 54 = .ok (.if_icmp .ge 40, 3) := by decide +kernel
theorem dX6_isShown_57 : decode cX6_isShown 57 = .ok (.aload_n 0, 1) := by decide +kernel
theorem dX6_isShown_58 : decode cX6_isShown 58 = .ok (.getfield 111, 3) := by decide +kernel
theorem dX6_isShown_61 : decode cX6_isShown 61 = .ok (.iload_n 2, 1) := by decide +kernel
theorem dX6_isShown_62 : decode cX6_isShown 62 = .ok (.aload_n 0, 1) := by decide +kernel
theorem dX6_isShown_63 : decode cX6_isShown 63 = .ok (.iload_n 2, 1) := by decide +kernel
theorem dX6_isShown_64 : decode cX6_isShown 64 = .ok (.invokevirtual 296, 3) := by decide +kernel
theorem dX6_isShown_67 : decode cX6_isShown 67 = .ok (.ifCond .eq 8, 3) := by decide +kernel
theorem dX6_isShown_70 : decode cX6_isShown 70 = .ok (.bipush (-9), 2) := by decide +kernel
theorem dX6_isShown_72 : decode cX6_isShown 72 = .ok (.goto 4, 3) := by decide +kernel
theorem dX6_isShown_75 : decode cX6_isShown 75 = .ok (.iconst 0, 1) := by decide +kernel
theorem dX6_isShown_76 : decode cX6_isShown 76 = .ok (.iastore, 1) := by decide +kernel
theorem dX6_isShown_77 : decode cX6_isShown 77 = .ok (.aload_n 0, 1) := by decide +kernel
theorem dX6_isShown_78 : decode cX6_isShown 78 = .ok (.getfield 104, 3) := by decide +kernel
theorem dX6_isShown_81 : decode cX6_isShown 81 = .ok (.iload_n 2, 1) := by decide +kernel
theorem dX6_isShown_82 : decode cX6_isShown 82 = .ok (.aload_n 0, 1) := by decide +kernel
theorem dX6_isShown_83 : decode cX6_isShown 83 = .ok (.iload_n 2, 1) := by decide +kernel
theorem dX6_isShown_84 : decode cX6_isShown 84 = .ok (.invokevirtual 299, 3) := by decide +kernel
theorem dX6_isShown_87 : decode cX6_isShown 87 = .ok (.iastore, 1) := by decide +kernel
theorem dX6_isShown_88 : decode cX6_isShown 88 = .ok (.iinc 2 1, 3) := by decide +kernel
theorem dX6_isShown_91 : decode cX6_isShown 91 = .ok (.goto (-44), 3) := by decide +kernel
theorem dX6_isShown_94 : decode cX6_isShown 94 = .ok (.iconst 1, 1) := by decide +kernel
theorem dX6_isShown_95 : decode cX6_isShown 95 = .ok (.istore_n 2, 1) := by decide +kernel
theorem dX6_isShown_96 : decode cX6_isShown 96 = .ok (.iload_n 2, 1) := by decide +kernel
theorem dX6_isShown_97 : decode cX6_isShown 97 = .ok (.ifCond .eq 124, 3) := by decide +kernel
theorem dX6_isShown_100 : decode cX6_isShown 100 = .ok (.iconst 0, 1) := by decide +kernel
theorem dX6_isShown_101 : decode cX6_isShown 101 = .ok (.istore_n 2, 1) := by decide +kernel
theorem dX6_isShown_102 : decode cX6_isShown 102 = .ok (.iconst 0, 1) := by decide +kernel
theorem dX6_isShown_103 : decode cX6_isShown 103 = .ok (.istore_n 3, 1) := by decide +kernel
theorem dX6_isShown_104 : decode cX6_isShown 104 = .ok (.iload_n 3, 1) := by decide +kernel
theorem dX6_isShown_105 : decode cX6_isShown 105 = .ok (.iconst 1, 1) := by decide +kernel
theorem dX6_isShown_106 : decode cX6_isShown 106 = .ok (.aload_n 0, 1) := by decide +kernel
theorem dX6_isShown_107 : decode cX6_isShown 107 = .ok (.getfield 240, 3) := by decide +kernel
theorem dX6_isShown_110 : decode cX6_isShown 110 = .ok (.ishl, 1) := by decide +kernel
theorem dX6_isShown_111 : decode cX6_isShown 111 = .ok (.if_icmp .ge 107, 3) := by decide +kernel
theorem dX6_isShown_114 : decode cX6_isShown 114 = .ok (.iload_n 1, 1) := by decide +kernel
theorem dX6_isShown_115 : decode cX6_isShown 115 = .ok (.iload_n 3, 1) := by decide +kernel
theorem dX6_isShown_116 : decode cX6_isShown 116 = .ok (.iconst (-1), 1) := by decide +kernel
theorem dX6_isShown_117 : decode cX6_isShown 117 = .ok (.ixor, 1) := by decide +kernel
theorem dX6_isShown_118 : decode cX6_isShown 118 = .ok (.iand, 1) := by decide +kernel
theorem dX6_isShown_119 : decode cX6_isShown 119 = .ok (.istore 4, 2) := by decide +kernel
theorem dX6_isShown_121 : decode cX6_isShown 121 = .ok (.iload_n 3, 1) := by decide +kernel
theorem dX6_isShown_122 : decode cX6_isShown 122 = .ok (.istore 5, 2) := by decide +kernel
theorem dX6_isShown_124 : decode cX6_isShown 124 = .ok (.iload 5, 2) := by decide +kernel
theorem dX6_isShown_126 : decode cX6_isShown 126 = .ok (.iconst 1, 1) := by decide +kernel
theorem dX6_isShown_127 : decode cX6_isShown 127 = .ok (.aload_n 0, 1) := by decide +kernel
theorem dX6_isShown_128 : decode cX6_isShown 128 = .ok (.getfield 240, 3) := by decide +kernel
theorem dX6_isShown_131 : decode cX6_isShown 131 = .ok (.ishl, 1) := by decide +kernel
theorem dX6_isShown_132 : decode cX6_isShown 132 = .ok (.if_icmp .ge 58, 3) := by decide +kernel
theorem dX6_isShown_135 : decode cX6_isShown 135 = .ok (.iload 4, 2) := by decide +kernel
theorem dX6_isShown_137 : decode cX6_isShown 137 = .ok (.ifCond .eq 53, 3) := by decide +kernel
theorem dX6_isShown_140 : decode cX6_isShown 140 = .ok (.aload_n 0, 1) := by decide +kernel
theorem dX6_isShown_141 : decode cX6_isShown 141 = .ok (.iload_n 3, 1) := by decide +kernel
theorem dX6_isShown_142 : decode cX6_isShown 142 = .ok (.invokevirtual 256, 3) := by decide +kernel
theorem dX6_isShown_145 : decode cX6_isShown 145 = .ok (.ifCond .eq 45, 3) := by decide +kernel
theorem dX6_isShown_148 : decode cX6_isShown 148 = .ok (.iload 4, 2) := by decide +kernel
theorem dX6_isShown_150 : decode cX6_isShown 150 = .ok (.aload_n 0, 1) := by decide +kernel
theorem dX6_isShown_151 : decode cX6_isShown 151 = .ok (.iload 5, 2) := by decide +kernel
theorem dX6_isShown_153 : decode cX6_isShown 153 = .ok (.invokevirtual 256, 3) := by decide +kernel
theorem dX6_isShown_156 : decode cX6_isShown 156 = .ok (.ifCond .eq 24, 3) := by decide +kernel
theorem dX6_isShown_159 : decode cX6_isShown 159 = .ok (.iload_n 3, 1) := by decide +kernel
theorem dX6_isShown_160 : decode cX6_isShown 160 = .ok (.iload 5, 2) := by decide +kernel
theorem dX6_isShown_162 : decode cX6_isShown 162 = .ok (.iconst (-1), 1) := by decide +kernel
theorem dX6_isShown_163 : decode cX6_isShown 163 = .ok (.ixor, 1) := by decide +kernel
theorem dX6_isShown_164 : decode cX6_isShown 164 = .ok (.iand, 1) := by decide +kernel
theorem dX6_isShown_165 : decode cX6_isShown 165 = .ok (.ifCond .ne 15, 3) := by decide +kernel
theorem dX6_isShown_168 : decode cX6_isShown 168 = .ok (.aload_n 0, 1) := by decide +kernel
theorem dX6_isShown_169 : decode cX6_isShown 169 = .ok (.getfield 104, 3) := by decide +kernel
theorem dX6_isShown_172 : decode cX6_isShown 172 = .ok (.iload 5, 2) := by decide +kernel
theorem dX6_isShown_174 : decode cX6_isShown 174 = .ok (.iaload, 1) := by decide +kernel
theorem dX6_isShown_175 : decode cX6_isShown 175 = .ok (.iconst (-1), 1) := by decide +kernel
theorem dX6_isShown_176 : decode cX6_isShown 176 = .ok (.ixor, 1) := by decide +kernel
theorem dX6_isShown_177 : decode cX6_isShown 177 = .ok (.goto 4, 3) := by decide +kernel
theorem dX6_isShown_180 : decode cX6_isShown 180 = .ok (.iconst (-1), 1) := by decide +kernel
theorem dX6_isShown_181 : decode cX6_isShown 181 = .ok (.iand, 1) := by decide +kernel
theorem dX6_isShown_182 : decode cX6_isShown 182 = .ok (.istore 4, 2) := by decide +kernel
theorem dX6_isShown_184 : decode cX6_isShown 184 = .ok (.iinc 5 1, 3) := by decide +kernel
theorem dX6_isShown_187 : decode cX6_isShown 187 = .ok (.goto (-63), 3) := by decide +kernel
theorem dX6_isShown_190 : decode cX6_isShown 190 = .ok (.aload_n 0, 1) := by decide +kernel
theorem dX6_isShown_191 : decode cX6_isShown 191 = .ok (.iload_n 3, 1) := by decide +kernel
theorem dX6_isShown_192 : decode cX6_isShown 192 = .ok (.invokevirtual 256, 3) := by decide +kernel
theorem dX6_isShown_195 : decode cX6_isShown 195 = .ok (.ifCond .eq 17, 3) := by decide +kernel
theorem dX6_isShown_198 : decode cX6_isShown 198 = .ok (.iload 4, 2) := by decide +kernel
theorem dX6_isShown_200 : decode cX6_isShown 200 = .ok (.ifCond .eq 12, 3) := by decide +kernel
theorem dX6_isShown_203 : decode cX6_isShown 203 = .ok (.aload_n 0, 1) := by decide +kernel
theorem dX6_isShown_204 : decode cX6_isShown 204 = .ok (.getfield 111, 3) := by decide +kernel
theorem dX6_isShown_207 : decode cX6_isShown 207 = .ok (.iload_n 3, 1) := by decide +kernel
theorem dX6_isShown_208 : decode cX6_isShown 208 = .ok (.iconst 1, 1) := by decide +kernel
theorem dX6_isShown_209 : decode cX6_isShown 209 = .ok (.iastore, 1) := by decide +kernel
theorem dX6_isShown_210 : decode cX6_isShown 210 = .ok (.iconst 1, 1) := by decide +kernel
theorem dX6_isShown_211 : decode cX6_isShown 211 = .ok (.istore_n 2, 1) := by decide +kernel
theorem dX6_isShown_212 : decode cX6_isShown 212 = .ok (.iinc 3 1, 3) := by decide +kernel
theorem dX6_isShown_215 : decode cX6_isShown 215 = .ok (.goto (-111), 3) := by decide +kernel
theorem dX6_isShown_218 : decode cX6_isShown 218 = .ok (.goto (-122), 3) := by decide +kernel
theorem dX6_isShown_221 : decode cX6_isShown 221 = .ok (.aload_n 0, 1) := by decide +kernel
theorem dX6_isShown_222 : decode cX6_isShown 222 = .ok (.invokevirtual 278, 3) := by decide +kernel
theorem dX6_isShown_225 : decode cX6_isShown 225 = .ok (.ireturn, 1) := by decide +kernel
theorem dX6_isTrue_0 : decode cX6_isTrue 0 = .ok (.iconst 1, 1) := by decide +kernel
theorem dX6_isTrue_1 : decode cX6_isTrue 1 = .ok (.istore_n 1, 1) := by decide +kernel
theorem dX6_isTrue_2 : decode cX6_isTrue 2 = .ok (.iconst 0, 1) := by decide +kernel
theorem dX6_isTrue_3 : decode cX6_isTrue 3 = .ok (.istore_n 2, 1) := by decide +kernel
theorem dX6_isTrue_4 : decode cX6_isTrue 4 = .ok (.iload_n 2, 1) := by decide +kernel
theorem dX6_isTrue_5 : decode cX6_isTrue 5 = .ok (.bipush 16, 2) := by decide +kernel
theorem dX6_isTrue_7 : decode cX6_isTrue 7 = .ok (.if_icmp .ge 213, 3) := by decide +kernel
theorem dX6_isTrue_10 : decode cX6_isTrue 10 = .ok (.iconst 0, 1) := by decide +kernel
theorem dX6_isTrue_11 : decode cX6_isTrue 11 = .ok (.istore_n 3, 1) := by decide +kernel
theorem dX6_isTrue_12 : decode cX6_isTrue 12 = .ok (.iconst 0, 1) := by decide +kernel
theorem dX6_isTrue_13 : decode cX6_isTrue 13 = .ok (.istore 4, 2) := by decide +kernel
theorem dX6_isTrue_15 : decode cX6_isTrue 15 = .ok (.iload 4, 2) := by decide +kernel
theorem dX6_isTrue_17 : decode cX6_isTrue 17 = .ok (.aload_n 0, 1) := by decide +kernel
theorem dX6_isTrue_18 : decode cX6_isTrue 18 = .ok (.getfield 202, 3) := by decide +kernel
theorem dX6_isTrue_21 : decode cX6_isTrue 21 = .ok (.if_icmp .ge 180, 3) := by decide +kernel
theorem dX6_isTrue_24 : decode cX6_isTrue 24 = .ok (.aload_n 0, 1) := by decide +kernel
theorem dX6_isTrue_25 : decode cX6_isTrue 25 = .ok (.getfield 77, 3) := by decide +kernel
theorem dX6_isTrue_28 : decode cX6_isTrue 28 = .ok (.iload 4, 2) := by decide +kernel
theorem dX6_isTrue_30 : decode cX6_isTrue 30 = .ok (.iaload, 1) := by decide +kernel
theorem dX6_isTrue_31 : decode cX6_isTrue 31 = .ok (.istore 5, 2) := by decide +kernel
theorem dX6_isTrue_33 : decode cX6_isTrue 33 = .ok (.iload 5, 2) := by decide +kernel
theorem dX6_isTrue_35 : decode cX6_isTrue 35 = .ok (.invokestatic 182, 3) := by decide +kernel
theorem dX6_isTrue_38 : decode cX6_isTrue 38 = .ok (.ifCond .ne 11, 3) := by decide +kernel
theorem dX6_isTrue_41 : decode cX6_isTrue 41 = .ok (.iload 5, 2) := by decide +kernel
theorem dX6_isTrue_43 : decode cX6_isTrue 43 = .ok (.invokestatic 192, 3) := by decide +kernel
theorem dX6_isTrue_46 : decode cX6_isTrue 46 = .ok (.ifCond .eq 18, 3) := by decide +kernel
theorem dX6_isTrue_49 : decode cX6_isTrue 49 = .ok (.aload_n 0, 1) := by decide +kernel
theorem dX6_isTrue_50 : decode cX6_isTrue 50 = .ok (.getfield 98, 3) := by decide +kernel
theorem dX6_isTrue_53 : decode cX6_isTrue 53 = .ok (.aload_n 0, 1) := by decide +kernel
theorem dX6_isTrue_54 : decode cX6_isTrue 54 = .ok (.getfield 80, 3) := by decide +kernel
theorem dX6_isTrue_57 : decode cX6_isTrue 57 = .ok (.iload 4, 2) := by decide +kernel
theorem dX6_isTrue_59 : decode cX6_isTrue 59 = .ok (.iaload, 1) := by decide +kernel
theorem dX6_isTrue_60 : decode cX6_isTrue 60 = .ok (.iaload, 1) := by decide +kernel
theorem dX6_isTrue_61 : decode cX6_isTrue 61 = .ok (.goto 4, 3) := by decide +kernel
theorem dX6_isTrue_64 : decode cX6_isTrue 64 = .ok (.iconst 0, 1) := by decide +kernel
theorem dX6_isTrue_65 : decode cX6_isTrue 65 = .ok (.istore 6, 2) := by decide +kernel
theorem dX6_isTrue_67 : decode cX6_isTrue 67 = .ok (.iload 5, 2) := by decide +kernel
theorem dX6_isTrue_69 : decode cX6_isTrue 69 = .ok (.invokestatic 192, 3) := by decide +kernel
theorem dX6_isTrue_72 : decode cX6_isTrue 72 = .ok (.ifCond .eq 18, 3) := by decide +kernel
theorem dX6_isTrue_75 : decode cX6_isTrue 75 = .ok (.aload_n 0, 1) := by decide +kernel
theorem dX6_isTrue_76 : decode cX6_isTrue 76 = .ok (.getfield 98, 3) := by decide +kernel
theorem dX6_isTrue_79 : decode cX6_isTrue 79 = .ok (.aload_n 0, 1) := by decide +kernel
theorem dX6_isTrue_80 : decode cX6_isTrue 80 = .ok (.getfield 83, 3) := by decide +kernel
theorem dX6_isTrue_83 : decode cX6_isTrue 83 = .ok (.iload 4, 2) := by decide +kernel
theorem dX6_isTrue_85 : decode cX6_isTrue 85 = .ok (.iaload, 1) := by decide +kernel
theorem dX6_isTrue_86 : decode cX6_isTrue 86 = .ok (.iaload, 1) := by decide +kernel
theorem dX6_isTrue_87 : decode cX6_isTrue 87 = .ok (.goto 4, 3) := by decide +kernel
theorem dX6_isTrue_90 : decode cX6_isTrue 90 = .ok (.iconst 0, 1) := by decide +kernel
theorem dX6_isTrue_91 : decode cX6_isTrue 91 = .ok (.istore 7, 2) := by decide +kernel
theorem dX6_isTrue_93 : decode cX6_isTrue 93 = .ok (.iload 5, 2) := by decide +kernel
theorem dX6_isTrue_95 : decode cX6_isTrue 95 = .ok (.invokestatic 185, 3) := by decide +kernel
theorem dX6_isTrue_98 : decode cX6_isTrue 98 = .ok (.ifCond .eq 15, 3) := by decide +kernel
theorem dX6_isTrue_101 : decode cX6_isTrue 101 = .ok (.iload_n 2, 1) := by decide +kernel
theorem dX6_isTrue_102 : decode cX6_isTrue 102 = .ok (.iload 5, 2) := by decide +kernel
theorem dX6_isTrue_104 : decode cX6_isTrue 104 = .ok (.bipush 112, 2) := by decide +kernel
theorem dX6_isTrue_106 : decode cX6_isTrue 106 = .ok (.isub, 1) := by decide +kernel
theorem dX6_isTrue_107 : decode cX6_isTrue 107 = .ok (.ishr, 1) := by decide +kernel
theorem dX6_isTrue_108 : decode cX6_isTrue 108 = .ok (.iconst 1, 1) := by decide +kernel
theorem dX6_isTrue_109 : decode cX6_isTrue 109 = .ok (.iand, 1) := by decide +kernel
theorem dX6_isTrue_110 : decode cX6_isTrue 110 = .ok (.goto 76, 3) := by decide +kernel
theorem dX6_isTrue_113 : decode cX6_isTrue 113 = .ok (.iload 5, 2) := by decide +kernel
theorem dX6_isTrue_115 : decode cX6_isTrue 115 = .ok (.bipush 84, 2) := by decide +kernel
theorem dX6_isTrue_117 : decode cX6_isTrue 117 = .ok (.if_icmp .ne 7, 3) := by decide +kernel
theorem dX6_isTrue_120 : decode cX6_isTrue 120 = .ok (.iconst 1, 1) := by decide +kernel
theorem dX6_isTrue_121 : decode cX6_isTrue 121 = .ok (.goto 65, 3) := by decide +kernel
theorem dX6_isTrue_124 : decode cX6_isTrue 124 = .ok (.iload 5, 2) := by decide +kernel
theorem dX6_isTrue_126 : decode cX6_isTrue 126 = .ok (.bipush 70, 2) := by decide +kernel
theorem dX6_isTrue_128 : decode cX6_isTrue 128 = .ok (.if_icmp .ne 7, 3) := by decide +kernel
theorem dX6_isTrue_131 : decode cX6_isTrue 131 = .ok (.iconst 0, 1) := by decide +kernel
theorem dX6_isTrue_132 : decode cX6_isTrue 132 = .ok (.goto 54, 3) := by decide +kernel
theorem dX6_isTrue_135 : decode cX6_isTrue 135 = .ok (.iload 5, 2) := by decide +kernel
theorem dX6_isTrue_137 : decode cX6_isTrue 137 = .ok (.bipush 33, 2) := by decide +kernel
theorem dX6_isTrue_139 : decode cX6_isTrue 139 = .ok (.if_icmp .ne 10, 3) := by decide +kernel
theorem dX6_isTrue_142 : decode cX6_isTrue 142 = .ok (.iconst 1, 1) := by decide +kernel
theorem dX6_isTrue_143 : decode cX6_isTrue 143 = .ok (.iload 6, 2) := by decide +kernel
theorem dX6_isTrue_145 : decode cX6_isTrue 145 = .ok (.isub, 1) := by decide +kernel
theorem dX6_isTrue_146 : decode cX6_isTrue 146 = .ok (.goto 40, 3) := by decide +kernel
theorem dX6_isTrue_149 : decode cX6_isTrue 149 = .ok (.iload 5, 2) := by decide +kernel
theorem dX6_isTrue_151 : decode cX6_isTrue 151 = .ok (.bipush 38, 2) := by decide +kernel
theorem dX6_isTrue_153 : decode cX6_isTrue 153 = .ok (.if_icmp .ne 11, 3) := by decide +kernel
theorem dX6_isTrue_156 : decode cX6_isTrue 156 = .ok (.iload 6, 2) := by decide +kernel
theorem dX6_isTrue_158 : decode cX6_isTrue 158 = .ok (.iload 7, 2) := by decide +kernel
theorem dX6_isTrue_160 : decode cX6_isTrue 160 = .ok (.iand, 1) := by decide +kernel
theorem dX6_isTrue_161 : decode cX6_isTrue 161 = .ok (.goto 25, 3) := by decide +kernel
theorem dX6_isTrue_164 : decode cX6_isTrue 164 = .ok (.iload 5, 2) := by decide +kernel
theorem dX6_isTrue_166 : decode cX6_isTrue 166 = .ok (.bipush 124, 2) := by decide +kernel
theorem dX6_isTrue_168 : decode cX6_isTrue 168 = .ok (.if_icmp .ne 11, 3) := by decide +kernel
theorem dX6_isTrue_171 : decode cX6_isTrue 171 = .ok (.iload 6, 2) := by decide +kernel
theorem dX6_isTrue_173 : decode cX6_isTrue 173 = .ok (.iload 7, 2) := by decide +kernel
theorem dX6_isTrue_175 : decode cX6_isTrue 175 = .ok (.ior, 1) := by decide +kernel
theorem dX6_isTrue_176 : decode cX6_isTrue 176 = .ok (.goto 10, 3) := by decide +kernel
theorem dX6_isTrue_179 : decode cX6_isTrue 179 = .ok (.iconst 1, 1) := by decide +kernel
theorem dX6_isTrue_180 : decode cX6_isTrue 180 = .ok (.iload 6, 2) := by decide +kernel
theorem dX6_isTrue_182 : decode cX6_isTrue 182 = .ok (.isub, 1) := by decide +kernel
theorem dX6_isTrue_183 : decode cX6_isTrue 183 = .ok (.iload 7, 2) := by decide +kernel
theorem dX6_isTrue_185 : decode cX6_isTrue 185 = .ok (.ior, 1) := by decide +kernel
theorem dX6_isTrue_186 : decode cX6_isTrue 186 = .ok (.istore_n 3, 1) := by decide +kernel
theorem dX6_isTrue_187 : decode cX6_isTrue 187 = .ok (.aload_n 0, 1) := by decide +kernel
theorem dX6_isTrue_188 : decode cX6_isTrue 188 = .ok (.getfield 98, 3) := by decide +kernel
theorem dX6_isTrue_191 : decode cX6_isTrue 191 = .ok (.iload 4, 2) := by decide +kernel
theorem dX6_isTrue_193 : decode cX6_isTrue 193 = .ok (.iload_n 3, 1) := by decide +kernel
theorem dX6_isTrue_194 : decode cX6_isTrue 194 = .ok (.iastore, 1) := by decide +kernel
theorem dX6_isTrue_195 : decode cX6_isTrue 195 = .ok (.iinc 4 1, 3) := by decide +kernel
theorem dX6_isTrue_198 : decode cX6_isTrue 198 = .ok (.goto (-183), 3) := by decide +kernel
theorem dX6_isTrue_201 : decode cX6_isTrue 201 = .ok (.iload_n 1, 1) := by decide +kernel
theorem dX6_isTrue_202 : decode cX6_isTrue 202 = .ok (.iload_n 3, 1) := by decide +kernel
theorem dX6_isTrue_203 : decode cX6_isTrue 203 = .ok (.iconst 1, 1) := by decide +kernel
theorem dX6_isTrue_204 : decode cX6_isTrue 204 = .ok (.if_icmp .ne 7, 3) := by decide +kernel
theorem dX6_isTrue_207 : decode cX6_isTrue 207 = .ok (.iconst 1, 1) := by decide +kernel
theorem dX6_isTrue_208 : decode cX6_isTrue 208 = .ok (.goto 4, 3) := by decide +kernel
theorem dX6_isTrue_211 : decode cX6_isTrue 211 = .ok (.iconst 0, 1) := by decide +kernel
theorem dX6_isTrue_212 : decode cX6_isTrue 212 = .ok (.iand, 1) := by decide +kernel
theorem dX6_isTrue_213 : decode cX6_isTrue 213 = .ok (.istore_n 1, 1) := by decide +kernel
theorem dX6_isTrue_214 : decode cX6_isTrue 214 = .ok (.iinc 2 1, 3) := by decide +kernel
theorem dX6_isTrue_217 : decode cX6_isTrue 217 = .ok (.goto (-213), 3) := by decide +kernel
theorem dX6_isTrue_220 : decode cX6_isTrue 220 = .ok (.iload_n 1, 1) := by decide +kernel
theorem dX6_isTrue_221 : decode cX6_isTrue 221 = .ok (.ireturn, 1) := by decide +kernel
theorem dX6_shown_0 : decode cX6_shown 0 = .ok (.aload_n 0, 1) := by decide +kernel
theorem dX6_shown_1 : decode cX6_shown 1 = .ok (.iconst 0, 1) := by decide +kernel
theorem dX6_shown_2 : decode cX6_shown 2 = .ok (.putfield 132, 3) := by decide +kernel
theorem dX6_shown_5 : decode cX6_shown 5 = .ok (.iload_n 1, 1) := by decide +kernel
theorem dX6_shown_6 : decode cX6_shown 6 = .ok (.invokestatic 195, 3) := by decide +kernel
theorem dX6_shown_9 : decode cX6_shown 9 = .ok (.ifCond .eq 12, 3) := by decide +kernel
theorem dX6_shown_12 : decode cX6_shown 12 = .ok (.iload_n 2, 1) := by decide +kernel
theorem dX6_shown_13 : decode cX6_shown 13 = .ok (.iconst 0, 1) := by decide +kernel
theorem dX6_shown_14 : decode cX6_shown 14 = .ok (.iconst 1, 1) := by decide +kernel
theorem dX6_shown_15 : decode cX6_shown 15 = .ok (.invokestatic 135, 3) := by decide +kernel
theorem dX6_shown_18 : decode cX6_shown 18 = .ok (.ifCond .ne 5, 3) := by decide +kernel
theorem dX6_shown_21 : decode cX6_shown 21 = .ok (.iconst (-1), 1) := by decide +kernel
theorem dX6_shown_22 : decode cX6_shown 22 = .ok (.ireturn, 1) := by decide +kernel
theorem dX6_shown_23 : decode cX6_shown 23 = .ok (.aload_n 0, 1) := by decide +kernel
theorem dX6_shown_24 : decode cX6_shown 24 = .ok (.iload_n 1, 1) := by decide +kernel
theorem dX6_shown_25 : decode cX6_shown 25 = .ok (.invokevirtual 215, 3) := by decide +kernel
theorem dX6_shown_28 : decode cX6_shown 28 = .ok (.aload_n 0, 1) := by decide +kernel
theorem dX6_shown_29 : decode cX6_shown 29 = .ok (.invokevirtual 221, 3) := by decide +kernel
theorem dX6_shown_32 : decode cX6_shown 32 = .ok (.ifCond .eq 15, 3) := by decide +kernel
theorem dX6_shown_35 : decode cX6_shown 35 = .ok (.iload_n 2, 1) := by decide +kernel
theorem dX6_shown_36 : decode cX6_shown 36 = .ok (.ifCond .ne 14, 3) := by decide +kernel
theorem dX6_shown_39 : decode cX6_shown 39 = .ok (.aload_n 0, 1) := by decide +kernel
theorem dX6_shown_40 : decode cX6_shown 40 = .ok (.iconst 1, 1) := by decide +kernel
theorem dX6_shown_41 : decode cX6_shown 41 = .ok (.invokevirtual 268, 3) := by decide +kernel
theorem dX6_shown_44 : decode cX6_shown 44 = .ok (.ifCond .ne 6, 3) := by decide +kernel
theorem dX6_shown_47 : decode cX6_shown 47 = .ok (.bipush (-2), 2) := by decide +kernel
theorem dX6_shown_49 : decode cX6_shown 49 = .ok (.ireturn, 1) := by decide +kernel
theorem dX6_shown_50 : decode cX6_shown 50 = .ok (.iload_n 2, 1) := by decide +kernel
theorem dX6_shown_51 : decode cX6_shown 51 = .ok (.ifCond .ne 18, 3) := by decide +kernel
theorem dX6_shown_54 : decode cX6_shown 54 = .ok (.aload_n 0, 1) := by decide +kernel
theorem dX6_shown_55 : decode cX6_shown 55 = .ok (.invokevirtual 302, 3) := by decide +kernel
theorem dX6_shown_58 : decode cX6_shown 58 = .ok (.ifCond .eq 7, 3) := by decide +kernel
theorem dX6_shown_61 : decode cX6_shown 61 = .ok (.iconst 1, 1) := by decide +kernel
theorem dX6_shown_62 : decode cX6_shown 62 = .ok (.goto 19, 3) := by decide +kernel
theorem dX6_shown_65 : decode cX6_shown 65 = .ok (.iconst 0, 1) := by decide +kernel
theorem dX6_shown_66 : decode cX6_shown 66 = .ok (.goto 15, 3) := by decide +kernel
theorem dX6_shown_69 : decode cX6_shown 69 = .ok (.aload_n 0, 1) := by decide +kernel
theorem dX6_shown_70 : decode cX6_shown 70 = .ok (.invokevirtual 305, 3) := by decide +kernel
theorem dX6_shown_73 : decode cX6_shown 73 = .ok (.ifCond .eq 7, 3) := by decide +kernel
theorem dX6_shown_76 : decode cX6_shown 76 = .ok (.iconst 1, 1) := by decide +kernel
theorem dX6_shown_77 : decode cX6_shown 77 = .ok (.goto 4, 3) := by decide +kernel
theorem dX6_shown_80 : decode cX6_shown 80 = .ok (.iconst 0, 1) := by decide +kernel
theorem dX6_shown_81 : decode cX6_shown 81 = .ok (.ireturn, 1) := by decide +kernel
theorem dX6_held_0 : decode cX6_held 0 = .ok (.aload_n 0, 1) := by decide +kernel
theorem dX6_held_1 : decode cX6_held 1 = .ok (.iload_n 1, 1) := by decide +kernel
theorem dX6_held_2 : decode cX6_held 2 = .ok (.invokevirtual 215, 3) := by decide +kernel
theorem dX6_held_5 : decode cX6_held 5 = .ok (.aload_n 0, 1) := by decide +kernel
theorem dX6_held_6 : decode cX6_held 6 = .ok (.iconst 0, 1) := by decide +kernel
theorem dX6_held_7 : decode cX6_held 7 = .ok (.invokevirtual 234, 3) := by decide +kernel
theorem dX6_held_10 : decode cX6_held 10 = .ok (.aload_n 0, 1) := by decide +kernel
theorem dX6_held_11 : decode cX6_held 11 = .ok (.invokevirtual 237, 3) := by decide +kernel
theorem dX6_held_14 : decode cX6_held 14 = .ok (.ireturn, 1) := by decide +kernel
theorem dX6_tell_0 : decode cX6_tell 0 = .ok (.aload_n 0, 1) := by decide +kernel
theorem dX6_tell_1 : decode cX6_tell 1 = .ok (.iconst 0, 1) := by decide +kernel
theorem dX6_tell_2 : decode cX6_tell 2 = .ok (.putfield 132, 3) := by decide +kernel
theorem dX6_tell_5 : decode cX6_tell 5 = .ok (.iload_n 1, 1) := by decide +kernel
theorem dX6_tell_6 : decode cX6_tell 6 = .ok (.invokestatic 195, 3) := by decide +kernel
theorem dX6_tell_9 : decode cX6_tell 9 = .ok (.ifCond .ne 5, 3) := by decide +kernel
theorem dX6_tell_12 : decode cX6_tell 12 = .ok (.iconst (-1), 1) := by decide +kernel
theorem dX6_tell_13 : decode cX6_tell 13 = .ok (.ireturn, 1) := by decide +kernel
theorem dX6_tell_14 : decode cX6_tell 14 = .ok (.aload_n 0, 1) := by decide +kernel
theorem dX6_tell_15 : decode cX6_tell 15 = .ok (.iload_n 1, 1) := by decide +kernel
theorem dX6_tell_16 : decode cX6_tell 16 = .ok (.invokevirtual 308, 3) := by decide +kernel
theorem dX6_tell_19 : decode cX6_tell 19 = .ok (.istore_n 2, 1) := by decide +kernel
theorem dX6_tell_20 : decode cX6_tell 20 = .ok (.iload_n 2, 1) := by decide +kernel
theorem dX6_tell_21 : decode cX6_tell 21 = .ok (.ifCond .ne 6, 3) := by decide +kernel
theorem dX6_tell_24 : decode cX6_tell 24 = .ok (.bipush (-2), 2) := by decide +kernel
theorem dX6_tell_26 : decode cX6_tell 26 = .ok (.ireturn, 1) := by decide +kernel
theorem dX6_tell_27 : decode cX6_tell 27 = .ok (.iconst 0, 1) := by decide +kernel
theorem dX6_tell_28 : decode cX6_tell 28 = .ok (.istore_n 3, 1) := by decide +kernel
theorem dX6_tell_29 : decode cX6_tell 29 = .ok (.iconst 0, 1) := by decide +kernel
theorem dX6_tell_30 : decode cX6_tell 30 = .ok (.istore 4, 2) := by decide +kernel
theorem dX6_tell_32 : decode cX6_tell 32 = .ok (.iload 4, 2) := by decide +kernel
theorem dX6_tell_34 : decode cX6_tell 34 = .ok (.aload_n 0, 1) := by decide +kernel
theorem dX6_tell_35 : decode cX6_tell 35 = .ok (.getfield 7, 3) := by decide +kernel
theorem dX6_tell_38 : decode cX6_tell 38 = .ok (.if_icmp .ge 39, 3) := by decide +kernel
theorem dX6_tell_41 : decode cX6_tell 41 = .ok (.iload_n 2, 1) := by decide +kernel
theorem dX6_tell_42 : decode cX6_tell 42 = .ok (.iload 4, 2) := by decide +kernel
theorem dX6_tell_44 : decode cX6_tell 44 = .ok (.ishr, 1) := by decide +kernel
theorem dX6_tell_45 : decode cX6_tell 45 = .ok (.iconst 1, 1) := by decide +kernel
theorem dX6_tell_46 : decode cX6_tell 46 = .ok (.iand, 1) := by decide +kernel
theorem dX6_tell_47 : decode cX6_tell 47 = .ok (.iconst 1, 1) := by decide +kernel
theorem dX6_tell_48 : decode cX6_tell 48 = .ok (.if_icmp .ne 23, 3) := by decide +kernel
theorem dX6_tell_51 : decode cX6_tell 51 = .ok (.aload_n 0, 1) := by decide +kernel
theorem dX6_tell_52 : decode cX6_tell 52 = .ok (.getfield 13, 3) := by decide +kernel
theorem dX6_tell_55 : decode cX6_tell 55 = .ok (.iload_n 3, 1) := by decide +kernel
theorem dX6_tell_56 : decode cX6_tell 56 = .ok (.aload_n 0, 1) := by decide +kernel
theorem dX6_tell_57 : decode cX6_tell 57 = .ok (.getfield 13, 3) := by decide +kernel
theorem dX6_tell_60 : decode cX6_tell 60 = .ok (.iload 4, 2) := by decide +kernel
theorem dX6_tell_62 : decode cX6_tell 62 = .ok (.iaload, 1) := by decide +kernel
theorem dX6_tell_63 : decode cX6_tell 63 = .ok (.iload_n 2, 1) := by decide +kernel
theorem dX6_tell_64 : decode cX6_tell 64 = .ok (.invokestatic 311, 3) := by decide +kernel
theorem dX6_tell_67 : decode cX6_tell 67 = .ok (.iastore, 1) := by decide +kernel
theorem dX6_tell_68 : decode cX6_tell 68 = .ok (.iinc 3 1, 3) := by decide +kernel
theorem dX6_tell_71 : decode cX6_tell 71 = .ok (.iinc 4 1, 3) := by decide +kernel
theorem dX6_tell_74 : decode cX6_tell 74 = .ok (.goto (-42), 3) := by decide +kernel
theorem dX6_tell_77 : decode cX6_tell 77 = .ok (.iconst 0, 1) := by decide +kernel
theorem dX6_tell_78 : decode cX6_tell 78 = .ok (.istore 4, 2) := by decide +kernel
theorem dX6_tell_80 : decode cX6_tell 80 = .ok (.iload 4, 2) := by decide +kernel
theorem dX6_tell_82 : decode cX6_tell 82 = .ok (.iconst 4, 1) := by decide +kernel
theorem dX6_tell_83 : decode cX6_tell 83 = .ok (.if_icmp .ge 27, 3) := by decide +kernel
theorem dX6_tell_86 : decode cX6_tell 86 = .ok (.aload_n 0, 1) := by decide +kernel
theorem dX6_tell_87 : decode cX6_tell 87 = .ok (.getfield 17, 3) := by decide +kernel
theorem dX6_tell_90 : decode cX6_tell 90 = .ok (.iload 4, 2) := by decide +kernel
theorem dX6_tell_92 : decode cX6_tell 92 = .ok (.aload_n 0, 1) := by decide +kernel
theorem dX6_tell_93 : decode cX6_tell 93 = .ok (.getfield 17, 3) := by decide +kernel
theorem dX6_tell_96 : decode cX6_tell 96 = .ok (.iload 4, 2) := by decide +kernel
theorem dX6_tell_98 : decode cX6_tell 98 = .ok (.iaload, 1) := by decide +kernel
theorem dX6_tell_99 : decode cX6_tell 99 = .ok (.iload_n 2, 1) := by decide +kernel
theorem dX6_tell_100 : decode cX6_tell 100 = .ok (.invokestatic 311, 3) := by decide +kernel
theorem dX6_tell_103 : decode cX6_tell 103 = .ok (.iastore, 1) := by decide +kernel
theorem dX6_tell_104 : decode cX6_tell 104 = .ok (.iinc 4 1, 3) := by decide +kernel
theorem dX6_tell_107 : decode cX6_tell 107 = .ok (.goto (-27), 3) := by decide +kernel
theorem dX6_tell_110 : decode cX6_tell 110 = .ok (.iload_n 3, 1) := by decide +kernel
theorem dX6_tell_111 : decode cX6_tell 111 = .ok (.istore 4, 2) := by decide +kernel
theorem dX6_tell_113 : decode cX6_tell 113 = .ok (.iload 4, 2) := by decide +kernel
theorem dX6_tell_115 : decode cX6_tell 115 = .ok (.bipush 8, 2) := by decide +kernel
theorem dX6_tell_117 : decode cX6_tell 117 = .ok (.if_icmp .ge 17, 3) := by decide +kernel
theorem dX6_tell_120 : decode cX6_tell 120 = .ok (.aload_n 0, 1) := by decide +kernel
theorem dX6_tell_121 : decode cX6_tell 121 = .ok (.getfield 13, 3) := by decide +kernel
theorem dX6_tell_124 : decode cX6_tell 124 = .ok (.iload 4, 2) := by decide +kernel
theorem dX6_tell_126 : decode cX6_tell 126 = .ok (.iconst 0, 1) := by decide +kernel
theorem dX6_tell_127 : decode cX6_tell 127 = .ok (.iastore, 1) := by decide +kernel
theorem dX6_tell_128 : decode cX6_tell 128 = .ok (.iinc 4 1, 3) := by decide +kernel
theorem dX6_tell_131 : decode cX6_tell 131 = .ok (.goto (-18), 3) := by decide +kernel
theorem dX6_tell_134 : decode cX6_tell 134 = .ok (.aload_n 0, 1) := by decide +kernel
theorem dX6_tell_135 : decode cX6_tell 135 = .ok (.iload_n 3, 1) := by decide +kernel
theorem dX6_tell_136 : decode cX6_tell 136 = .ok (.putfield 7, 3) := by decide +kernel
theorem dX6_tell_139 : decode cX6_tell 139 = .ok (.aload_n 0, 1) := by decide +kernel
theorem dX6_tell_140 : decode cX6_tell 140 = .ok (.getfield 7, 3) := by decide +kernel
theorem dX6_tell_143 : decode cX6_tell 143 = .ok (.ireturn, 1) := by decide +kernel
theorem dX6_packed_0 : decode cX6_packed 0 = .ok (.iconst 0, 1) := by decide +kernel
theorem dX6_packed_1 : decode cX6_packed 1 = .ok (.istore_n 2, 1) := by decide +kernel
theorem dX6_packed_2 : decode cX6_packed 2 = .ok (.iconst 0, 1) := by decide +kernel
theorem dX6_packed_3 : decode cX6_packed 3 = .ok (.istore_n 3, 1) := by decide +kernel
theorem dX6_packed_4 : decode cX6_packed 4 = .ok (.iconst 0, 1) := by decide +kernel
theorem dX6_packed_5 : decode cX6_packed 5 = .ok (.istore 4, 2) := by decide +kernel
theorem dX6_packed_7 : decode cX6_packed 7 = .ok (.iload 4, 2) := by decide +kernel
theorem dX6_packed_9 : decode cX6_packed 9 = .ok (.bipush 8, 2) := by decide +kernel
theorem dX6_packed_11 : decode cX6_packed 11 = .ok (.if_icmp .ge 33, 3) := by decide +kernel
theorem dX6_packed_14 : decode cX6_packed 14 = .ok (.iload_n 1, 1) := by decide +kernel
theorem dX6_packed_15 : decode cX6_packed 15 = .ok (.iload 4, 2) := by decide +kernel
theorem dX6_packed_17 : decode cX6_packed 17 = .ok (.ishr, 1) := by decide +kernel
theorem dX6_packed_18 : decode cX6_packed 18 = .ok (.iconst 1, 1) := by decide +kernel
theorem dX6_packed_19 : decode cX6_packed 19 = .ok (.iand, 1) := by decide +kernel
theorem dX6_packed_20 : decode cX6_packed 20 = .ok (.iconst 1, 1) := by decide +kernel
theorem dX6_packed_21 : decode cX6_packed 21 = .ok (.if_icmp .ne 17, 3) := by decide +kernel
theorem dX6_packed_24 : decode cX6_packed 24 = .ok (.iload_n 2, 1) := by decide +kernel
theorem dX6_packed_25 : decode cX6_packed 25 = .ok (.iload_n 0, 1) := by decide +kernel
theorem dX6_packed_26 : decode cX6_packed 26 = .ok (.iload 4, 2) := by decide +kernel
theorem dX6_packed_28 : decode cX6_packed 28 = .ok (.ishr, 1) := by decide +kernel
theorem dX6_packed_29 : decode cX6_packed 29 = .ok (.iconst 1, 1) := by decide +kernel
theorem dX6_packed_30 : decode cX6_packed 30 = .ok (.iand, 1) := by decide +kernel
theorem dX6_packed_31 : decode cX6_packed 31 = .ok (.iload_n 3, 1) := by decide +kernel
theorem dX6_packed_32 : decode cX6_packed 32 = .ok (.ishl, 1) := by decide +kernel
theorem dX6_packed_33 : decode cX6_packed 33 = .ok (.ior, 1) := by decide +kernel
theorem dX6_packed_34 : decode cX6_packed 34 = .ok (.istore_n 2, 1) := by decide +kernel
theorem dX6_packed_35 : decode cX6_packed 35 = .ok (.iinc 3 1, 3) := by decide +kernel
theorem dX6_packed_38 : decode cX6_packed 38 = .ok (.iinc 4 1, 3) := by decide +kernel
theorem dX6_packed_41 : decode cX6_packed 41 = .ok (.goto (-34), 3) := by decide +kernel
theorem dX6_packed_44 : decode cX6_packed 44 = .ok (.iload_n 2, 1) := by decide +kernel
theorem dX6_packed_45 : decode cX6_packed 45 = .ok (.ireturn, 1) := by decide +kernel
theorem dX6_known_0 : decode cX6_known 0 = .ok (.aload_n 0, 1) := by decide +kernel
theorem dX6_known_1 : decode cX6_known 1 = .ok (.iconst 0, 1) := by decide +kernel
theorem dX6_known_2 : decode cX6_known 2 = .ok (.putfield 132, 3) := by decide +kernel
theorem dX6_known_5 : decode cX6_known 5 = .ok (.iload_n 1, 1) := by decide +kernel
theorem dX6_known_6 : decode cX6_known 6 = .ok (.invokestatic 195, 3) := by decide +kernel
theorem dX6_known_9 : decode cX6_known 9 = .ok (.ifCond .ne 5, 3) := by decide +kernel
theorem dX6_known_12 : decode cX6_known 12 = .ok (.iconst (-1), 1) := by decide +kernel
theorem dX6_known_13 : decode cX6_known 13 = .ok (.ireturn, 1) := by decide +kernel
theorem dX6_known_14 : decode cX6_known 14 = .ok (.aload_n 0, 1) := by decide +kernel
theorem dX6_known_15 : decode cX6_known 15 = .ok (.iload_n 1, 1) := by decide +kernel
theorem dX6_known_16 : decode cX6_known 16 = .ok (.invokevirtual 308, 3) := by decide +kernel
theorem dX6_known_19 : decode cX6_known 19 = .ok (.istore_n 2, 1) := by decide +kernel
theorem dX6_known_20 : decode cX6_known 20 = .ok (.iconst 0, 1) := by decide +kernel
theorem dX6_known_21 : decode cX6_known 21 = .ok (.istore_n 3, 1) := by decide +kernel
theorem dX6_known_22 : decode cX6_known 22 = .ok (.iconst 0, 1) := by decide +kernel
theorem dX6_known_23 : decode cX6_known 23 = .ok (.istore 4, 2) := by decide +kernel
theorem dX6_known_25 : decode cX6_known 25 = .ok (.iload 4, 2) := by decide +kernel
theorem dX6_known_27 : decode cX6_known 27 = .ok (.aload_n 0, 1) := by decide +kernel
theorem dX6_known_28 : decode cX6_known 28 = .ok (.getfield 7, 3) := by decide +kernel
theorem dX6_known_31 : decode cX6_known 31 = .ok (.if_icmp .ge 81, 3) := by decide +kernel
theorem dX6_known_34 : decode cX6_known 34 = .ok (.iconst 0, 1) := by decide +kernel
theorem dX6_known_35 : decode cX6_known 35 = .ok (.istore 5, 2) := by decide +kernel
theorem dX6_known_37 : decode cX6_known 37 = .ok (.iconst 0, 1) := by decide +kernel
theorem dX6_known_38 : decode cX6_known 38 = .ok (.istore 6, 2) := by decide +kernel
theorem dX6_known_40 : decode cX6_known 40 = .ok (.iload 6, 2) := by decide +kernel
theorem dX6_known_42 : decode cX6_known 42 = .ok (.aload_n 0, 1) := by decide +kernel
theorem dX6_known_43 : decode cX6_known 43 = .ok (.getfield 7, 3) := by decide +kernel
theorem dX6_known_46 : decode cX6_known 46 = .ok (.if_icmp .ge 40, 3) := by decide +kernel
theorem dX6_known_49 : decode cX6_known 49 = .ok (.iload 5, 2) := by decide +kernel
theorem dX6_known_51 : decode cX6_known 51 = .ok (.aload_n 0, 1) := by decide +kernel
theorem dX6_known_52 : decode cX6_known 52 = .ok (.getfield 13, 3) := by decide +kernel
theorem dX6_known_55 : decode cX6_known 55 = .ok (.iload 4, 2) := by decide +kernel
theorem dX6_known_57 : decode cX6_known 57 = .ok (.iaload, 1) := by decide +kernel
theorem dX6_known_58 : decode cX6_known 58 = .ok (.iload 6, 2) := by decide +kernel
theorem dX6_known_60 : decode cX6_known 60 = .ok (.ishr, 1) := by decide +kernel
theorem dX6_known_61 : decode cX6_known 61 = .ok (.iconst 1, 1) := by decide +kernel
theorem dX6_known_62 : decode cX6_known 62 = .ok (.iand, 1) := by decide +kernel
theorem dX6_known_63 : decode cX6_known 63 = .ok (.iconst 1, 1) := by decide +kernel
theorem dX6_known_64 : decode cX6_known 64 = .ok (.if_icmp .ne 12, 3) := by decide +kernel
theorem dX6_known_67 : decode cX6_known 67 = .ok (.aload_n 0, 1) := by decide +kernel
theorem dX6_known_68 : decode cX6_known 68 = .ok (.iload 6, 2) := by decide +kernel
theorem dX6_known_70 : decode cX6_known 70 = .ok (.invokevirtual 147, 3) := by decide +kernel
theorem dX6_known_73 : decode cX6_known 73 = .ok (.goto 4, 3) := by decide +kernel
theorem dX6_known_76 : decode cX6_known 76 = .ok (.iconst 0, 1) := by decide +kernel
theorem dX6_known_77 : decode cX6_known 77 = .ok (.ior, 1) := by decide +kernel
theorem dX6_known_78 : decode cX6_known 78 = .ok (.istore 5, 2) := by decide +kernel
theorem dX6_known_80 : decode cX6_known 80 = .ok (.iinc 6 1, 3) := by decide +kernel
theorem dX6_known_83 : decode cX6_known 83 = .ok (.goto (-43), 3) := by decide +kernel
theorem dX6_known_86 : decode cX6_known 86 = .ok (.iload_n 3, 1) := by decide +kernel
theorem dX6_known_87 : decode cX6_known 87 = .ok (.iload 5, 2) := by decide +kernel
theorem dX6_known_89 : decode cX6_known 89 = .ok (.iload_n 2, 1) := by decide +kernel
theorem dX6_known_90 : decode cX6_known 90 = .ok (.iconst (-1), 1) := by decide +kernel
theorem dX6_known_91 : decode cX6_known 91 = .ok (.ixor, 1) := by decide +kernel
theorem dX6_known_92 : decode cX6_known 92 = .ok (.iand, 1) := by decide +kernel
theorem dX6_known_93 : decode cX6_known 93 = .ok (.ifCond .ne 10, 3) := by decide +kernel
theorem dX6_known_96 : decode cX6_known 96 = .ok (.iconst 1, 1) := by decide +kernel
theorem dX6_known_97 : decode cX6_known 97 = .ok (.iload 4, 2) := by decide +kernel
theorem dX6_known_99 : decode cX6_known 99 = .ok (.ishl, 1) := by decide +kernel
theorem dX6_known_100 : decode cX6_known 100 = .ok (.goto 4, 3) := by decide +kernel
theorem dX6_known_103 : decode cX6_known 103 = .ok (.iconst 0, 1) := by decide +kernel
theorem dX6_known_104 : decode cX6_known 104 = .ok (.ior, 1) := by decide +kernel
theorem dX6_known_105 : decode cX6_known 105 = .ok (.istore_n 3, 1) := by decide +kernel
theorem dX6_known_106 : decode cX6_known 106 = .ok (.iinc 4 1, 3) := by decide +kernel
theorem dX6_known_109 : decode cX6_known 109 = .ok (.goto (-84), 3) := by decide +kernel
theorem dX6_known_112 : decode cX6_known 112 = .ok (.iload_n 3, 1) := by decide +kernel
theorem dX6_known_113 : decode cX6_known 113 = .ok (.ireturn, 1) := by decide +kernel
theorem dX6_steps_0 : decode cX6_steps 0 = .ok (.aload_n 0, 1) := by decide +kernel
theorem dX6_steps_1 : decode cX6_steps 1 = .ok (.iconst 0, 1) := by decide +kernel
theorem dX6_steps_2 : decode cX6_steps 2 = .ok (.putfield 132, 3) := by decide +kernel
theorem dX6_steps_5 : decode cX6_steps 5 = .ok (.iload_n 1, 1) := by decide +kernel
theorem dX6_steps_6 : decode cX6_steps 6 = .ok (.invokestatic 195, 3) := by decide +kernel
theorem dX6_steps_9 : decode cX6_steps 9 = .ok (.ifCond .eq 11, 3) := by decide +kernel
theorem dX6_steps_12 : decode cX6_steps 12 = .ok (.aload_n 0, 1) := by decide +kernel
theorem dX6_steps_13 : decode cX6_steps 13 = .ok (.iload_n 2, 1) := by decide +kernel
theorem dX6_steps_14 : decode cX6_steps 14 = .ok (.invokevirtual 139, 3) := by decide +kernel
theorem dX6_steps_17 : decode cX6_steps 17 = .ok (.ifCond .ne 5, 3) := by decide +kernel
theorem dX6_steps_20 : decode cX6_steps 20 = .ok (.iconst (-1), 1) := by decide +kernel
theorem dX6_steps_21 : decode cX6_steps 21 = .ok (.ireturn, 1) := by decide +kernel
theorem dX6_steps_22 : decode cX6_steps 22 = .ok (.aload_n 0, 1) := by decide +kernel
theorem dX6_steps_23 : decode cX6_steps 23 = .ok (.iload_n 1, 1) := by decide +kernel
theorem dX6_steps_24 : decode cX6_steps 24 = .ok (.invokevirtual 308, 3) := by decide +kernel
theorem dX6_steps_27 : decode cX6_steps 27 = .ok (.istore_n 3, 1) := by decide +kernel
theorem dX6_steps_28 : decode cX6_steps 28 = .ok (.iconst 1, 1) := by decide +kernel
theorem dX6_steps_29 : decode cX6_steps 29 = .ok (.iload_n 2, 1) := by decide +kernel
theorem dX6_steps_30 : decode cX6_steps 30 = .ok (.ishl, 1) := by decide +kernel
theorem dX6_steps_31 : decode cX6_steps 31 = .ok (.istore 4, 2) := by decide +kernel
theorem dX6_steps_33 : decode cX6_steps 33 = .ok (.iconst 0, 1) := by decide +kernel
theorem dX6_steps_34 : decode cX6_steps 34 = .ok (.istore 5, 2) := by decide +kernel
theorem dX6_steps_36 : decode cX6_steps 36 = .ok (.iload 5, 2) := by decide +kernel
theorem dX6_steps_38 : decode cX6_steps 38 = .ok (.bipush 9, 2) := by decide +kernel
theorem dX6_steps_40 : decode cX6_steps 40 = .ok (.if_icmp .ge 74, 3) := by decide +kernel
theorem dX6_steps_43 : decode cX6_steps 43 = .ok (.iload 4, 2) := by decide +kernel
theorem dX6_steps_45 : decode cX6_steps 45 = .ok (.iload_n 3, 1) := by decide +kernel
theorem dX6_steps_46 : decode cX6_steps 46 = .ok (.iconst (-1), 1) := by decide +kernel
theorem dX6_steps_47 : decode cX6_steps 47 = .ok (.ixor, 1) := by decide +kernel
theorem dX6_steps_48 : decode cX6_steps 48 = .ok (.iand, 1) := by decide +kernel
theorem dX6_steps_49 : decode cX6_steps 49 = .ok (.ifCond .eq 6, 3) := by decide +kernel
theorem dX6_steps_52 : decode cX6_steps 52 = .ok (.iload 5, 2) := by decide +kernel
theorem dX6_steps_54 : decode cX6_steps 54 = .ok (.ireturn, 1) := by decide +kernel
theorem dX6_steps_55 : decode cX6_steps 55 = .ok (.iload 4, 2) := by decide +kernel
theorem dX6_steps_57 : decode cX6_steps 57 = .ok (.istore 6, 2) := by decide +kernel
theorem dX6_steps_59 : decode cX6_steps 59 = .ok (.iconst 0, 1) := by decide +kernel
theorem dX6_steps_60 : decode cX6_steps 60 = .ok (.istore 7, 2) := by decide +kernel
theorem dX6_steps_62 : decode cX6_steps 62 = .ok (.iload 7, 2) := by decide +kernel
theorem dX6_steps_64 : decode cX6_steps 64 = .ok (.aload_n 0, 1) := by decide +kernel
theorem dX6_steps_65 : decode cX6_steps 65 = .ok (.getfield 7, 3) := by decide +kernel
theorem dX6_steps_68 : decode cX6_steps 68 = .ok (.if_icmp .ge 36, 3) := by decide +kernel
theorem dX6_steps_71 : decode cX6_steps 71 = .ok (.iload 6, 2) := by decide +kernel
theorem dX6_steps_73 : decode cX6_steps 73 = .ok (.iload 4, 2) := by decide +kernel
theorem dX6_steps_75 : decode cX6_steps 75 = .ok (.iload 7, 2) := by decide +kernel
theorem dX6_steps_77 : decode cX6_steps 77 = .ok (.ishr, 1) := by decide +kernel
theorem dX6_steps_78 : decode cX6_steps 78 = .ok (.iconst 1, 1) := by decide +kernel
theorem dX6_steps_79 : decode cX6_steps 79 = .ok (.iand, 1) := by decide +kernel
theorem dX6_steps_80 : decode cX6_steps 80 = .ok (.iconst 1, 1) := by decide +kernel
theorem dX6_steps_81 : decode cX6_steps 81 = .ok (.if_icmp .ne 13, 3) := by decide +kernel
theorem dX6_steps_84 : decode cX6_steps 84 = .ok (.aload_n 0, 1) := by decide +kernel
theorem dX6_steps_85 : decode cX6_steps 85 = .ok (.getfield 13, 3) := by decide +kernel
theorem dX6_steps_88 : decode cX6_steps 88 = .ok (.iload 7, 2) := by decide +kernel
theorem dX6_steps_90 : decode cX6_steps 90 = .ok (.iaload, 1) := by decide +kernel
theorem dX6_steps_91 : decode cX6_steps 91 = .ok (.goto 4, 3) := by decide +kernel
theorem dX6_steps_94 : decode cX6_steps 94 = .ok (.iconst 0, 1) := by decide +kernel
theorem dX6_steps_95 : decode cX6_steps 95 = .ok (.ior, 1) := by decide +kernel
theorem dX6_steps_96 : decode cX6_steps 96 = .ok (.istore 6, 2) := by decide +kernel
theorem dX6_steps_98 : decode cX6_steps 98 = .ok (.iinc 7 1, 3) := by decide +kernel
theorem dX6_steps_101 : decode cX6_steps 101 = .ok (.goto (-39), 3) := by decide +kernel
theorem dX6_steps_104 : decode cX6_steps 104 = .ok (.iload 6, 2) := by decide +kernel
theorem dX6_steps_106 : decode cX6_steps 106 = .ok (.istore 4, 2) := by decide +kernel
theorem dX6_steps_108 : decode cX6_steps 108 = .ok (.iinc 5 1, 3) := by decide +kernel
theorem dX6_steps_111 : decode cX6_steps 111 = .ok (.goto (-75), 3) := by decide +kernel
theorem dX6_steps_114 : decode cX6_steps 114 = .ok (.bipush (-9), 2) := by decide +kernel
theorem dX6_steps_116 : decode cX6_steps 116 = .ok (.ireturn, 1) := by decide +kernel
theorem dX6_count_0 : decode cX6_count 0 = .ok (.aload_n 0, 1) := by decide +kernel
theorem dX6_count_1 : decode cX6_count 1 = .ok (.iconst 0, 1) := by decide +kernel
theorem dX6_count_2 : decode cX6_count 2 = .ok (.putfield 132, 3) := by decide +kernel
theorem dX6_count_5 : decode cX6_count 5 = .ok (.iconst 0, 1) := by decide +kernel
theorem dX6_count_6 : decode cX6_count 6 = .ok (.istore_n 2, 1) := by decide +kernel
theorem dX6_count_7 : decode cX6_count 7 = .ok (.iconst 0, 1) := by decide +kernel
theorem dX6_count_8 : decode cX6_count 8 = .ok (.istore_n 3, 1) := by decide +kernel
theorem dX6_count_9 : decode cX6_count 9 = .ok (.iload_n 3, 1) := by decide +kernel
theorem dX6_count_10 : decode cX6_count 10 = .ok (.aload_n 0, 1) := by decide +kernel
theorem dX6_count_11 : decode cX6_count 11 = .ok (.getfield 7, 3) := by decide +kernel
theorem dX6_count_14 : decode cX6_count 14 = .ok (.if_icmp .ge 21, 3) := by decide +kernel
theorem dX6_count_17 : decode cX6_count 17 = .ok (.iload_n 2, 1) := by decide +kernel
theorem dX6_count_18 : decode cX6_count 18 = .ok (.aload_n 0, 1) := by decide +kernel
theorem dX6_count_19 : decode cX6_count 19 = .ok (.getfield 13, 3) := by decide +kernel
theorem dX6_count_22 : decode cX6_count 22 = .ok (.iload_n 3, 1) := by decide +kernel
theorem dX6_count_23 : decode cX6_count 23 = .ok (.iaload, 1) := by decide +kernel
theorem dX6_count_24 : decode cX6_count 24 = .ok (.invokestatic 168, 3) := by decide +kernel
theorem dX6_count_27 : decode cX6_count 27 = .ok (.iadd, 1) := by decide +kernel
theorem dX6_count_28 : decode cX6_count 28 = .ok (.istore_n 2, 1) := by decide +kernel
theorem dX6_count_29 : decode cX6_count 29 = .ok (.iinc 3 1, 3) := by decide +kernel
theorem dX6_count_32 : decode cX6_count 32 = .ok (.goto (-23), 3) := by decide +kernel
theorem dX6_count_35 : decode cX6_count 35 = .ok (.iload_n 1, 1) := by decide +kernel
theorem dX6_count_36 : decode cX6_count 36 = .ok (.ifCond .ne 10, 3) := by decide +kernel
theorem dX6_count_39 : decode cX6_count 39 = .ok (.aload_n 0, 1) := by decide +kernel
theorem dX6_count_40 : decode cX6_count 40 = .ok (.getfield 7, 3) := by decide +kernel
theorem dX6_count_43 : decode cX6_count 43 = .ok (.goto 46, 3) := by decide +kernel
theorem dX6_count_46 : decode cX6_count 46 = .ok (.iload_n 1, 1) := by decide +kernel
theorem dX6_count_47 : decode cX6_count 47 = .ok (.iconst 1, 1) := by decide +kernel
theorem dX6_count_48 : decode cX6_count 48 = .ok (.if_icmp .ne 7, 3) := by decide +kernel
theorem dX6_count_51 : decode cX6_count 51 = .ok (.iload_n 2, 1) := by decide +kernel
theorem dX6_count_52 : decode cX6_count 52 = .ok (.goto 37, 3) := by decide +kernel
theorem dX6_count_55 : decode cX6_count 55 = .ok (.iload_n 1, 1) := by decide +kernel
theorem dX6_count_56 : decode cX6_count 56 = .ok (.iconst 2, 1) := by decide +kernel
theorem dX6_count_57 : decode cX6_count 57 = .ok (.if_icmp .ne 10, 3) := by decide +kernel
theorem dX6_count_60 : decode cX6_count 60 = .ok (.aload_n 0, 1) := by decide +kernel
theorem dX6_count_61 : decode cX6_count 61 = .ok (.getfield 171, 3) := by decide +kernel
theorem dX6_count_64 : decode cX6_count 64 = .ok (.goto 25, 3) := by decide +kernel
theorem dX6_count_67 : decode cX6_count 67 = .ok (.iload_n 1, 1) := by decide +kernel
theorem dX6_count_68 : decode cX6_count 68 = .ok (.iconst 3, 1) := by decide +kernel
theorem dX6_count_69 : decode cX6_count 69 = .ok (.bipush 6, 2) := by decide +kernel
theorem dX6_count_71 : decode cX6_count 71 = .ok (.invokestatic 135, 3) := by decide +kernel
theorem dX6_count_74 : decode cX6_count 74 = .ok (.ifCond .eq 14, 3) := by decide +kernel
theorem dX6_count_77 : decode cX6_count 77 = .ok (.aload_n 0, 1) := by decide +kernel
theorem dX6_count_78 : decode cX6_count 78 = .ok (.getfield 17, 3) := by decide +kernel
theorem dX6_count_81 : decode cX6_count 81 = .ok (.iload_n 1, 1) := by decide +kernel
theorem dX6_count_82 : decode cX6_count 82 = .ok (.iconst 3, 1) := by decide +kernel
theorem dX6_count_83 : decode cX6_count 83 = .ok (.isub, 1) := by decide +kernel
theorem dX6_count_84 : decode cX6_count 84 = .ok (.iaload, 1) := by decide +kernel
theorem dX6_count_85 : decode cX6_count 85 = .ok (.goto 4, 3) := by decide +kernel
theorem dX6_count_88 : decode cX6_count 88 = .ok (.iconst (-1), 1) := by decide +kernel
theorem dX6_count_89 : decode cX6_count 89 = .ok (.ireturn, 1) := by decide +kernel
theorem dX6_trace_0 : decode cX6_trace 0 = .ok (.aload_n 0, 1) := by decide +kernel
theorem dX6_trace_1 : decode cX6_trace 1 = .ok (.iconst 0, 1) := by decide +kernel
theorem dX6_trace_2 : decode cX6_trace 2 = .ok (.putfield 132, 3) := by decide +kernel
theorem dX6_trace_5 : decode cX6_trace 5 = .ok (.aload_n 0, 1) := by decide +kernel
theorem dX6_trace_6 : decode cX6_trace 6 = .ok (.getfield 154, 3) := by decide +kernel
theorem dX6_trace_9 : decode cX6_trace 9 = .ok (.lreturn, 1) := by decide +kernel
theorem dJ6_bitCount_0f7a4_0 : decode cJ6_bitCount_0f7a4 0 = .ok (.iload_n 0, 1) := by decide +kernel
theorem dJ6_bitCount_0f7a4_1 : decode cJ6_bitCount_0f7a4 1 = .ok (.iload_n 0, 1) := by decide +kernel
theorem dJ6_bitCount_0f7a4_2 : decode cJ6_bitCount_0f7a4 2 = .ok (.iconst 1, 1) := by decide +kernel
theorem dJ6_bitCount_0f7a4_3 : decode cJ6_bitCount_0f7a4 3 = .ok (.iushr, 1) := by decide +kernel
theorem dJ6_bitCount_0f7a4_4 : decode cJ6_bitCount_0f7a4 4 = .ok (.ldc_w 265, 3) := by decide +kernel
theorem dJ6_bitCount_0f7a4_7 : decode cJ6_bitCount_0f7a4 7 = .ok (.iand, 1) := by decide +kernel
theorem dJ6_bitCount_0f7a4_8 : decode cJ6_bitCount_0f7a4 8 = .ok (.isub, 1) := by decide +kernel
theorem dJ6_bitCount_0f7a4_9 : decode cJ6_bitCount_0f7a4 9 = .ok (.istore_n 0, 1) := by decide +kernel
theorem dJ6_bitCount_0f7a4_10 : decode cJ6_bitCount_0f7a4 10 = .ok (.iload_n 0, 1) := by decide +kernel
theorem dJ6_bitCount_0f7a4_11 : decode cJ6_bitCount_0f7a4 11 = .ok (.ldc_w 266, 3) := by decide +kernel
theorem dJ6_bitCount_0f7a4_14 : decode cJ6_bitCount_0f7a4 14 = .ok (.iand, 1) := by decide +kernel
theorem dJ6_bitCount_0f7a4_15 : decode cJ6_bitCount_0f7a4 15 = .ok (.iload_n 0, 1) := by decide +kernel
theorem dJ6_bitCount_0f7a4_16 : decode cJ6_bitCount_0f7a4 16 = .ok (.iconst 2, 1) := by decide +kernel
theorem dJ6_bitCount_0f7a4_17 : decode cJ6_bitCount_0f7a4 17 = .ok (.iushr, 1) := by decide +kernel
theorem dJ6_bitCount_0f7a4_18 : decode cJ6_bitCount_0f7a4 18 = .ok (.ldc_w 266, 3) := by decide +kernel
theorem dJ6_bitCount_0f7a4_21 : decode cJ6_bitCount_0f7a4 21 = .ok (.iand, 1) := by decide +kernel
theorem dJ6_bitCount_0f7a4_22 : decode cJ6_bitCount_0f7a4 22 = .ok (.iadd, 1) := by decide +kernel
theorem dJ6_bitCount_0f7a4_23 : decode cJ6_bitCount_0f7a4 23 = .ok (.istore_n 0, 1) := by decide +kernel
theorem dJ6_bitCount_0f7a4_24 : decode cJ6_bitCount_0f7a4 24 = .ok (.iload_n 0, 1) := by decide +kernel
theorem dJ6_bitCount_0f7a4_25 : decode cJ6_bitCount_0f7a4 25 = .ok (.iload_n 0, 1) := by decide +kernel
theorem dJ6_bitCount_0f7a4_26 : decode cJ6_bitCount_0f7a4 26 = .ok (.iconst 4, 1) := by decide +kernel
theorem dJ6_bitCount_0f7a4_27 : decode cJ6_bitCount_0f7a4 27 = .ok (.iushr, 1) := by decide +kernel
theorem dJ6_bitCount_0f7a4_28 : decode cJ6_bitCount_0f7a4 28 = .ok (.iadd, 1) := by decide +kernel
theorem dJ6_bitCount_0f7a4_29 : decode cJ6_bitCount_0f7a4 29 = .ok (.ldc_w 267, 3) := by decide +kernel
theorem dJ6_bitCount_0f7a4_32 : decode cJ6_bitCount_0f7a4 32 = .ok (.iand, 1) := by decide +kernel
theorem dJ6_bitCount_0f7a4_33 : decode cJ6_bitCount_0f7a4 33 = .ok (.istore_n 0, 1) := by decide +kernel
theorem dJ6_bitCount_0f7a4_34 : decode cJ6_bitCount_0f7a4 34 = .ok (.iload_n 0, 1) := by decide +kernel
theorem dJ6_bitCount_0f7a4_35 : decode cJ6_bitCount_0f7a4 35 = .ok (.iload_n 0, 1) := by decide +kernel
theorem dJ6_bitCount_0f7a4_36 : decode cJ6_bitCount_0f7a4 36 = .ok (.bipush 8, 2) := by decide +kernel
theorem dJ6_bitCount_0f7a4_38 : decode cJ6_bitCount_0f7a4 38 = .ok (.iushr, 1) := by decide +kernel
theorem dJ6_bitCount_0f7a4_39 : decode cJ6_bitCount_0f7a4 39 = .ok (.iadd, 1) := by decide +kernel
theorem dJ6_bitCount_0f7a4_40 : decode cJ6_bitCount_0f7a4 40 = .ok (.istore_n 0, 1) := by decide +kernel
theorem dJ6_bitCount_0f7a4_41 : decode cJ6_bitCount_0f7a4 41 = .ok (.iload_n 0, 1) := by decide +kernel
theorem dJ6_bitCount_0f7a4_42 : decode cJ6_bitCount_0f7a4 42 = .ok (.iload_n 0, 1) := by decide +kernel
theorem dJ6_bitCount_0f7a4_43 : decode cJ6_bitCount_0f7a4 43 = .ok (.bipush 16, 2) := by decide +kernel
theorem dJ6_bitCount_0f7a4_45 : decode cJ6_bitCount_0f7a4 45 = .ok (.iushr, 1) := by decide +kernel
theorem dJ6_bitCount_0f7a4_46 : decode cJ6_bitCount_0f7a4 46 = .ok (.iadd, 1) := by decide +kernel
theorem dJ6_bitCount_0f7a4_47 : decode cJ6_bitCount_0f7a4 47 = .ok (.istore_n 0, 1) := by decide +kernel
theorem dJ6_bitCount_0f7a4_48 : decode cJ6_bitCount_0f7a4 48 = .ok (.iload_n 0, 1) := by decide +kernel
theorem dJ6_bitCount_0f7a4_49 : decode cJ6_bitCount_0f7a4 49 = .ok (.bipush 63, 2) := by decide +kernel
theorem dJ6_bitCount_0f7a4_51 : decode cJ6_bitCount_0f7a4 51 = .ok (.iand, 1) := by decide +kernel
theorem dJ6_bitCount_0f7a4_52 : decode cJ6_bitCount_0f7a4 52 = .ok (.ireturn, 1) := by decide +kernel
theorem dJ9_max_7cf53_0 : decode cJ9_max_7cf53 0 = .ok (.iload_n 0, 1) := by decide +kernel
theorem dJ9_max_7cf53_1 : decode cJ9_max_7cf53 1 = .ok (.iload_n 1, 1) := by decide +kernel
theorem dJ9_max_7cf53_2 : decode cJ9_max_7cf53 2 = .ok (.if_icmp .lt 7, 3) := by decide +kernel
theorem dJ9_max_7cf53_5 : decode cJ9_max_7cf53 5 = .ok (.iload_n 0, 1) := by decide +kernel
theorem dJ9_max_7cf53_6 : decode cJ9_max_7cf53 6 = .ok (.goto 4, 3) := by decide +kernel
theorem dJ9_max_7cf53_9 : decode cJ9_max_7cf53 9 = .ok (.iload_n 1, 1) := by decide +kernel
theorem dJ9_max_7cf53_10 : decode cJ9_max_7cf53 10 = .ok (.ireturn, 1) := by decide +kernel
theorem dJ9_min_7cf53_0 : decode cJ9_min_7cf53 0 = .ok (.iload_n 0, 1) := by decide +kernel
theorem dJ9_min_7cf53_1 : decode cJ9_min_7cf53 1 = .ok (.iload_n 1, 1) := by decide +kernel
theorem dJ9_min_7cf53_2 : decode cJ9_min_7cf53 2 = .ok (.if_icmp .gt 7, 3) := by decide +kernel
theorem dJ9_min_7cf53_5 : decode cJ9_min_7cf53 5 = .ok (.iload_n 0, 1) := by decide +kernel
theorem dJ9_min_7cf53_6 : decode cJ9_min_7cf53 6 = .ok (.goto 4, 3) := by decide +kernel
theorem dJ9_min_7cf53_9 : decode cJ9_min_7cf53 9 = .ok (.iload_n 1, 1) := by decide +kernel
theorem dJ9_min_7cf53_10 : decode cJ9_min_7cf53 10 = .ok (.ireturn, 1) := by decide +kernel
theorem dL_law_0 : decode cL_law 0 = .ok (.new 7, 3) := by decide +kernel
theorem dL_law_3 : decode cL_law 3 = .ok (.dup, 1) := by decide +kernel
theorem dL_law_4 : decode cL_law 4 = .ok (.invokespecial 9, 3) := by decide +kernel
theorem dL_law_7 : decode cL_law 7 = .ok (.astore_n 1, 1) := by decide +kernel
theorem dL_law_8 : decode cL_law 8 = .ok (.new 10, 3) := by decide +kernel
theorem dL_law_11 : decode cL_law 11 = .ok (.dup, 1) := by decide +kernel
theorem dL_law_12 : decode cL_law 12 = .ok (.invokespecial 12, 3) := by decide +kernel
theorem dL_law_15 : decode cL_law 15 = .ok (.astore_n 2, 1) := by decide +kernel
theorem dL_law_16 : decode cL_law 16 = .ok (.iconst 0, 1) := by decide +kernel
theorem dL_law_17 : decode cL_law 17 = .ok (.istore_n 3, 1) := by decide +kernel
theorem dL_law_18 : decode cL_law 18 = .ok (.iload_n 3, 1) := by decide +kernel
theorem dL_law_19 : decode cL_law 19 = .ok (.aload_n 0, 1) := by decide +kernel
theorem dL_law_20 : decode cL_law 20 = .ok (.arraylength, 1) := by decide +kernel
theorem dL_law_21 : decode cL_law 21 = .ok (.iconst 4, 1) := by decide +kernel
theorem dL_law_22 : decode cL_law 22 = .ok (.isub, 1) := by decide +kernel
theorem dL_law_23 : decode cL_law 23 = .ok (.if_icmp .gt 896, 3) := by decide +kernel
theorem dL_law_26 : decode cL_law 26 = .ok (.aload_n 0, 1) := by decide +kernel
theorem dL_law_27 : decode cL_law 27 = .ok (.iload_n 3, 1) := by decide +kernel
theorem dL_law_28 : decode cL_law 28 = .ok (.iaload, 1) := by decide +kernel
theorem dL_law_29 : decode cL_law 29 = .ok (.bipush 31, 2) := by decide +kernel
theorem dL_law_31 : decode cL_law 31 = .ok (.iand, 1) := by decide +kernel
theorem dL_law_32 : decode cL_law 32 = .ok (.tableswitch 881 0 24 #[116, 139, 182, 215, 248, 261, 324, 337, 360, 393, 426, 459, 502, 545, 588, 611, 654, 697, 710, 733, 766, 789, 812, 845, 868], 116) := by decide +kernel
theorem dL_law_148 : decode cL_law 148 = .ok (.aload_n 1, 1) := by decide +kernel
theorem dL_law_149 : decode cL_law 149 = .ok (.aload_n 0, 1) := by decide +kernel
theorem dL_law_150 : decode cL_law 150 = .ok (.iload_n 3, 1) := by decide +kernel
theorem dL_law_151 : decode cL_law 151 = .ok (.iconst 1, 1) := by decide +kernel
theorem dL_law_152 : decode cL_law 152 = .ok (.iadd, 1) := by decide +kernel
theorem dL_law_153 : decode cL_law 153 = .ok (.iaload, 1) := by decide +kernel
theorem dL_law_154 : decode cL_law 154 = .ok (.invokevirtual 13, 3) := by decide +kernel
theorem dL_law_157 : decode cL_law 157 = .ok (.aload_n 2, 1) := by decide +kernel
theorem dL_law_158 : decode cL_law 158 = .ok (.aload_n 0, 1) := by decide +kernel
theorem dL_law_159 : decode cL_law 159 = .ok (.iload_n 3, 1) := by decide +kernel
theorem dL_law_160 : decode cL_law 160 = .ok (.iconst 1, 1) := by decide +kernel
theorem dL_law_161 : decode cL_law 161 = .ok (.iadd, 1) := by decide +kernel
theorem dL_law_162 : decode cL_law 162 = .ok (.iaload, 1) := by decide +kernel
theorem dL_law_163 : decode cL_law 163 = .ok (.invokevirtual 17, 3) := by decide +kernel
theorem dL_law_166 : decode cL_law 166 = .ok (.if_icmp .eq 747, 3) := by decide +kernel
theorem dL_law_169 : decode cL_law 169 = .ok (.iconst 0, 1) := by decide +kernel
theorem dL_law_170 : decode cL_law 170 = .ok (.ireturn, 1) := by decide +kernel
theorem dL_law_171 : decode cL_law 171 = .ok (.aload_n 1, 1) := by decide +kernel
theorem dL_law_172 : decode cL_law 172 = .ok (.aload_n 0, 1) := by decide +kernel
theorem dL_law_173 : decode cL_law 173 = .ok (.iload_n 3, 1) := by decide +kernel
theorem dL_law_174 : decode cL_law 174 = .ok (.iconst 1, 1) := by decide +kernel
theorem dL_law_175 : decode cL_law 175 = .ok (.iadd, 1) := by decide +kernel
theorem dL_law_176 : decode cL_law 176 = .ok (.iaload, 1) := by decide +kernel
theorem dL_law_177 : decode cL_law 177 = .ok (.aload_n 0, 1) := by decide +kernel
theorem dL_law_178 : decode cL_law 178 = .ok (.iload_n 3, 1) := by decide +kernel
theorem dL_law_179 : decode cL_law 179 = .ok (.iconst 2, 1) := by decide +kernel
theorem dL_law_180 : decode cL_law 180 = .ok (.iadd, 1) := by decide +kernel
theorem dL_law_181 : decode cL_law 181 = .ok (.iaload, 1) := by decide +kernel
theorem dL_law_182 : decode cL_law 182 = .ok (.aload_n 0, 1) := by decide +kernel
theorem dL_law_183 : decode cL_law 183 = .ok (.iload_n 3, 1) := by decide +kernel
theorem dL_law_184 : decode cL_law 184 = .ok (.iconst 3, 1) := by decide +kernel
theorem dL_law_185 : decode cL_law 185 = .ok (.iadd, 1) := by decide +kernel
theorem dL_law_186 : decode cL_law 186 = .ok (.iaload, 1) := by decide +kernel
theorem dL_law_187 : decode cL_law 187 = .ok (.invokevirtual 18, 3) := by decide +kernel
theorem dL_law_190 : decode cL_law 190 = .ok (.pop, 1) := by decide +kernel
theorem dL_law_191 : decode cL_law 191 = .ok (.aload_n 2, 1) := by decide +kernel
theorem dL_law_192 : decode cL_law 192 = .ok (.aload_n 0, 1) := by decide +kernel
theorem dL_law_193 : decode cL_law 193 = .ok (.iload_n 3, 1) := by decide +kernel
theorem dL_law_194 : decode cL_law 194 = .ok (.iconst 1, 1) := by decide +kernel
theorem dL_law_195 : decode cL_law 195 = .ok (.iadd, 1) := by decide +kernel
theorem dL_law_196 : decode cL_law 196 = .ok (.iaload, 1) := by decide +kernel
theorem dL_law_197 : decode cL_law 197 = .ok (.aload_n 0, 1) := by decide +kernel
theorem dL_law_198 : decode cL_law 198 = .ok (.iload_n 3, 1) := by decide +kernel
theorem dL_law_199 : decode cL_law 199 = .ok (.iconst 2, 1) := by decide +kernel
theorem dL_law_200 : decode cL_law 200 = .ok (.iadd, 1) := by decide +kernel
theorem dL_law_201 : decode cL_law 201 = .ok (.iaload, 1) := by decide +kernel
theorem dL_law_202 : decode cL_law 202 = .ok (.aload_n 0, 1) := by decide +kernel
theorem dL_law_203 : decode cL_law 203 = .ok (.iload_n 3, 1) := by decide +kernel
theorem dL_law_204 : decode cL_law 204 = .ok (.iconst 3, 1) := by decide +kernel
theorem dL_law_205 : decode cL_law 205 = .ok (.iadd, 1) := by decide +kernel
theorem dL_law_206 : decode cL_law 206 = .ok (.iaload, 1) := by decide +kernel
theorem dL_law_207 : decode cL_law 207 = .ok (.invokevirtual 22, 3) := by decide +kernel
theorem dL_law_210 : decode cL_law 210 = .ok (.pop, 1) := by decide +kernel
theorem dL_law_211 : decode cL_law 211 = .ok (.goto 702, 3) := by decide +kernel
theorem dL_law_214 : decode cL_law 214 = .ok (.aload_n 1, 1) := by decide +kernel
theorem dL_law_215 : decode cL_law 215 = .ok (.aload_n 0, 1) := by decide +kernel
theorem dL_law_216 : decode cL_law 216 = .ok (.iload_n 3, 1) := by decide +kernel
theorem dL_law_217 : decode cL_law 217 = .ok (.iconst 1, 1) := by decide +kernel
theorem dL_law_218 : decode cL_law 218 = .ok (.iadd, 1) := by decide +kernel
theorem dL_law_219 : decode cL_law 219 = .ok (.iaload, 1) := by decide +kernel
theorem dL_law_220 : decode cL_law 220 = .ok (.aload_n 0, 1) := by decide +kernel
theorem dL_law_221 : decode cL_law 221 = .ok (.iload_n 3, 1) := by decide +kernel
theorem dL_law_222 : decode cL_law 222 = .ok (.iconst 2, 1) := by decide +kernel
theorem dL_law_223 : decode cL_law 223 = .ok (.iadd, 1) := by decide +kernel
theorem dL_law_224 : decode cL_law 224 = .ok (.iaload, 1) := by decide +kernel
theorem dL_law_225 : decode cL_law 225 = .ok (.invokevirtual 23, 3) := by decide +kernel
theorem dL_law_228 : decode cL_law 228 = .ok (.pop, 1) := by decide +kernel
theorem dL_law_229 : decode cL_law 229 = .ok (.aload_n 2, 1) := by decide +kernel
theorem dL_law_230 : decode cL_law 230 = .ok (.aload_n 0, 1) := by decide +kernel
theorem dL_law_231 : decode cL_law 231 = .ok (.iload_n 3, 1) := by decide +kernel
theorem dL_law_232 : decode cL_law 232 = .ok (.iconst 1, 1) := by decide +kernel
theorem dL_law_233 : decode cL_law 233 = .ok (.iadd, 1) := by decide +kernel
theorem dL_law_234 : decode cL_law 234 = .ok (.iaload, 1) := by decide +kernel
theorem dL_law_235 : decode cL_law 235 = .ok (.aload_n 0, 1) := by decide +kernel
theorem dL_law_236 : decode cL_law 236 = .ok (.iload_n 3, 1) := by decide +kernel
theorem dL_law_237 : decode cL_law 237 = .ok (.iconst 2, 1) := by decide +kernel
theorem dL_law_238 : decode cL_law 238 = .ok (.iadd, 1) := by decide +kernel
theorem dL_law_239 : decode cL_law 239 = .ok (.iaload, 1) := by decide +kernel
theorem dL_law_240 : decode cL_law 240 = .ok (.invokevirtual 27, 3) := by decide +kernel
theorem dL_law_243 : decode cL_law 243 = .ok (.pop, 1) := by decide +kernel
theorem dL_law_244 : decode cL_law 244 = .ok (.goto 669, 3) := by decide +kernel
theorem dL_law_247 : decode cL_law 247 = .ok (.aload_n 1, 1) := by decide +kernel
theorem dL_law_248 : decode cL_law 248 = .ok (.aload_n 0, 1) := by decide +kernel
theorem dL_law_249 : decode cL_law 249 = .ok (.iload_n 3, 1) := by decide +kernel
theorem dL_law_250 : decode cL_law 250 = .ok (.iconst 1, 1) := by decide +kernel
theorem dL_law_251 : decode cL_law 251 = .ok (.iadd, 1) := by decide +kernel
theorem dL_law_252 : decode cL_law 252 = .ok (.iaload, 1) := by decide +kernel
theorem dL_law_253 : decode cL_law 253 = .ok (.aload_n 0, 1) := by decide +kernel
theorem dL_law_254 : decode cL_law 254 = .ok (.iload_n 3, 1) := by decide +kernel
theorem dL_law_255 : decode cL_law 255 = .ok (.iconst 2, 1) := by decide +kernel
theorem dL_law_256 : decode cL_law 256 = .ok (.iadd, 1) := by decide +kernel
theorem dL_law_257 : decode cL_law 257 = .ok (.iaload, 1) := by decide +kernel
theorem dL_law_258 : decode cL_law 258 = .ok (.invokevirtual 28, 3) := by decide +kernel
theorem dL_law_261 : decode cL_law 261 = .ok (.pop, 1) := by decide +kernel
theorem dL_law_262 : decode cL_law 262 = .ok (.aload_n 2, 1) := by decide +kernel
theorem dL_law_263 : decode cL_law 263 = .ok (.aload_n 0, 1) := by decide +kernel
theorem dL_law_264 : decode cL_law 264 = .ok (.iload_n 3, 1) := by decide +kernel
theorem dL_law_265 : decode cL_law 265 = .ok (.iconst 1, 1) := by decide +kernel
theorem dL_law_266 : decode cL_law 266 = .ok (.iadd, 1) := by decide +kernel
theorem dL_law_267 : decode cL_law 267 = .ok (.iaload, 1) := by decide +kernel
theorem dL_law_268 : decode cL_law 268 = .ok (.aload_n 0, 1) := by decide +kernel
theorem dL_law_269 : decode cL_law 269 = .ok (.iload_n 3, 1) := by decide +kernel
theorem dL_law_270 : decode cL_law 270 = .ok (.iconst 2, 1) := by decide +kernel
theorem dL_law_271 : decode cL_law 271 = .ok (.iadd, 1) := by decide +kernel
theorem dL_law_272 : decode cL_law 272 = .ok (.iaload, 1) := by decide +kernel
theorem dL_law_273 : decode cL_law 273 = .ok (.invokevirtual 31, 3) := by decide +kernel
theorem dL_law_276 : decode cL_law 276 = .ok (.pop, 1) := by decide +kernel
theorem dL_law_277 : decode cL_law 277 = .ok (.goto 636, 3) := by decide +kernel
theorem dL_law_280 : decode cL_law 280 = .ok (.aload_n 1, 1) := by decide +kernel
theorem dL_law_281 : decode cL_law 281 = .ok (.invokevirtual 32, 3) := by decide +kernel
theorem dL_law_284 : decode cL_law 284 = .ok (.pop, 1) := by decide +kernel
theorem dL_law_285 : decode cL_law 285 = .ok (.aload_n 2, 1) := by decide +kernel
theorem dL_law_286 : decode cL_law 286 = .ok (.invokevirtual 36, 3) := by decide +kernel
theorem dL_law_289 : decode cL_law 289 = .ok (.pop, 1) := by decide +kernel
theorem dL_law_290 : decode cL_law 290 = .ok (.goto 623, 3) := by decide +kernel
theorem dL_law_293 : decode cL_law 293 = .ok (.aload_n 1, 1) := by decide +kernel
theorem dL_law_294 : decode cL_law 294 = .ok (.aload_n 0, 1) := by decide +kernel
theorem dL_law_295 : decode cL_law 295 = .ok (.iload_n 3, 1) := by decide +kernel
theorem dL_law_296 : decode cL_law 296 = .ok (.iconst 1, 1) := by decide +kernel
theorem dL_law_297 : decode cL_law 297 = .ok (.iadd, 1) := by decide +kernel
theorem dL_law_298 : decode cL_law 298 = .ok (.iaload, 1) := by decide +kernel
theorem dL_law_299 : decode cL_law 299 = .ok (.i2l, 1) := by decide +kernel
theorem dL_law_300 : decode cL_law 300 = .ok (.bipush 32, 2) := by decide +kernel
theorem dL_law_302 : decode cL_law 302 = .ok (.lshl, 1) := by decide +kernel
theorem dL_law_303 : decode cL_law 303 = .ok (.aload_n 0, 1) := by decide +kernel
theorem dL_law_304 : decode cL_law 304 = .ok (.iload_n 3, 1) := by decide +kernel
theorem dL_law_305 : decode cL_law 305 = .ok (.iconst 2, 1) := by decide +kernel
theorem dL_law_306 : decode cL_law 306 = .ok (.iadd, 1) := by decide +kernel
theorem dL_law_307 : decode cL_law 307 = .ok (.iaload, 1) := by decide +kernel
theorem dL_law_308 : decode cL_law 308 = .ok (.i2l, 1) := by decide +kernel
theorem dL_law_309 : decode cL_law 309 = .ok (.ldc2_w 37, 3) := by decide +kernel
theorem dL_law_312 : decode cL_law 312 = .ok (.land, 1) := by decide +kernel
theorem dL_law_313 : decode cL_law 313 = .ok (.lor, 1) := by decide +kernel
theorem dL_law_314 : decode cL_law 314 = .ok (.aload_n 0, 1) := by decide +kernel
theorem dL_law_315 : decode cL_law 315 = .ok (.iload_n 3, 1) := by decide +kernel
theorem dL_law_316 : decode cL_law 316 = .ok (.iconst 3, 1) := by decide +kernel
theorem dL_law_317 : decode cL_law 317 = .ok (.iadd, 1) := by decide +kernel
theorem dL_law_318 : decode cL_law 318 = .ok (.iaload, 1) := by decide +kernel
theorem dL_law_319 : decode cL_law 319 = .ok (.invokevirtual 39, 3) := by decide +kernel
theorem dL_law_322 : decode cL_law 322 = .ok (.pop, 1) := by decide +kernel
theorem dL_law_323 : decode cL_law 323 = .ok (.aload_n 2, 1) := by decide +kernel
theorem dL_law_324 : decode cL_law 324 = .ok (.aload_n 0, 1) := by decide +kernel
theorem dL_law_325 : decode cL_law 325 = .ok (.iload_n 3, 1) := by decide +kernel
theorem dL_law_326 : decode cL_law 326 = .ok (.iconst 1, 1) := by decide +kernel
theorem dL_law_327 : decode cL_law 327 = .ok (.iadd, 1) := by decide +kernel
theorem dL_law_328 : decode cL_law 328 = .ok (.iaload, 1) := by decide +kernel
theorem dL_law_329 : decode cL_law 329 = .ok (.i2l, 1) := by decide +kernel
theorem dL_law_330 : decode cL_law 330 = .ok (.bipush 32, 2) := by decide +kernel
theorem dL_law_332 : decode cL_law 332 = .ok (.lshl, 1) := by decide +kernel
theorem dL_law_333 : decode cL_law 333 = .ok (.aload_n 0, 1) := by decide +kernel
theorem dL_law_334 : decode cL_law 334 = .ok (.iload_n 3, 1) := by decide +kernel
theorem dL_law_335 : decode cL_law 335 = .ok (.iconst 2, 1) := by decide +kernel
theorem dL_law_336 : decode cL_law 336 = .ok (.iadd, 1) := by decide +kernel
theorem dL_law_337 : decode cL_law 337 = .ok (.iaload, 1) := by decide +kernel
theorem dL_law_338 : decode cL_law 338 = .ok (.i2l, 1) := by decide +kernel
theorem dL_law_339 : decode cL_law 339 = .ok (.ldc2_w 37, 3) := by decide +kernel
theorem dL_law_342 : decode cL_law 342 = .ok (.land, 1) := by decide +kernel
theorem dL_law_343 : decode cL_law 343 = .ok (.lor, 1) := by decide +kernel
theorem dL_law_344 : decode cL_law 344 = .ok (.aload_n 0, 1) := by decide +kernel
theorem dL_law_345 : decode cL_law 345 = .ok (.iload_n 3, 1) := by decide +kernel
theorem dL_law_346 : decode cL_law 346 = .ok (.iconst 3, 1) := by decide +kernel
theorem dL_law_347 : decode cL_law 347 = .ok (.iadd, 1) := by decide +kernel
theorem dL_law_348 : decode cL_law 348 = .ok (.iaload, 1) := by decide +kernel
theorem dL_law_349 : decode cL_law 349 = .ok (.invokevirtual 43, 3) := by decide +kernel
theorem dL_law_352 : decode cL_law 352 = .ok (.pop, 1) := by decide +kernel
theorem dL_law_353 : decode cL_law 353 = .ok (.goto 560, 3) := by decide +kernel
theorem dL_law_356 : decode cL_law 356 = .ok (.aload_n 1, 1) := by decide +kernel
theorem dL_law_357 : decode cL_law 357 = .ok (.invokevirtual 44, 3) := by decide +kernel
theorem dL_law_360 : decode cL_law 360 = .ok (.pop, 1) := by decide +kernel
theorem dL_law_361 : decode cL_law 361 = .ok (.aload_n 2, 1) := by decide +kernel
theorem dL_law_362 : decode cL_law 362 = .ok (.invokevirtual 47, 3) := by decide +kernel
theorem dL_law_365 : decode cL_law 365 = .ok (.pop, 1) := by decide +kernel
theorem dL_law_366 : decode cL_law 366 = .ok (.goto 547, 3) := by decide +kernel
theorem dL_law_369 : decode cL_law 369 = .ok (.aload_n 1, 1) := by decide +kernel
theorem dL_law_370 : decode cL_law 370 = .ok (.aload_n 0, 1) := by decide +kernel
theorem dL_law_371 : decode cL_law 371 = .ok (.iload_n 3, 1) := by decide +kernel
theorem dL_law_372 : decode cL_law 372 = .ok (.iconst 1, 1) := by decide +kernel
theorem dL_law_373 : decode cL_law 373 = .ok (.iadd, 1) := by decide +kernel
theorem dL_law_374 : decode cL_law 374 = .ok (.iaload, 1) := by decide +kernel
theorem dL_law_375 : decode cL_law 375 = .ok (.invokevirtual 48, 3) := by decide +kernel
theorem dL_law_378 : decode cL_law 378 = .ok (.pop, 1) := by decide +kernel
theorem dL_law_379 : decode cL_law 379 = .ok (.aload_n 2, 1) := by decide +kernel
theorem dL_law_380 : decode cL_law 380 = .ok (.aload_n 0, 1) := by decide +kernel
theorem dL_law_381 : decode cL_law 381 = .ok (.iload_n 3, 1) := by decide +kernel
theorem dL_law_382 : decode cL_law 382 = .ok (.iconst 1, 1) := by decide +kernel
theorem dL_law_383 : decode cL_law 383 = .ok (.iadd, 1) := by decide +kernel
theorem dL_law_384 : decode cL_law 384 = .ok (.iaload, 1) := by decide +kernel
theorem dL_law_385 : decode cL_law 385 = .ok (.invokevirtual 51, 3) := by decide +kernel
theorem dL_law_388 : decode cL_law 388 = .ok (.pop, 1) := by decide +kernel
theorem dL_law_389 : decode cL_law 389 = .ok (.goto 524, 3) := by decide +kernel
theorem dL_law_392 : decode cL_law 392 = .ok (.aload_n 1, 1) := by decide +kernel
theorem dL_law_393 : decode cL_law 393 = .ok (.aload_n 0, 1) := by decide +kernel
theorem dL_law_394 : decode cL_law 394 = .ok (.iload_n 3, 1) := by decide +kernel
theorem dL_law_395 : decode cL_law 395 = .ok (.iconst 1, 1) := by decide +kernel
theorem dL_law_396 : decode cL_law 396 = .ok (.iadd, 1) := by decide +kernel
theorem dL_law_397 : decode cL_law 397 = .ok (.iaload, 1) := by decide +kernel
theorem dL_law_398 : decode cL_law 398 = .ok (.aload_n 0, 1) := by decide +kernel
theorem dL_law_399 : decode cL_law 399 = .ok (.iload_n 3, 1) := by decide +kernel
theorem dL_law_400 : decode cL_law 400 = .ok (.iconst 2, 1) := by decide +kernel
theorem dL_law_401 : decode cL_law 401 = .ok (.iadd, 1) := by decide +kernel
theorem dL_law_402 : decode cL_law 402 = .ok (.iaload, 1) := by decide +kernel
theorem dL_law_403 : decode cL_law 403 = .ok (.invokevirtual 52, 3) := by decide +kernel
theorem dL_law_406 : decode cL_law 406 = .ok (.pop, 1) := by decide +kernel
theorem dL_law_407 : decode cL_law 407 = .ok (.aload_n 2, 1) := by decide +kernel
theorem dL_law_408 : decode cL_law 408 = .ok (.aload_n 0, 1) := by decide +kernel
theorem dL_law_409 : decode cL_law 409 = .ok (.iload_n 3, 1) := by decide +kernel
theorem dL_law_410 : decode cL_law 410 = .ok (.iconst 1, 1) := by decide +kernel
theorem dL_law_411 : decode cL_law 411 = .ok (.iadd, 1) := by decide +kernel
theorem dL_law_412 : decode cL_law 412 = .ok (.iaload, 1) := by decide +kernel
theorem dL_law_413 : decode cL_law 413 = .ok (.aload_n 0, 1) := by decide +kernel
theorem dL_law_414 : decode cL_law 414 = .ok (.iload_n 3, 1) := by decide +kernel
theorem dL_law_415 : decode cL_law 415 = .ok (.iconst 2, 1) := by decide +kernel
theorem dL_law_416 : decode cL_law 416 = .ok (.iadd, 1) := by decide +kernel
theorem dL_law_417 : decode cL_law 417 = .ok (.iaload, 1) := by decide +kernel
theorem dL_law_418 : decode cL_law 418 = .ok (.invokevirtual 55, 3) := by decide +kernel
theorem dL_law_421 : decode cL_law 421 = .ok (.pop, 1) := by decide +kernel
theorem dL_law_422 : decode cL_law 422 = .ok (.goto 491, 3) := by decide +kernel
theorem dL_law_425 : decode cL_law 425 = .ok (.aload_n 1, 1) := by decide +kernel
theorem dL_law_426 : decode cL_law 426 = .ok (.aload_n 0, 1) := by decide +kernel
theorem dL_law_427 : decode cL_law 427 = .ok (.iload_n 3, 1) := by decide +kernel
theorem dL_law_428 : decode cL_law 428 = .ok (.iconst 1, 1) := by decide +kernel
theorem dL_law_429 : decode cL_law 429 = .ok (.iadd, 1) := by decide +kernel
theorem dL_law_430 : decode cL_law 430 = .ok (.iaload, 1) := by decide +kernel
theorem dL_law_431 : decode cL_law 431 = .ok (.aload_n 0, 1) := by decide +kernel
theorem dL_law_432 : decode cL_law 432 = .ok (.iload_n 3, 1) := by decide +kernel
theorem dL_law_433 : decode cL_law 433 = .ok (.iconst 2, 1) := by decide +kernel
theorem dL_law_434 : decode cL_law 434 = .ok (.iadd, 1) := by decide +kernel
theorem dL_law_435 : decode cL_law 435 = .ok (.iaload, 1) := by decide +kernel
theorem dL_law_436 : decode cL_law 436 = .ok (.invokevirtual 56, 3) := by decide +kernel
theorem dL_law_439 : decode cL_law 439 = .ok (.pop, 1) := by decide +kernel
theorem dL_law_440 : decode cL_law 440 = .ok (.aload_n 2, 1) := by decide +kernel
theorem dL_law_441 : decode cL_law 441 = .ok (.aload_n 0, 1) := by decide +kernel
theorem dL_law_442 : decode cL_law 442 = .ok (.iload_n 3, 1) := by decide +kernel
theorem dL_law_443 : decode cL_law 443 = .ok (.iconst 1, 1) := by decide +kernel
theorem dL_law_444 : decode cL_law 444 = .ok (.iadd, 1) := by decide +kernel
theorem dL_law_445 : decode cL_law 445 = .ok (.iaload, 1) := by decide +kernel
theorem dL_law_446 : decode cL_law 446 = .ok (.aload_n 0, 1) := by decide +kernel
theorem dL_law_447 : decode cL_law 447 = .ok (.iload_n 3, 1) := by decide +kernel
theorem dL_law_448 : decode cL_law 448 = .ok (.iconst 2, 1) := by decide +kernel
theorem dL_law_449 : decode cL_law 449 = .ok (.iadd, 1) := by decide +kernel
theorem dL_law_450 : decode cL_law 450 = .ok (.iaload, 1) := by decide +kernel
theorem dL_law_451 : decode cL_law 451 = .ok (.invokevirtual 59, 3) := by decide +kernel
theorem dL_law_454 : decode cL_law 454 = .ok (.pop, 1) := by decide +kernel
theorem dL_law_455 : decode cL_law 455 = .ok (.goto 458, 3) := by decide +kernel
theorem dL_law_458 : decode cL_law 458 = .ok (.aload_n 1, 1) := by decide +kernel
theorem dL_law_459 : decode cL_law 459 = .ok (.aload_n 0, 1) := by decide +kernel
theorem dL_law_460 : decode cL_law 460 = .ok (.iload_n 3, 1) := by decide +kernel
theorem dL_law_461 : decode cL_law 461 = .ok (.iconst 1, 1) := by decide +kernel
theorem dL_law_462 : decode cL_law 462 = .ok (.iadd, 1) := by decide +kernel
theorem dL_law_463 : decode cL_law 463 = .ok (.iaload, 1) := by decide +kernel
theorem dL_law_464 : decode cL_law 464 = .ok (.aload_n 0, 1) := by decide +kernel
theorem dL_law_465 : decode cL_law 465 = .ok (.iload_n 3, 1) := by decide +kernel
theorem dL_law_466 : decode cL_law 466 = .ok (.iconst 2, 1) := by decide +kernel
theorem dL_law_467 : decode cL_law 467 = .ok (.iadd, 1) := by decide +kernel
theorem dL_law_468 : decode cL_law 468 = .ok (.iaload, 1) := by decide +kernel
theorem dL_law_469 : decode cL_law 469 = .ok (.invokevirtual 60, 3) := by decide +kernel
theorem dL_law_472 : decode cL_law 472 = .ok (.pop, 1) := by decide +kernel
theorem dL_law_473 : decode cL_law 473 = .ok (.aload_n 2, 1) := by decide +kernel
theorem dL_law_474 : decode cL_law 474 = .ok (.aload_n 0, 1) := by decide +kernel
theorem dL_law_475 : decode cL_law 475 = .ok (.iload_n 3, 1) := by decide +kernel
theorem dL_law_476 : decode cL_law 476 = .ok (.iconst 1, 1) := by decide +kernel
theorem dL_law_477 : decode cL_law 477 = .ok (.iadd, 1) := by decide +kernel
theorem dL_law_478 : decode cL_law 478 = .ok (.iaload, 1) := by decide +kernel
theorem dL_law_479 : decode cL_law 479 = .ok (.aload_n 0, 1) := by decide +kernel
theorem dL_law_480 : decode cL_law 480 = .ok (.iload_n 3, 1) := by decide +kernel
theorem dL_law_481 : decode cL_law 481 = .ok (.iconst 2, 1) := by decide +kernel
theorem dL_law_482 : decode cL_law 482 = .ok (.iadd, 1) := by decide +kernel
theorem dL_law_483 : decode cL_law 483 = .ok (.iaload, 1) := by decide +kernel
theorem dL_law_484 : decode cL_law 484 = .ok (.invokevirtual 63, 3) := by decide +kernel
theorem dL_law_487 : decode cL_law 487 = .ok (.pop, 1) := by decide +kernel
theorem dL_law_488 : decode cL_law 488 = .ok (.goto 425, 3) := by decide +kernel
theorem dL_law_491 : decode cL_law 491 = .ok (.aload_n 1, 1) := by decide +kernel
theorem dL_law_492 : decode cL_law 492 = .ok (.aload_n 0, 1) := by decide +kernel
theorem dL_law_493 : decode cL_law 493 = .ok (.iload_n 3, 1) := by decide +kernel
theorem dL_law_494 : decode cL_law 494 = .ok (.iconst 1, 1) := by decide +kernel
theorem dL_law_495 : decode cL_law 495 = .ok (.iadd, 1) := by decide +kernel
theorem dL_law_496 : decode cL_law 496 = .ok (.iaload, 1) := by decide +kernel
theorem dL_law_497 : decode cL_law 497 = .ok (.aload_n 0, 1) := by decide +kernel
theorem dL_law_498 : decode cL_law 498 = .ok (.iload_n 3, 1) := by decide +kernel
theorem dL_law_499 : decode cL_law 499 = .ok (.iconst 2, 1) := by decide +kernel
theorem dL_law_500 : decode cL_law 500 = .ok (.iadd, 1) := by decide +kernel
theorem dL_law_501 : decode cL_law 501 = .ok (.iaload, 1) := by decide +kernel
theorem dL_law_502 : decode cL_law 502 = .ok (.aload_n 0, 1) := by decide +kernel
theorem dL_law_503 : decode cL_law 503 = .ok (.iload_n 3, 1) := by decide +kernel
theorem dL_law_504 : decode cL_law 504 = .ok (.iconst 3, 1) := by decide +kernel
theorem dL_law_505 : decode cL_law 505 = .ok (.iadd, 1) := by decide +kernel
theorem dL_law_506 : decode cL_law 506 = .ok (.iaload, 1) := by decide +kernel
theorem dL_law_507 : decode cL_law 507 = .ok (.invokevirtual 64, 3) := by decide +kernel
theorem dL_law_510 : decode cL_law 510 = .ok (.pop, 1) := by decide +kernel
theorem dL_law_511 : decode cL_law 511 = .ok (.aload_n 2, 1) := by decide +kernel
theorem dL_law_512 : decode cL_law 512 = .ok (.aload_n 0, 1) := by decide +kernel
theorem dL_law_513 : decode cL_law 513 = .ok (.iload_n 3, 1) := by decide +kernel
theorem dL_law_514 : decode cL_law 514 = .ok (.iconst 1, 1) := by decide +kernel
theorem dL_law_515 : decode cL_law 515 = .ok (.iadd, 1) := by decide +kernel
theorem dL_law_516 : decode cL_law 516 = .ok (.iaload, 1) := by decide +kernel
theorem dL_law_517 : decode cL_law 517 = .ok (.aload_n 0, 1) := by decide +kernel
theorem dL_law_518 : decode cL_law 518 = .ok (.iload_n 3, 1) := by decide +kernel
theorem dL_law_519 : decode cL_law 519 = .ok (.iconst 2, 1) := by decide +kernel
theorem dL_law_520 : decode cL_law 520 = .ok (.iadd, 1) := by decide +kernel
theorem dL_law_521 : decode cL_law 521 = .ok (.iaload, 1) := by decide +kernel
theorem dL_law_522 : decode cL_law 522 = .ok (.aload_n 0, 1) := by decide +kernel
theorem dL_law_523 : decode cL_law 523 = .ok (.iload_n 3, 1) := by decide +kernel
theorem dL_law_524 : decode cL_law 524 = .ok (.iconst 3, 1) := by decide +kernel
theorem dL_law_525 : decode cL_law 525 = .ok (.iadd, 1) := by decide +kernel
theorem dL_law_526 : decode cL_law 526 = .ok (.iaload, 1) := by decide +kernel
theorem dL_law_527 : decode cL_law 527 = .ok (.invokevirtual 67, 3) := by decide +kernel
theorem dL_law_530 : decode cL_law 530 = .ok (.pop, 1) := by decide +kernel
theorem dL_law_531 : decode cL_law 531 = .ok (.goto 382, 3) := by decide +kernel
theorem dL_law_534 : decode cL_law 534 = .ok (.aload_n 1, 1) := by decide +kernel
theorem dL_law_535 : decode cL_law 535 = .ok (.aload_n 0, 1) := by decide +kernel
theorem dL_law_536 : decode cL_law 536 = .ok (.iload_n 3, 1) := by decide +kernel
theorem dL_law_537 : decode cL_law 537 = .ok (.iconst 1, 1) := by decide +kernel
theorem dL_law_538 : decode cL_law 538 = .ok (.iadd, 1) := by decide +kernel
theorem dL_law_539 : decode cL_law 539 = .ok (.iaload, 1) := by decide +kernel
theorem dL_law_540 : decode cL_law 540 = .ok (.aload_n 0, 1) := by decide +kernel
theorem dL_law_541 : decode cL_law 541 = .ok (.iload_n 3, 1) := by decide +kernel
theorem dL_law_542 : decode cL_law 542 = .ok (.iconst 2, 1) := by decide +kernel
theorem dL_law_543 : decode cL_law 543 = .ok (.iadd, 1) := by decide +kernel
theorem dL_law_544 : decode cL_law 544 = .ok (.iaload, 1) := by decide +kernel
theorem dL_law_545 : decode cL_law 545 = .ok (.aload_n 0, 1) := by decide +kernel
theorem dL_law_546 : decode cL_law 546 = .ok (.iload_n 3, 1) := by decide +kernel
theorem dL_law_547 : decode cL_law 547 = .ok (.iconst 3, 1) := by decide +kernel
theorem dL_law_548 : decode cL_law 548 = .ok (.iadd, 1) := by decide +kernel
theorem dL_law_549 : decode cL_law 549 = .ok (.iaload, 1) := by decide +kernel
theorem dL_law_550 : decode cL_law 550 = .ok (.invokevirtual 68, 3) := by decide +kernel
theorem dL_law_553 : decode cL_law 553 = .ok (.pop, 1) := by decide +kernel
theorem dL_law_554 : decode cL_law 554 = .ok (.aload_n 2, 1) := by decide +kernel
theorem dL_law_555 : decode cL_law 555 = .ok (.aload_n 0, 1) := by decide +kernel
theorem dL_law_556 : decode cL_law 556 = .ok (.iload_n 3, 1) := by decide +kernel
theorem dL_law_557 : decode cL_law 557 = .ok (.iconst 1, 1) := by decide +kernel
theorem dL_law_558 : decode cL_law 558 = .ok (.iadd, 1) := by decide +kernel
theorem dL_law_559 : decode cL_law 559 = .ok (.iaload, 1) := by decide +kernel
theorem dL_law_560 : decode cL_law 560 = .ok (.aload_n 0, 1) := by decide +kernel
theorem dL_law_561 : decode cL_law 561 = .ok (.iload_n 3, 1) := by decide +kernel
theorem dL_law_562 : decode cL_law 562 = .ok (.iconst 2, 1) := by decide +kernel
theorem dL_law_563 : decode cL_law 563 = .ok (.iadd, 1) := by decide +kernel
theorem dL_law_564 : decode cL_law 564 = .ok (.iaload, 1) := by decide +kernel
theorem dL_law_565 : decode cL_law 565 = .ok (.aload_n 0, 1) := by decide +kernel
theorem dL_law_566 : decode cL_law 566 = .ok (.iload_n 3, 1) := by decide +kernel
theorem dL_law_567 : decode cL_law 567 = .ok (.iconst 3, 1) := by decide +kernel
theorem dL_law_568 : decode cL_law 568 = .ok (.iadd, 1) := by decide +kernel
theorem dL_law_569 : decode cL_law 569 = .ok (.iaload, 1) := by decide +kernel
theorem dL_law_570 : decode cL_law 570 = .ok (.invokevirtual 71, 3) := by decide +kernel
theorem dL_law_573 : decode cL_law 573 = .ok (.pop, 1) := by decide +kernel
theorem dL_law_574 : decode cL_law 574 = .ok (.goto 339, 3) := by decide +kernel
theorem dL_law_577 : decode cL_law 577 = .ok (.aload_n 1, 1) := by decide +kernel
theorem dL_law_578 : decode cL_law 578 = .ok (.aload_n 0, 1) := by decide +kernel
theorem dL_law_579 : decode cL_law 579 = .ok (.iload_n 3, 1) := by decide +kernel
theorem dL_law_580 : decode cL_law 580 = .ok (.iconst 1, 1) := by decide +kernel
theorem dL_law_581 : decode cL_law 581 = .ok (.iadd, 1) := by decide +kernel
theorem dL_law_582 : decode cL_law 582 = .ok (.iaload, 1) := by decide +kernel
theorem dL_law_583 : decode cL_law 583 = .ok (.aload_n 0, 1) := by decide +kernel
theorem dL_law_584 : decode cL_law 584 = .ok (.iload_n 3, 1) := by decide +kernel
theorem dL_law_585 : decode cL_law 585 = .ok (.iconst 2, 1) := by decide +kernel
theorem dL_law_586 : decode cL_law 586 = .ok (.iadd, 1) := by decide +kernel
theorem dL_law_587 : decode cL_law 587 = .ok (.iaload, 1) := by decide +kernel
theorem dL_law_588 : decode cL_law 588 = .ok (.aload_n 0, 1) := by decide +kernel
theorem dL_law_589 : decode cL_law 589 = .ok (.iload_n 3, 1) := by decide +kernel
theorem dL_law_590 : decode cL_law 590 = .ok (.iconst 3, 1) := by decide +kernel
theorem dL_law_591 : decode cL_law 591 = .ok (.iadd, 1) := by decide +kernel
theorem dL_law_592 : decode cL_law 592 = .ok (.iaload, 1) := by decide +kernel
theorem dL_law_593 : decode cL_law 593 = .ok (.invokevirtual 72, 3) := by decide +kernel
theorem dL_law_596 : decode cL_law 596 = .ok (.pop, 1) := by decide +kernel
theorem dL_law_597 : decode cL_law 597 = .ok (.aload_n 2, 1) := by decide +kernel
theorem dL_law_598 : decode cL_law 598 = .ok (.aload_n 0, 1) := by decide +kernel
theorem dL_law_599 : decode cL_law 599 = .ok (.iload_n 3, 1) := by decide +kernel
theorem dL_law_600 : decode cL_law 600 = .ok (.iconst 1, 1) := by decide +kernel
theorem dL_law_601 : decode cL_law 601 = .ok (.iadd, 1) := by decide +kernel
theorem dL_law_602 : decode cL_law 602 = .ok (.iaload, 1) := by decide +kernel
theorem dL_law_603 : decode cL_law 603 = .ok (.aload_n 0, 1) := by decide +kernel
theorem dL_law_604 : decode cL_law 604 = .ok (.iload_n 3, 1) := by decide +kernel
theorem dL_law_605 : decode cL_law 605 = .ok (.iconst 2, 1) := by decide +kernel
theorem dL_law_606 : decode cL_law 606 = .ok (.iadd, 1) := by decide +kernel
theorem dL_law_607 : decode cL_law 607 = .ok (.iaload, 1) := by decide +kernel
theorem dL_law_608 : decode cL_law 608 = .ok (.aload_n 0, 1) := by decide +kernel
theorem dL_law_609 : decode cL_law 609 = .ok (.iload_n 3, 1) := by decide +kernel
theorem dL_law_610 : decode cL_law 610 = .ok (.iconst 3, 1) := by decide +kernel
theorem dL_law_611 : decode cL_law 611 = .ok (.iadd, 1) := by decide +kernel
theorem dL_law_612 : decode cL_law 612 = .ok (.iaload, 1) := by decide +kernel
theorem dL_law_613 : decode cL_law 613 = .ok (.invokevirtual 75, 3) := by decide +kernel
theorem dL_law_616 : decode cL_law 616 = .ok (.pop, 1) := by decide +kernel
theorem dL_law_617 : decode cL_law 617 = .ok (.goto 296, 3) := by decide +kernel
theorem dL_law_620 : decode cL_law 620 = .ok (.aload_n 1, 1) := by decide +kernel
theorem dL_law_621 : decode cL_law 621 = .ok (.aload_n 0, 1) := by decide +kernel
theorem dL_law_622 : decode cL_law 622 = .ok (.iload_n 3, 1) := by decide +kernel
theorem dL_law_623 : decode cL_law 623 = .ok (.iconst 1, 1) := by decide +kernel
theorem dL_law_624 : decode cL_law 624 = .ok (.iadd, 1) := by decide +kernel
theorem dL_law_625 : decode cL_law 625 = .ok (.iaload, 1) := by decide +kernel
theorem dL_law_626 : decode cL_law 626 = .ok (.invokevirtual 76, 3) := by decide +kernel
theorem dL_law_629 : decode cL_law 629 = .ok (.pop, 1) := by decide +kernel
theorem dL_law_630 : decode cL_law 630 = .ok (.aload_n 2, 1) := by decide +kernel
theorem dL_law_631 : decode cL_law 631 = .ok (.aload_n 0, 1) := by decide +kernel
theorem dL_law_632 : decode cL_law 632 = .ok (.iload_n 3, 1) := by decide +kernel
theorem dL_law_633 : decode cL_law 633 = .ok (.iconst 1, 1) := by decide +kernel
theorem dL_law_634 : decode cL_law 634 = .ok (.iadd, 1) := by decide +kernel
theorem dL_law_635 : decode cL_law 635 = .ok (.iaload, 1) := by decide +kernel
theorem dL_law_636 : decode cL_law 636 = .ok (.invokevirtual 79, 3) := by decide +kernel
theorem dL_law_639 : decode cL_law 639 = .ok (.pop, 1) := by decide +kernel
theorem dL_law_640 : decode cL_law 640 = .ok (.goto 273, 3) := by decide +kernel
theorem dL_law_643 : decode cL_law 643 = .ok (.aload_n 1, 1) := by decide +kernel
theorem dL_law_644 : decode cL_law 644 = .ok (.aload_n 0, 1) := by decide +kernel
theorem dL_law_645 : decode cL_law 645 = .ok (.iload_n 3, 1) := by decide +kernel
theorem dL_law_646 : decode cL_law 646 = .ok (.iconst 1, 1) := by decide +kernel
theorem dL_law_647 : decode cL_law 647 = .ok (.iadd, 1) := by decide +kernel
theorem dL_law_648 : decode cL_law 648 = .ok (.iaload, 1) := by decide +kernel
theorem dL_law_649 : decode cL_law 649 = .ok (.aload_n 0, 1) := by decide +kernel
theorem dL_law_650 : decode cL_law 650 = .ok (.iload_n 3, 1) := by decide +kernel
theorem dL_law_651 : decode cL_law 651 = .ok (.iconst 2, 1) := by decide +kernel
theorem dL_law_652 : decode cL_law 652 = .ok (.iadd, 1) := by decide +kernel
theorem dL_law_653 : decode cL_law 653 = .ok (.iaload, 1) := by decide +kernel
theorem dL_law_654 : decode cL_law 654 = .ok (.aload_n 0, 1) := by decide +kernel
theorem dL_law_655 : decode cL_law 655 = .ok (.iload_n 3, 1) := by decide +kernel
theorem dL_law_656 : decode cL_law 656 = .ok (.iconst 3, 1) := by decide +kernel
theorem dL_law_657 : decode cL_law 657 = .ok (.iadd, 1) := by decide +kernel
theorem dL_law_658 : decode cL_law 658 = .ok (.iaload, 1) := by decide +kernel
theorem dL_law_659 : decode cL_law 659 = .ok (.invokevirtual 80, 3) := by decide +kernel
theorem dL_law_662 : decode cL_law 662 = .ok (.pop, 1) := by decide +kernel
theorem dL_law_663 : decode cL_law 663 = .ok (.aload_n 2, 1) := by decide +kernel
theorem dL_law_664 : decode cL_law 664 = .ok (.aload_n 0, 1) := by decide +kernel
theorem dL_law_665 : decode cL_law 665 = .ok (.iload_n 3, 1) := by decide +kernel
theorem dL_law_666 : decode cL_law 666 = .ok (.iconst 1, 1) := by decide +kernel
theorem dL_law_667 : decode cL_law 667 = .ok (.iadd, 1) := by decide +kernel
theorem dL_law_668 : decode cL_law 668 = .ok (.iaload, 1) := by decide +kernel
theorem dL_law_669 : decode cL_law 669 = .ok (.aload_n 0, 1) := by decide +kernel
theorem dL_law_670 : decode cL_law 670 = .ok (.iload_n 3, 1) := by decide +kernel
theorem dL_law_671 : decode cL_law 671 = .ok (.iconst 2, 1) := by decide +kernel
theorem dL_law_672 : decode cL_law 672 = .ok (.iadd, 1) := by decide +kernel
theorem dL_law_673 : decode cL_law 673 = .ok (.iaload, 1) := by decide +kernel
theorem dL_law_674 : decode cL_law 674 = .ok (.aload_n 0, 1) := by decide +kernel
theorem dL_law_675 : decode cL_law 675 = .ok (.iload_n 3, 1) := by decide +kernel
theorem dL_law_676 : decode cL_law 676 = .ok (.iconst 3, 1) := by decide +kernel
theorem dL_law_677 : decode cL_law 677 = .ok (.iadd, 1) := by decide +kernel
theorem dL_law_678 : decode cL_law 678 = .ok (.iaload, 1) := by decide +kernel
theorem dL_law_679 : decode cL_law 679 = .ok (.invokevirtual 83, 3) := by decide +kernel
theorem dL_law_682 : decode cL_law 682 = .ok (.pop, 1) := by decide +kernel
theorem dL_law_683 : decode cL_law 683 = .ok (.goto 230, 3) := by decide +kernel
theorem dL_law_686 : decode cL_law 686 = .ok (.aload_n 1, 1) := by decide +kernel
theorem dL_law_687 : decode cL_law 687 = .ok (.aload_n 0, 1) := by decide +kernel
theorem dL_law_688 : decode cL_law 688 = .ok (.iload_n 3, 1) := by decide +kernel
theorem dL_law_689 : decode cL_law 689 = .ok (.iconst 1, 1) := by decide +kernel
theorem dL_law_690 : decode cL_law 690 = .ok (.iadd, 1) := by decide +kernel
theorem dL_law_691 : decode cL_law 691 = .ok (.iaload, 1) := by decide +kernel
theorem dL_law_692 : decode cL_law 692 = .ok (.aload_n 0, 1) := by decide +kernel
theorem dL_law_693 : decode cL_law 693 = .ok (.iload_n 3, 1) := by decide +kernel
theorem dL_law_694 : decode cL_law 694 = .ok (.iconst 2, 1) := by decide +kernel
theorem dL_law_695 : decode cL_law 695 = .ok (.iadd, 1) := by decide +kernel
theorem dL_law_696 : decode cL_law 696 = .ok (.iaload, 1) := by decide +kernel
theorem dL_law_697 : decode cL_law 697 = .ok (.aload_n 0, 1) := by decide +kernel
theorem dL_law_698 : decode cL_law 698 = .ok (.iload_n 3, 1) := by decide +kernel
theorem dL_law_699 : decode cL_law 699 = .ok (.iconst 3, 1) := by decide +kernel
theorem dL_law_700 : decode cL_law 700 = .ok (.iadd, 1) := by decide +kernel
theorem dL_law_701 : decode cL_law 701 = .ok (.iaload, 1) := by decide +kernel
theorem dL_law_702 : decode cL_law 702 = .ok (.invokevirtual 84, 3) := by decide +kernel
theorem dL_law_705 : decode cL_law 705 = .ok (.pop, 1) := by decide +kernel
theorem dL_law_706 : decode cL_law 706 = .ok (.aload_n 2, 1) := by decide +kernel
theorem dL_law_707 : decode cL_law 707 = .ok (.aload_n 0, 1) := by decide +kernel
theorem dL_law_708 : decode cL_law 708 = .ok (.iload_n 3, 1) := by decide +kernel
theorem dL_law_709 : decode cL_law 709 = .ok (.iconst 1, 1) := by decide +kernel
theorem dL_law_710 : decode cL_law 710 = .ok (.iadd, 1) := by decide +kernel
theorem dL_law_711 : decode cL_law 711 = .ok (.iaload, 1) := by decide +kernel
theorem dL_law_712 : decode cL_law 712 = .ok (.aload_n 0, 1) := by decide +kernel
theorem dL_law_713 : decode cL_law 713 = .ok (.iload_n 3, 1) := by decide +kernel
theorem dL_law_714 : decode cL_law 714 = .ok (.iconst 2, 1) := by decide +kernel
theorem dL_law_715 : decode cL_law 715 = .ok (.iadd, 1) := by decide +kernel
theorem dL_law_716 : decode cL_law 716 = .ok (.iaload, 1) := by decide +kernel
theorem dL_law_717 : decode cL_law 717 = .ok (.aload_n 0, 1) := by decide +kernel
theorem dL_law_718 : decode cL_law 718 = .ok (.iload_n 3, 1) := by decide +kernel
theorem dL_law_719 : decode cL_law 719 = .ok (.iconst 3, 1) := by decide +kernel
theorem dL_law_720 : decode cL_law 720 = .ok (.iadd, 1) := by decide +kernel
theorem dL_law_721 : decode cL_law 721 = .ok (.iaload, 1) := by decide +kernel
theorem dL_law_722 : decode cL_law 722 = .ok (.invokevirtual 87, 3) := by decide +kernel
theorem dL_law_725 : decode cL_law 725 = .ok (.pop, 1) := by decide +kernel
theorem dL_law_726 : decode cL_law 726 = .ok (.goto 187, 3) := by decide +kernel
theorem dL_law_729 : decode cL_law 729 = .ok (.aload_n 1, 1) := by decide +kernel
theorem dL_law_730 : decode cL_law 730 = .ok (.invokevirtual 88, 3) := by decide +kernel
theorem dL_law_733 : decode cL_law 733 = .ok (.pop, 1) := by decide +kernel
theorem dL_law_734 : decode cL_law 734 = .ok (.aload_n 2, 1) := by decide +kernel
theorem dL_law_735 : decode cL_law 735 = .ok (.invokevirtual 91, 3) := by decide +kernel
theorem dL_law_738 : decode cL_law 738 = .ok (.pop, 1) := by decide +kernel
theorem dL_law_739 : decode cL_law 739 = .ok (.goto 174, 3) := by decide +kernel
theorem dL_law_742 : decode cL_law 742 = .ok (.aload_n 1, 1) := by decide +kernel
theorem dL_law_743 : decode cL_law 743 = .ok (.aload_n 0, 1) := by decide +kernel
theorem dL_law_744 : decode cL_law 744 = .ok (.iload_n 3, 1) := by decide +kernel
theorem dL_law_745 : decode cL_law 745 = .ok (.iconst 1, 1) := by decide +kernel
theorem dL_law_746 : decode cL_law 746 = .ok (.iadd, 1) := by decide +kernel
theorem dL_law_747 : decode cL_law 747 = .ok (.iaload, 1) := by decide +kernel
theorem dL_law_748 : decode cL_law 748 = .ok (.invokevirtual 92, 3) := by decide +kernel
theorem dL_law_751 : decode cL_law 751 = .ok (.pop, 1) := by decide +kernel
theorem dL_law_752 : decode cL_law 752 = .ok (.aload_n 2, 1) := by decide +kernel
theorem dL_law_753 : decode cL_law 753 = .ok (.aload_n 0, 1) := by decide +kernel
theorem dL_law_754 : decode cL_law 754 = .ok (.iload_n 3, 1) := by decide +kernel
theorem dL_law_755 : decode cL_law 755 = .ok (.iconst 1, 1) := by decide +kernel
theorem dL_law_756 : decode cL_law 756 = .ok (.iadd, 1) := by decide +kernel
theorem dL_law_757 : decode cL_law 757 = .ok (.iaload, 1) := by decide +kernel
theorem dL_law_758 : decode cL_law 758 = .ok (.invokevirtual 95, 3) := by decide +kernel
theorem dL_law_761 : decode cL_law 761 = .ok (.pop, 1) := by decide +kernel
theorem dL_law_762 : decode cL_law 762 = .ok (.goto 151, 3) := by decide +kernel
theorem dL_law_765 : decode cL_law 765 = .ok (.aload_n 1, 1) := by decide +kernel
theorem dL_law_766 : decode cL_law 766 = .ok (.aload_n 0, 1) := by decide +kernel
theorem dL_law_767 : decode cL_law 767 = .ok (.iload_n 3, 1) := by decide +kernel
theorem dL_law_768 : decode cL_law 768 = .ok (.iconst 1, 1) := by decide +kernel
theorem dL_law_769 : decode cL_law 769 = .ok (.iadd, 1) := by decide +kernel
theorem dL_law_770 : decode cL_law 770 = .ok (.iaload, 1) := by decide +kernel
theorem dL_law_771 : decode cL_law 771 = .ok (.aload_n 0, 1) := by decide +kernel
theorem dL_law_772 : decode cL_law 772 = .ok (.iload_n 3, 1) := by decide +kernel
theorem dL_law_773 : decode cL_law 773 = .ok (.iconst 2, 1) := by decide +kernel
theorem dL_law_774 : decode cL_law 774 = .ok (.iadd, 1) := by decide +kernel
theorem dL_law_775 : decode cL_law 775 = .ok (.iaload, 1) := by decide +kernel
theorem dL_law_776 : decode cL_law 776 = .ok (.invokevirtual 96, 3) := by decide +kernel
theorem dL_law_779 : decode cL_law 779 = .ok (.pop, 1) := by decide +kernel
theorem dL_law_780 : decode cL_law 780 = .ok (.aload_n 2, 1) := by decide +kernel
theorem dL_law_781 : decode cL_law 781 = .ok (.aload_n 0, 1) := by decide +kernel
theorem dL_law_782 : decode cL_law 782 = .ok (.iload_n 3, 1) := by decide +kernel
theorem dL_law_783 : decode cL_law 783 = .ok (.iconst 1, 1) := by decide +kernel
theorem dL_law_784 : decode cL_law 784 = .ok (.iadd, 1) := by decide +kernel
theorem dL_law_785 : decode cL_law 785 = .ok (.iaload, 1) := by decide +kernel
theorem dL_law_786 : decode cL_law 786 = .ok (.aload_n 0, 1) := by decide +kernel
theorem dL_law_787 : decode cL_law 787 = .ok (.iload_n 3, 1) := by decide +kernel
theorem dL_law_788 : decode cL_law 788 = .ok (.iconst 2, 1) := by decide +kernel
theorem dL_law_789 : decode cL_law 789 = .ok (.iadd, 1) := by decide +kernel
theorem dL_law_790 : decode cL_law 790 = .ok (.iaload, 1) := by decide +kernel
theorem dL_law_791 : decode cL_law 791 = .ok (.invokevirtual 99, 3) := by decide +kernel
theorem dL_law_794 : decode cL_law 794 = .ok (.pop, 1) := by decide +kernel
theorem dL_law_795 : decode cL_law 795 = .ok (.goto 118, 3) := by decide +kernel
theorem dL_law_798 : decode cL_law 798 = .ok (.aload_n 1, 1) := by decide +kernel
theorem dL_law_799 : decode cL_law 799 = .ok (.aload_n 0, 1) := by decide +kernel
theorem dL_law_800 : decode cL_law 800 = .ok (.iload_n 3, 1) := by decide +kernel
theorem dL_law_801 : decode cL_law 801 = .ok (.iconst 1, 1) := by decide +kernel
theorem dL_law_802 : decode cL_law 802 = .ok (.iadd, 1) := by decide +kernel
theorem dL_law_803 : decode cL_law 803 = .ok (.iaload, 1) := by decide +kernel
theorem dL_law_804 : decode cL_law 804 = .ok (.invokevirtual 100, 3) := by decide +kernel
theorem dL_law_807 : decode cL_law 807 = .ok (.pop, 1) := by decide +kernel
theorem dL_law_808 : decode cL_law 808 = .ok (.aload_n 2, 1) := by decide +kernel
theorem dL_law_809 : decode cL_law 809 = .ok (.aload_n 0, 1) := by decide +kernel
theorem dL_law_810 : decode cL_law 810 = .ok (.iload_n 3, 1) := by decide +kernel
theorem dL_law_811 : decode cL_law 811 = .ok (.iconst 1, 1) := by decide +kernel
theorem dL_law_812 : decode cL_law 812 = .ok (.iadd, 1) := by decide +kernel
theorem dL_law_813 : decode cL_law 813 = .ok (.iaload, 1) := by decide +kernel
theorem dL_law_814 : decode cL_law 814 = .ok (.invokevirtual 103, 3) := by decide +kernel
theorem dL_law_817 : decode cL_law 817 = .ok (.pop, 1) := by decide +kernel
theorem dL_law_818 : decode cL_law 818 = .ok (.goto 95, 3) := by decide +kernel
theorem dL_law_821 : decode cL_law 821 = .ok (.aload_n 1, 1) := by decide +kernel
theorem dL_law_822 : decode cL_law 822 = .ok (.aload_n 0, 1) := by decide +kernel
theorem dL_law_823 : decode cL_law 823 = .ok (.iload_n 3, 1) := by decide +kernel
theorem dL_law_824 : decode cL_law 824 = .ok (.iconst 1, 1) := by decide +kernel
theorem dL_law_825 : decode cL_law 825 = .ok (.iadd, 1) := by decide +kernel
theorem dL_law_826 : decode cL_law 826 = .ok (.iaload, 1) := by decide +kernel
theorem dL_law_827 : decode cL_law 827 = .ok (.invokevirtual 104, 3) := by decide +kernel
theorem dL_law_830 : decode cL_law 830 = .ok (.pop, 1) := by decide +kernel
theorem dL_law_831 : decode cL_law 831 = .ok (.aload_n 2, 1) := by decide +kernel
theorem dL_law_832 : decode cL_law 832 = .ok (.aload_n 0, 1) := by decide +kernel
theorem dL_law_833 : decode cL_law 833 = .ok (.iload_n 3, 1) := by decide +kernel
theorem dL_law_834 : decode cL_law 834 = .ok (.iconst 1, 1) := by decide +kernel
theorem dL_law_835 : decode cL_law 835 = .ok (.iadd, 1) := by decide +kernel
theorem dL_law_836 : decode cL_law 836 = .ok (.iaload, 1) := by decide +kernel
theorem dL_law_837 : decode cL_law 837 = .ok (.invokevirtual 107, 3) := by decide +kernel
theorem dL_law_840 : decode cL_law 840 = .ok (.pop, 1) := by decide +kernel
theorem dL_law_841 : decode cL_law 841 = .ok (.goto 72, 3) := by decide +kernel
theorem dL_law_844 : decode cL_law 844 = .ok (.aload_n 1, 1) := by decide +kernel
theorem dL_law_845 : decode cL_law 845 = .ok (.aload_n 0, 1) := by decide +kernel
theorem dL_law_846 : decode cL_law 846 = .ok (.iload_n 3, 1) := by decide +kernel
theorem dL_law_847 : decode cL_law 847 = .ok (.iconst 1, 1) := by decide +kernel
theorem dL_law_848 : decode cL_law 848 = .ok (.iadd, 1) := by decide +kernel
theorem dL_law_849 : decode cL_law 849 = .ok (.iaload, 1) := by decide +kernel
theorem dL_law_850 : decode cL_law 850 = .ok (.aload_n 0, 1) := by decide +kernel
theorem dL_law_851 : decode cL_law 851 = .ok (.iload_n 3, 1) := by decide +kernel
theorem dL_law_852 : decode cL_law 852 = .ok (.iconst 2, 1) := by decide +kernel
theorem dL_law_853 : decode cL_law 853 = .ok (.iadd, 1) := by decide +kernel
theorem dL_law_854 : decode cL_law 854 = .ok (.iaload, 1) := by decide +kernel
theorem dL_law_855 : decode cL_law 855 = .ok (.invokevirtual 108, 3) := by decide +kernel
theorem dL_law_858 : decode cL_law 858 = .ok (.pop, 1) := by decide +kernel
theorem dL_law_859 : decode cL_law 859 = .ok (.aload_n 2, 1) := by decide +kernel
theorem dL_law_860 : decode cL_law 860 = .ok (.aload_n 0, 1) := by decide +kernel
theorem dL_law_861 : decode cL_law 861 = .ok (.iload_n 3, 1) := by decide +kernel
theorem dL_law_862 : decode cL_law 862 = .ok (.iconst 1, 1) := by decide +kernel
theorem dL_law_863 : decode cL_law 863 = .ok (.iadd, 1) := by decide +kernel
theorem dL_law_864 : decode cL_law 864 = .ok (.iaload, 1) := by decide +kernel
theorem dL_law_865 : decode cL_law 865 = .ok (.aload_n 0, 1) := by decide +kernel
theorem dL_law_866 : decode cL_law 866 = .ok (.iload_n 3, 1) := by decide +kernel
theorem dL_law_867 : decode cL_law 867 = .ok (.iconst 2, 1) := by decide +kernel
theorem dL_law_868 : decode cL_law 868 = .ok (.iadd, 1) := by decide +kernel
theorem dL_law_869 : decode cL_law 869 = .ok (.iaload, 1) := by decide +kernel
theorem dL_law_870 : decode cL_law 870 = .ok (.invokevirtual 111, 3) := by decide +kernel
theorem dL_law_873 : decode cL_law 873 = .ok (.pop, 1) := by decide +kernel
theorem dL_law_874 : decode cL_law 874 = .ok (.goto 39, 3) := by decide +kernel
theorem dL_law_877 : decode cL_law 877 = .ok (.aload_n 1, 1) := by decide +kernel
theorem dL_law_878 : decode cL_law 878 = .ok (.aload_n 0, 1) := by decide +kernel
theorem dL_law_879 : decode cL_law 879 = .ok (.iload_n 3, 1) := by decide +kernel
theorem dL_law_880 : decode cL_law 880 = .ok (.iconst 1, 1) := by decide +kernel
theorem dL_law_881 : decode cL_law 881 = .ok (.iadd, 1) := by decide +kernel
theorem dL_law_882 : decode cL_law 882 = .ok (.iaload, 1) := by decide +kernel
theorem dL_law_883 : decode cL_law 883 = .ok (.invokevirtual 112, 3) := by decide +kernel
theorem dL_law_886 : decode cL_law 886 = .ok (.pop, 1) := by decide +kernel
theorem dL_law_887 : decode cL_law 887 = .ok (.aload_n 2, 1) := by decide +kernel
theorem dL_law_888 : decode cL_law 888 = .ok (.aload_n 0, 1) := by decide +kernel
theorem dL_law_889 : decode cL_law 889 = .ok (.iload_n 3, 1) := by decide +kernel
theorem dL_law_890 : decode cL_law 890 = .ok (.iconst 1, 1) := by decide +kernel
theorem dL_law_891 : decode cL_law 891 = .ok (.iadd, 1) := by decide +kernel
theorem dL_law_892 : decode cL_law 892 = .ok (.iaload, 1) := by decide +kernel
theorem dL_law_893 : decode cL_law 893 = .ok (.invokevirtual 115, 3) := by decide +kernel
theorem dL_law_896 : decode cL_law 896 = .ok (.pop, 1) := by decide +kernel
theorem dL_law_897 : decode cL_law 897 = .ok (.goto 16, 3) := by decide +kernel
theorem dL_law_900 : decode cL_law 900 = .ok (.aload_n 1, 1) := by decide +kernel
theorem dL_law_901 : decode cL_law 901 = .ok (.invokevirtual 116, 3) := by decide +kernel
theorem dL_law_904 : decode cL_law 904 = .ok (.pop2, 1) := by decide +kernel
theorem dL_law_905 : decode cL_law 905 = .ok (.aload_n 2, 1) := by decide +kernel
theorem dL_law_906 : decode cL_law 906 = .ok (.invokevirtual 120, 3) := by decide +kernel
theorem dL_law_909 : decode cL_law 909 = .ok (.pop2, 1) := by decide +kernel
theorem dL_law_910 : decode cL_law 910 = .ok (.goto 3, 3) := by decide +kernel
theorem dL_law_913 : decode cL_law 913 = .ok (.iinc 3 4, 3) := by decide +kernel
theorem dL_law_916 : decode cL_law 916 = .ok (.goto (-898), 3) := by decide +kernel
theorem dL_law_919 : decode cL_law 919 = .ok (.iconst 1, 1) := by decide +kernel
theorem dL_law_920 : decode cL_law 920 = .ok (.ireturn, 1) := by decide +kernel

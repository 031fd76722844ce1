theorem d_La_cell1_0 : decode c_La_cell1 0 = .ok (.iload_n 1, 1) := by decide +kernel
theorem d_La_cell1_1 : decode c_La_cell1 1 = .ok (.aload_n 0, 1) := by decide +kernel
theorem d_La_cell1_2 : decode c_La_cell1 2 = .ok (.arraylength, 1) := by decide +kernel
theorem d_La_cell1_3 : decode c_La_cell1 3 = .ok (.if_icmp .ge 9, 3) := by decide +kernel
theorem d_La_cell1_6 : decode c_La_cell1 6 = .ok (.aload_n 0, 1) := by decide +kernel
theorem d_La_cell1_7 : decode c_La_cell1 7 = .ok (.iload_n 1, 1) := by decide +kernel
theorem d_La_cell1_8 : decode c_La_cell1 8 = .ok (.iaload, 1) := by decide +kernel
theorem d_La_cell1_9 : decode c_La_cell1 9 = .ok (.goto 4, 3) := by decide +kernel
theorem d_La_cell1_12 : decode c_La_cell1 12 = .ok (.iconst 0, 1) := by decide +kernel
theorem d_La_cell1_13 : decode c_La_cell1 13 = .ok (.ireturn, 1) := by decide +kernel
theorem d_La_cell2_0 : decode c_La_cell2 0 = .ok (.aload 4, 2) := by decide +kernel
theorem d_La_cell2_2 : decode c_La_cell2 2 = .ok (.iconst 0, 1) := by decide +kernel
theorem d_La_cell2_3 : decode c_La_cell2 3 = .ok (.aload_n 0, 1) := by decide +kernel
theorem d_La_cell2_4 : decode c_La_cell2 4 = .ok (.lload_n 1, 1) := by decide +kernel
theorem d_La_cell2_5 : decode c_La_cell2 5 = .ok (.iload_n 3, 1) := by decide +kernel
theorem d_La_cell2_6 : decode c_La_cell2 6 = .ok (.invokevirtual 7, 3) := by decide +kernel
theorem d_La_cell2_9 : decode c_La_cell2 9 = .ok (.i2l, 1) := by decide +kernel
theorem d_La_cell2_10 : decode c_La_cell2 10 = .ok (.lastore, 1) := by decide +kernel
theorem d_La_cell2_11 : decode c_La_cell2 11 = .ok (.goto 11, 3) := by decide +kernel
theorem d_La_cell2_14 : decode c_La_cell2 14 = .ok (.astore 5, 2) := by decide +kernel
theorem d_La_cell2_16 : decode c_La_cell2 16 = .ok (.iconst 1, 1) := by decide +kernel
theorem d_La_cell2_17 : decode c_La_cell2 17 = .ok (.ireturn, 1) := by decide +kernel
theorem d_La_cell2_18 : decode c_La_cell2 18 = .ok (.astore 5, 2) := by decide +kernel
theorem d_La_cell2_20 : decode c_La_cell2 20 = .ok (.iconst 2, 1) := by decide +kernel
theorem d_La_cell2_21 : decode c_La_cell2 21 = .ok (.ireturn, 1) := by decide +kernel
theorem d_La_cell2_22 : decode c_La_cell2 22 = .ok (.iconst 0, 1) := by decide +kernel
theorem d_La_cell2_23 : decode c_La_cell2 23 = .ok (.ireturn, 1) := by decide +kernel
theorem d_La_want_0 : decode c_La_want 0 = .ok (.aload 5, 2) := by decide +kernel
theorem d_La_want_2 : decode c_La_want 2 = .ok (.iconst 0, 1) := by decide +kernel
theorem d_La_want_3 : decode c_La_want 3 = .ok (.aload_n 0, 1) := by decide +kernel
theorem d_La_want_4 : decode c_La_want 4 = .ok (.iload_n 1, 1) := by decide +kernel
theorem d_La_want_5 : decode c_La_want 5 = .ok (.lload_n 2, 1) := by decide +kernel
theorem d_La_want_6 : decode c_La_want 6 = .ok (.iload 4, 2) := by decide +kernel
theorem d_La_want_8 : decode c_La_want 8 = .ok (.invokevirtual 17, 3) := by decide +kernel
theorem d_La_want_11 : decode c_La_want 11 = .ok (.ifCond .eq 7, 3) := by decide +kernel
theorem d_La_want_14 : decode c_La_want 14 = .ok (.lconst 1, 1) := by decide +kernel
theorem d_La_want_15 : decode c_La_want 15 = .ok (.goto 4, 3) := by decide +kernel
theorem d_La_want_18 : decode c_La_want 18 = .ok (.lconst 0, 1) := by decide +kernel
theorem d_La_want_19 : decode c_La_want 19 = .ok (.lastore, 1) := by decide +kernel
theorem d_La_want_20 : decode c_La_want 20 = .ok (.goto 7, 3) := by decide +kernel
theorem d_La_want_23 : decode c_La_want 23 = .ok (.astore 6, 2) := by decide +kernel
theorem d_La_want_25 : decode c_La_want 25 = .ok (.iconst 1, 1) := by decide +kernel
theorem d_La_want_26 : decode c_La_want 26 = .ok (.ireturn, 1) := by decide +kernel
theorem d_La_want_27 : decode c_La_want 27 = .ok (.iconst 0, 1) := by decide +kernel
theorem d_La_want_28 : decode c_La_want 28 = .ok (.ireturn, 1) := by decide +kernel
theorem d_La_bar_0 : decode c_La_bar 0 = .ok (.aload 6, 2) := by decide +kernel
theorem d_La_bar_2 : decode c_La_bar 2 = .ok (.iconst 0, 1) := by decide +kernel
theorem d_La_bar_3 : decode c_La_bar 3 = .ok (.aload_n 0, 1) := by decide +kernel
theorem d_La_bar_4 : decode c_La_bar 4 = .ok (.iload_n 1, 1) := by decide +kernel
theorem d_La_bar_5 : decode c_La_bar 5 = .ok (.lload_n 2, 1) := by decide +kernel
theorem d_La_bar_6 : decode c_La_bar 6 = .ok (.lload 4, 2) := by decide +kernel
theorem d_La_bar_8 : decode c_La_bar 8 = .ok (.invokevirtual 23, 3) := by decide +kernel
theorem d_La_bar_11 : decode c_La_bar 11 = .ok (.ifCond .eq 7, 3) := by decide +kernel
theorem d_La_bar_14 : decode c_La_bar 14 = .ok (.lconst 1, 1) := by decide +kernel
theorem d_La_bar_15 : decode c_La_bar 15 = .ok (.goto 4, 3) := by decide +kernel
theorem d_La_bar_18 : decode c_La_bar 18 = .ok (.lconst 0, 1) := by decide +kernel
theorem d_La_bar_19 : decode c_La_bar 19 = .ok (.lastore, 1) := by decide +kernel
theorem d_La_bar_20 : decode c_La_bar 20 = .ok (.goto 7, 3) := by decide +kernel
theorem d_La_bar_23 : decode c_La_bar 23 = .ok (.astore 7, 2) := by decide +kernel
theorem d_La_bar_25 : decode c_La_bar 25 = .ok (.iconst 1, 1) := by decide +kernel
theorem d_La_bar_26 : decode c_La_bar 26 = .ok (.ireturn, 1) := by decide +kernel
theorem d_La_bar_27 : decode c_La_bar 27 = .ok (.iconst 0, 1) := by decide +kernel
theorem d_La_bar_28 : decode c_La_bar 28 = .ok (.ireturn, 1) := by decide +kernel
theorem d_La_kind_0 : decode c_La_kind 0 = .ok (.aload 4, 2) := by decide +kernel
theorem d_La_kind_2 : decode c_La_kind 2 = .ok (.iconst 0, 1) := by decide +kernel
theorem d_La_kind_3 : decode c_La_kind 3 = .ok (.aload_n 0, 1) := by decide +kernel
theorem d_La_kind_4 : decode c_La_kind 4 = .ok (.iload_n 1, 1) := by decide +kernel
theorem d_La_kind_5 : decode c_La_kind 5 = .ok (.iload_n 2, 1) := by decide +kernel
theorem d_La_kind_6 : decode c_La_kind 6 = .ok (.iload_n 3, 1) := by decide +kernel
theorem d_La_kind_7 : decode c_La_kind 7 = .ok (.invokevirtual 27, 3) := by decide +kernel
theorem d_La_kind_10 : decode c_La_kind 10 = .ok (.ifCond .eq 7, 3) := by decide +kernel
theorem d_La_kind_13 : decode c_La_kind 13 = .ok (.lconst 1, 1) := by decide +kernel
theorem d_La_kind_14 : decode c_La_kind 14 = .ok (.goto 4, 3) := by decide +kernel
theorem d_La_kind_17 : decode c_La_kind 17 = .ok (.lconst 0, 1) := by decide +kernel
theorem d_La_kind_18 : decode c_La_kind 18 = .ok (.lastore, 1) := by decide +kernel
theorem d_La_kind_19 : decode c_La_kind 19 = .ok (.goto 11, 3) := by decide +kernel
theorem d_La_kind_22 : decode c_La_kind 22 = .ok (.astore 5, 2) := by decide +kernel
theorem d_La_kind_24 : decode c_La_kind 24 = .ok (.iconst 1, 1) := by decide +kernel
theorem d_La_kind_25 : decode c_La_kind 25 = .ok (.ireturn, 1) := by decide +kernel
theorem d_La_kind_26 : decode c_La_kind 26 = .ok (.astore 5, 2) := by decide +kernel
theorem d_La_kind_28 : decode c_La_kind 28 = .ok (.iconst 2, 1) := by decide +kernel
theorem d_La_kind_29 : decode c_La_kind 29 = .ok (.ireturn, 1) := by decide +kernel
theorem d_La_kind_30 : decode c_La_kind 30 = .ok (.iconst 0, 1) := by decide +kernel
theorem d_La_kind_31 : decode c_La_kind 31 = .ok (.ireturn, 1) := by decide +kernel
theorem d_La_space_0 : decode c_La_space 0 = .ok (.aload 5, 2) := by decide +kernel
theorem d_La_space_2 : decode c_La_space 2 = .ok (.iconst 0, 1) := by decide +kernel
theorem d_La_space_3 : decode c_La_space 3 = .ok (.aload_n 0, 1) := by decide +kernel
theorem d_La_space_4 : decode c_La_space 4 = .ok (.iload_n 1, 1) := by decide +kernel
theorem d_La_space_5 : decode c_La_space 5 = .ok (.iload_n 2, 1) := by decide +kernel
theorem d_La_space_6 : decode c_La_space 6 = .ok (.lload_n 3, 1) := by decide +kernel
theorem d_La_space_7 : decode c_La_space 7 = .ok (.invokevirtual 31, 3) := by decide +kernel
theorem d_La_space_10 : decode c_La_space 10 = .ok (.ifCond .eq 7, 3) := by decide +kernel
theorem d_La_space_13 : decode c_La_space 13 = .ok (.lconst 1, 1) := by decide +kernel
theorem d_La_space_14 : decode c_La_space 14 = .ok (.goto 4, 3) := by decide +kernel
theorem d_La_space_17 : decode c_La_space 17 = .ok (.lconst 0, 1) := by decide +kernel
theorem d_La_space_18 : decode c_La_space 18 = .ok (.lastore, 1) := by decide +kernel
theorem d_La_space_19 : decode c_La_space 19 = .ok (.goto 7, 3) := by decide +kernel
theorem d_La_space_22 : decode c_La_space 22 = .ok (.astore 6, 2) := by decide +kernel
theorem d_La_space_24 : decode c_La_space 24 = .ok (.iconst 1, 1) := by decide +kernel
theorem d_La_space_25 : decode c_La_space 25 = .ok (.ireturn, 1) := by decide +kernel
theorem d_La_space_26 : decode c_La_space 26 = .ok (.iconst 0, 1) := by decide +kernel
theorem d_La_space_27 : decode c_La_space 27 = .ok (.ireturn, 1) := by decide +kernel
theorem d_La_at_0 : decode c_La_at 0 = .ok (.aload_n 2, 1) := by decide +kernel
theorem d_La_at_1 : decode c_La_at 1 = .ok (.iconst 0, 1) := by decide +kernel
theorem d_La_at_2 : decode c_La_at 2 = .ok (.aload_n 0, 1) := by decide +kernel
theorem d_La_at_3 : decode c_La_at 3 = .ok (.iload_n 1, 1) := by decide +kernel
theorem d_La_at_4 : decode c_La_at 4 = .ok (.invokevirtual 35, 3) := by decide +kernel
theorem d_La_at_7 : decode c_La_at 7 = .ok (.lastore, 1) := by decide +kernel
theorem d_La_at_8 : decode c_La_at 8 = .ok (.goto 9, 3) := by decide +kernel
theorem d_La_at_11 : decode c_La_at 11 = .ok (.astore_n 3, 1) := by decide +kernel
theorem d_La_at_12 : decode c_La_at 12 = .ok (.iconst 1, 1) := by decide +kernel
theorem d_La_at_13 : decode c_La_at 13 = .ok (.ireturn, 1) := by decide +kernel
theorem d_La_at_14 : decode c_La_at 14 = .ok (.astore_n 3, 1) := by decide +kernel
theorem d_La_at_15 : decode c_La_at 15 = .ok (.iconst 2, 1) := by decide +kernel
theorem d_La_at_16 : decode c_La_at 16 = .ok (.ireturn, 1) := by decide +kernel
theorem d_La_at_17 : decode c_La_at 17 = .ok (.iconst 0, 1) := by decide +kernel
theorem d_La_at_18 : decode c_La_at 18 = .ok (.ireturn, 1) := by decide +kernel
theorem d_La_rowOf_0 : decode c_La_rowOf 0 = .ok (.aload_n 2, 1) := by decide +kernel
theorem d_La_rowOf_1 : decode c_La_rowOf 1 = .ok (.iconst 0, 1) := by decide +kernel
theorem d_La_rowOf_2 : decode c_La_rowOf 2 = .ok (.aload_n 0, 1) := by decide +kernel
theorem d_La_rowOf_3 : decode c_La_rowOf 3 = .ok (.iload_n 1, 1) := by decide +kernel
theorem d_La_rowOf_4 : decode c_La_rowOf 4 = .ok (.invokevirtual 39, 3) := by decide +kernel
theorem d_La_rowOf_7 : decode c_La_rowOf 7 = .ok (.i2l, 1) := by decide +kernel
theorem d_La_rowOf_8 : decode c_La_rowOf 8 = .ok (.lastore, 1) := by decide +kernel
theorem d_La_rowOf_9 : decode c_La_rowOf 9 = .ok (.goto 9, 3) := by decide +kernel
theorem d_La_rowOf_12 : decode c_La_rowOf 12 = .ok (.astore_n 3, 1) := by decide +kernel
theorem d_La_rowOf_13 : decode c_La_rowOf 13 = .ok (.iconst 1, 1) := by decide +kernel
theorem d_La_rowOf_14 : decode c_La_rowOf 14 = .ok (.ireturn, 1) := by decide +kernel
theorem d_La_rowOf_15 : decode c_La_rowOf 15 = .ok (.astore_n 3, 1) := by decide +kernel
theorem d_La_rowOf_16 : decode c_La_rowOf 16 = .ok (.iconst 2, 1) := by decide +kernel
theorem d_La_rowOf_17 : decode c_La_rowOf 17 = .ok (.ireturn, 1) := by decide +kernel
theorem d_La_rowOf_18 : decode c_La_rowOf 18 = .ok (.iconst 0, 1) := by decide +kernel
theorem d_La_rowOf_19 : decode c_La_rowOf 19 = .ok (.ireturn, 1) := by decide +kernel
theorem d_La_moved_0 : decode c_La_moved 0 = .ok (.aload_n 1, 1) := by decide +kernel
theorem d_La_moved_1 : decode c_La_moved 1 = .ok (.iconst 0, 1) := by decide +kernel
theorem d_La_moved_2 : decode c_La_moved 2 = .ok (.aload_n 0, 1) := by decide +kernel
theorem d_La_moved_3 : decode c_La_moved 3 = .ok (.invokevirtual 43, 3) := by decide +kernel
theorem d_La_moved_6 : decode c_La_moved 6 = .ok (.lastore, 1) := by decide +kernel
theorem d_La_moved_7 : decode c_La_moved 7 = .ok (.goto 6, 3) := by decide +kernel
theorem d_La_moved_10 : decode c_La_moved 10 = .ok (.astore_n 2, 1) := by decide +kernel
theorem d_La_moved_11 : decode c_La_moved 11 = .ok (.iconst 1, 1) := by decide +kernel
theorem d_La_moved_12 : decode c_La_moved 12 = .ok (.ireturn, 1) := by decide +kernel
theorem d_La_moved_13 : decode c_La_moved 13 = .ok (.iconst 0, 1) := by decide +kernel
theorem d_La_moved_14 : decode c_La_moved 14 = .ok (.ireturn, 1) := by decide +kernel
theorem d_La_mirrored_0 : decode c_La_mirrored 0 = .ok (.aload_n 2, 1) := by decide +kernel
theorem d_La_mirrored_1 : decode c_La_mirrored 1 = .ok (.iconst 0, 1) := by decide +kernel
theorem d_La_mirrored_2 : decode c_La_mirrored 2 = .ok (.aload_n 0, 1) := by decide +kernel
theorem d_La_mirrored_3 : decode c_La_mirrored 3 = .ok (.iload_n 1, 1) := by decide +kernel
theorem d_La_mirrored_4 : decode c_La_mirrored 4 = .ok (.invokevirtual 47, 3) := by decide +kernel
theorem d_La_mirrored_7 : decode c_La_mirrored 7 = .ok (.ifCond .eq 7, 3) := by decide +kernel
theorem d_La_mirrored_10 : decode c_La_mirrored 10 = .ok (.lconst 1, 1) := by decide +kernel
theorem d_La_mirrored_11 : decode c_La_mirrored 11 = .ok (.goto 4, 3) := by decide +kernel
theorem d_La_mirrored_14 : decode c_La_mirrored 14 = .ok (.lconst 0, 1) := by decide +kernel
theorem d_La_mirrored_15 : decode c_La_mirrored 15 = .ok (.lastore, 1) := by decide +kernel
theorem d_La_mirrored_16 : decode c_La_mirrored 16 = .ok (.goto 9, 3) := by decide +kernel
theorem d_La_mirrored_19 : decode c_La_mirrored 19 = .ok (.astore_n 3, 1) := by decide +kernel
theorem d_La_mirrored_20 : decode c_La_mirrored 20 = .ok (.iconst 1, 1) := by decide +kernel
theorem d_La_mirrored_21 : decode c_La_mirrored 21 = .ok (.ireturn, 1) := by decide +kernel
theorem d_La_mirrored_22 : decode c_La_mirrored 22 = .ok (.astore_n 3, 1) := by decide +kernel
theorem d_La_mirrored_23 : decode c_La_mirrored 23 = .ok (.iconst 2, 1) := by decide +kernel
theorem d_La_mirrored_24 : decode c_La_mirrored 24 = .ok (.ireturn, 1) := by decide +kernel
theorem d_La_mirrored_25 : decode c_La_mirrored 25 = .ok (.iconst 0, 1) := by decide +kernel
theorem d_La_mirrored_26 : decode c_La_mirrored 26 = .ok (.ireturn, 1) := by decide +kernel
theorem d_La_improve_0 : decode c_La_improve 0 = .ok (.aload_n 2, 1) := by decide +kernel
theorem d_La_improve_1 : decode c_La_improve 1 = .ok (.iconst 0, 1) := by decide +kernel
theorem d_La_improve_2 : decode c_La_improve 2 = .ok (.aload_n 0, 1) := by decide +kernel
theorem d_La_improve_3 : decode c_La_improve 3 = .ok (.iload_n 1, 1) := by decide +kernel
theorem d_La_improve_4 : decode c_La_improve 4 = .ok (.invokevirtual 51, 3) := by decide +kernel
theorem d_La_improve_7 : decode c_La_improve 7 = .ok (.i2l, 1) := by decide +kernel
theorem d_La_improve_8 : decode c_La_improve 8 = .ok (.lastore, 1) := by decide +kernel
theorem d_La_improve_9 : decode c_La_improve 9 = .ok (.goto 9, 3) := by decide +kernel
theorem d_La_improve_12 : decode c_La_improve 12 = .ok (.astore_n 3, 1) := by decide +kernel
theorem d_La_improve_13 : decode c_La_improve 13 = .ok (.iconst 1, 1) := by decide +kernel
theorem d_La_improve_14 : decode c_La_improve 14 = .ok (.ireturn, 1) := by decide +kernel
theorem d_La_improve_15 : decode c_La_improve 15 = .ok (.astore_n 3, 1) := by decide +kernel
theorem d_La_improve_16 : decode c_La_improve 16 = .ok (.iconst 2, 1) := by decide +kernel
theorem d_La_improve_17 : decode c_La_improve 17 = .ok (.ireturn, 1) := by decide +kernel
theorem d_La_improve_18 : decode c_La_improve 18 = .ok (.iconst 0, 1) := by decide +kernel
theorem d_La_improve_19 : decode c_La_improve 19 = .ok (.ireturn, 1) := by decide +kernel
theorem d_La_net_0 : decode c_La_net 0 = .ok (.aload_n 3, 1) := by decide +kernel
theorem d_La_net_1 : decode c_La_net 1 = .ok (.iconst 0, 1) := by decide +kernel
theorem d_La_net_2 : decode c_La_net 2 = .ok (.aload_n 0, 1) := by decide +kernel
theorem d_La_net_3 : decode c_La_net 3 = .ok (.iload_n 1, 1) := by decide +kernel
theorem d_La_net_4 : decode c_La_net 4 = .ok (.iload_n 2, 1) := by decide +kernel
theorem d_La_net_5 : decode c_La_net 5 = .ok (.invokevirtual 54, 3) := by decide +kernel
theorem d_La_net_8 : decode c_La_net 8 = .ok (.i2l, 1) := by decide +kernel
theorem d_La_net_9 : decode c_La_net 9 = .ok (.lastore, 1) := by decide +kernel
theorem d_La_net_10 : decode c_La_net 10 = .ok (.goto 15, 3) := by decide +kernel
theorem d_La_net_13 : decode c_La_net 13 = .ok (.astore 4, 2) := by decide +kernel
theorem d_La_net_15 : decode c_La_net 15 = .ok (.iconst 1, 1) := by decide +kernel
theorem d_La_net_16 : decode c_La_net 16 = .ok (.ireturn, 1) := by decide +kernel
theorem d_La_net_17 : decode c_La_net 17 = .ok (.astore 4, 2) := by decide +kernel
theorem d_La_net_19 : decode c_La_net 19 = .ok (.iconst 2, 1) := by decide +kernel
theorem d_La_net_20 : decode c_La_net 20 = .ok (.ireturn, 1) := by decide +kernel
theorem d_La_net_21 : decode c_La_net 21 = .ok (.astore 4, 2) := by decide +kernel
theorem d_La_net_23 : decode c_La_net 23 = .ok (.iconst 3, 1) := by decide +kernel
theorem d_La_net_24 : decode c_La_net 24 = .ok (.ireturn, 1) := by decide +kernel
theorem d_La_net_25 : decode c_La_net 25 = .ok (.iconst 0, 1) := by decide +kernel
theorem d_La_net_26 : decode c_La_net 26 = .ok (.ireturn, 1) := by decide +kernel
theorem d_La_wire_0 : decode c_La_wire 0 = .ok (.aload_n 1, 1) := by decide +kernel
theorem d_La_wire_1 : decode c_La_wire 1 = .ok (.iconst 0, 1) := by decide +kernel
theorem d_La_wire_2 : decode c_La_wire 2 = .ok (.aload_n 0, 1) := by decide +kernel
theorem d_La_wire_3 : decode c_La_wire 3 = .ok (.invokevirtual 58, 3) := by decide +kernel
theorem d_La_wire_6 : decode c_La_wire 6 = .ok (.lastore, 1) := by decide +kernel
theorem d_La_wire_7 : decode c_La_wire 7 = .ok (.goto 6, 3) := by decide +kernel
theorem d_La_wire_10 : decode c_La_wire 10 = .ok (.astore_n 2, 1) := by decide +kernel
theorem d_La_wire_11 : decode c_La_wire 11 = .ok (.iconst 1, 1) := by decide +kernel
theorem d_La_wire_12 : decode c_La_wire 12 = .ok (.ireturn, 1) := by decide +kernel
theorem d_La_wire_13 : decode c_La_wire 13 = .ok (.iconst 0, 1) := by decide +kernel
theorem d_La_wire_14 : decode c_La_wire 14 = .ok (.ireturn, 1) := by decide +kernel
theorem d_La_overlap_0 : decode c_La_overlap 0 = .ok (.aload_n 1, 1) := by decide +kernel
theorem d_La_overlap_1 : decode c_La_overlap 1 = .ok (.iconst 0, 1) := by decide +kernel
theorem d_La_overlap_2 : decode c_La_overlap 2 = .ok (.aload_n 0, 1) := by decide +kernel
theorem d_La_overlap_3 : decode c_La_overlap 3 = .ok (.invokevirtual 61, 3) := by decide +kernel
theorem d_La_overlap_6 : decode c_La_overlap 6 = .ok (.ifCond .eq 7, 3) := by decide +kernel
theorem d_La_overlap_9 : decode c_La_overlap 9 = .ok (.lconst 1, 1) := by decide +kernel
theorem d_La_overlap_10 : decode c_La_overlap 10 = .ok (.goto 4, 3) := by decide +kernel
theorem d_La_overlap_13 : decode c_La_overlap 13 = .ok (.lconst 0, 1) := by decide +kernel
theorem d_La_overlap_14 : decode c_La_overlap 14 = .ok (.lastore, 1) := by decide +kernel
theorem d_La_overlap_15 : decode c_La_overlap 15 = .ok (.goto 6, 3) := by decide +kernel
theorem d_La_overlap_18 : decode c_La_overlap 18 = .ok (.astore_n 2, 1) := by decide +kernel
theorem d_La_overlap_19 : decode c_La_overlap 19 = .ok (.iconst 1, 1) := by decide +kernel
theorem d_La_overlap_20 : decode c_La_overlap 20 = .ok (.ireturn, 1) := by decide +kernel
theorem d_La_overlap_21 : decode c_La_overlap 21 = .ok (.iconst 0, 1) := by decide +kernel
theorem d_La_overlap_22 : decode c_La_overlap 22 = .ok (.ireturn, 1) := by decide +kernel
theorem d_La_law_0 : decode code 0 = .ok (.new 8, 3) := by decide +kernel
theorem d_La_law_3 : decode code 3 = .ok (.dup, 1) := by decide +kernel
theorem d_La_law_4 : decode code 4 = .ok (.aload_n 0, 1) := by decide +kernel
theorem d_La_law_5 : decode code 5 = .ok (.iconst 0, 1) := by decide +kernel
theorem d_La_law_6 : decode code 6 = .ok (.invokestatic 65, 3) := by decide +kernel
theorem d_La_law_9 : decode code 9 = .ok (.aload_n 0, 1) := by decide +kernel
theorem d_La_law_10 : decode code 10 = .ok (.iconst 1, 1) := by decide +kernel
theorem d_La_law_11 : decode code 11 = .ok (.invokestatic 65, 3) := by decide +kernel
theorem d_La_law_14 : decode code 14 = .ok (.i2l, 1) := by decide +kernel
theorem d_La_law_15 : decode code 15 = .ok (.invokespecial 70, 3) := by decide +kernel
theorem d_La_law_18 : decode code 18 = .ok (.astore_n 1, 1) := by decide +kernel
theorem d_La_law_19 : decode code 19 = .ok (.new 73, 3) := by decide +kernel
theorem d_La_law_22 : decode code 22 = .ok (.dup, 1) := by decide +kernel
theorem d_La_law_23 : decode code 23 = .ok (.aload_n 0, 1) := by decide +kernel
theorem d_La_law_24 : decode code 24 = .ok (.iconst 0, 1) := by decide +kernel
theorem d_La_law_25 : decode code 25 = .ok (.invokestatic 65, 3) := by decide +kernel
theorem d_La_law_28 : decode code 28 = .ok (.aload_n 0, 1) := by decide +kernel
theorem d_La_law_29 : decode code 29 = .ok (.iconst 1, 1) := by decide +kernel
theorem d_La_law_30 : decode code 30 = .ok (.invokestatic 65, 3) := by decide +kernel
theorem d_La_law_33 : decode code 33 = .ok (.i2l, 1) := by decide +kernel
theorem d_La_law_34 : decode code 34 = .ok (.invokespecial 75, 3) := by decide +kernel
theorem d_La_law_37 : decode code 37 = .ok (.astore_n 2, 1) := by decide +kernel
theorem d_La_law_38 : decode code 38 = .ok (.iconst 1, 1) := by decide +kernel
theorem d_La_law_39 : decode code 39 = .ok (.newarray .long, 2) := by decide +kernel
theorem d_La_law_41 : decode code 41 = .ok (.astore_n 3, 1) := by decide +kernel
theorem d_La_law_42 : decode code 42 = .ok (.iconst 2, 1) := by decide +kernel
theorem d_La_law_43 : decode code 43 = .ok (.istore 4, 2) := by decide +kernel
theorem d_La_law_45 : decode code 45 = .ok (.iload 4, 2) := by decide +kernel
theorem d_La_law_47 : decode code 47 = .ok (.aload_n 0, 1) := by decide +kernel
theorem d_La_law_48 : decode code 48 = .ok (.arraylength, 1) := by decide +kernel
theorem d_La_law_49 : decode code 49 = .ok (.bipush 6, 2) := by decide +kernel
theorem d_La_law_51 : decode code 51 = .ok (.isub, 1) := by decide +kernel
theorem d_La_law_52 : decode code 52 = .ok (.if_icmp .gt 1110, 3) := by decide +kernel
theorem d_La_law_55 : decode code 55 = .ok (.aload_n 0, 1) := by decide +kernel
theorem d_La_law_56 : decode code 56 = .ok (.iload 4, 2) := by decide +kernel
theorem d_La_law_58 : decode code 58 = .ok (.iaload, 1) := by decide +kernel
theorem d_La_law_59 : decode code 59 = .ok (.bipush 15, 2) := by decide +kernel
theorem d_La_law_61 : decode code 61 = .ok (.iand, 1) := by decide +kernel
theorem d_La_law_62 : decode code 62 = .ok (.tableswitch 1094 0 13 #[70, 170, 289, 440, 527, 646, 659, 714, 770, 813, 876, 932, 1000, 1043], 70) := by decide +kernel
theorem d_La_law_132 : decode code 132 = .ok (.aload_n 1, 1) := by decide +kernel
theorem d_La_law_133 : decode code 133 = .ok (.aload_n 0, 1) := by decide +kernel
theorem d_La_law_134 : decode code 134 = .ok (.iload 4, 2) := by decide +kernel
theorem d_La_law_136 : decode code 136 = .ok (.iconst 1, 1) := by decide +kernel
theorem d_La_law_137 : decode code 137 = .ok (.iadd, 1) := by decide +kernel
theorem d_La_law_138 : decode code 138 = .ok (.iaload, 1) := by decide +kernel
theorem d_La_law_139 : decode code 139 = .ok (.i2l, 1) := by decide +kernel
theorem d_La_law_140 : decode code 140 = .ok (.bipush 32, 2) := by decide +kernel
theorem d_La_law_142 : decode code 142 = .ok (.lshl, 1) := by decide +kernel
theorem d_La_law_143 : decode code 143 = .ok (.aload_n 0, 1) := by decide +kernel
theorem d_La_law_144 : decode code 144 = .ok (.iload 4, 2) := by decide +kernel
theorem d_La_law_146 : decode code 146 = .ok (.iconst 2, 1) := by decide +kernel
theorem d_La_law_147 : decode code 147 = .ok (.iadd, 1) := by decide +kernel
theorem d_La_law_148 : decode code 148 = .ok (.iaload, 1) := by decide +kernel
theorem d_La_law_149 : decode code 149 = .ok (.i2l, 1) := by decide +kernel
theorem d_La_law_150 : decode code 150 = .ok (.ldc2_w 76, 3) := by decide +kernel
theorem d_La_law_153 : decode code 153 = .ok (.land, 1) := by decide +kernel
theorem d_La_law_154 : decode code 154 = .ok (.lor, 1) := by decide +kernel
theorem d_La_law_155 : decode code 155 = .ok (.aload_n 0, 1) := by decide +kernel
theorem d_La_law_156 : decode code 156 = .ok (.iload 4, 2) := by decide +kernel
theorem d_La_law_158 : decode code 158 = .ok (.iconst 3, 1) := by decide +kernel
theorem d_La_law_159 : decode code 159 = .ok (.iadd, 1) := by decide +kernel
theorem d_La_law_160 : decode code 160 = .ok (.iaload, 1) := by decide +kernel
theorem d_La_law_161 : decode code 161 = .ok (.aload_n 3, 1) := by decide +kernel
theorem d_La_law_162 : decode code 162 = .ok (.invokestatic 78, 3) := by decide +kernel
theorem d_La_law_165 : decode code 165 = .ok (.istore 5, 2) := by decide +kernel
theorem d_La_law_167 : decode code 167 = .ok (.aload_n 2, 1) := by decide +kernel
theorem d_La_law_168 : decode code 168 = .ok (.aload_n 0, 1) := by decide +kernel
theorem d_La_law_169 : decode code 169 = .ok (.iload 4, 2) := by decide +kernel
theorem d_La_law_171 : decode code 171 = .ok (.iconst 1, 1) := by decide +kernel
theorem d_La_law_172 : decode code 172 = .ok (.iadd, 1) := by decide +kernel
theorem d_La_law_173 : decode code 173 = .ok (.iaload, 1) := by decide +kernel
theorem d_La_law_174 : decode code 174 = .ok (.i2l, 1) := by decide +kernel
theorem d_La_law_175 : decode code 175 = .ok (.bipush 32, 2) := by decide +kernel
theorem d_La_law_177 : decode code 177 = .ok (.lshl, 1) := by decide +kernel
theorem d_La_law_178 : decode code 178 = .ok (.aload_n 0, 1) := by decide +kernel
theorem d_La_law_179 : decode code 179 = .ok (.iload 4, 2) := by decide +kernel
theorem d_La_law_181 : decode code 181 = .ok (.iconst 2, 1) := by decide +kernel
theorem d_La_law_182 : decode code 182 = .ok (.iadd, 1) := by decide +kernel
theorem d_La_law_183 : decode code 183 = .ok (.iaload, 1) := by decide +kernel
theorem d_La_law_184 : decode code 184 = .ok (.i2l, 1) := by decide +kernel
theorem d_La_law_185 : decode code 185 = .ok (.ldc2_w 76, 3) := by decide +kernel
theorem d_La_law_188 : decode code 188 = .ok (.land, 1) := by decide +kernel
theorem d_La_law_189 : decode code 189 = .ok (.lor, 1) := by decide +kernel
theorem d_La_law_190 : decode code 190 = .ok (.aload_n 0, 1) := by decide +kernel
theorem d_La_law_191 : decode code 191 = .ok (.iload 4, 2) := by decide +kernel
theorem d_La_law_193 : decode code 193 = .ok (.iconst 3, 1) := by decide +kernel
theorem d_La_law_194 : decode code 194 = .ok (.iadd, 1) := by decide +kernel
theorem d_La_law_195 : decode code 195 = .ok (.iaload, 1) := by decide +kernel
theorem d_La_law_196 : decode code 196 = .ok (.invokevirtual 81, 3) := by decide +kernel
theorem d_La_law_199 : decode code 199 = .ok (.istore 6, 2) := by decide +kernel
theorem d_La_law_201 : decode code 201 = .ok (.aload_n 2, 1) := by decide +kernel
theorem d_La_law_202 : decode code 202 = .ok (.invokevirtual 82, 3) := by decide +kernel
theorem d_La_law_205 : decode code 205 = .ok (.iload 5, 2) := by decide +kernel
theorem d_La_law_207 : decode code 207 = .ok (.if_icmp .eq 5, 3) := by decide +kernel
theorem d_La_law_210 : decode code 210 = .ok (.iconst 0, 1) := by decide +kernel
theorem d_La_law_211 : decode code 211 = .ok (.ireturn, 1) := by decide +kernel
theorem d_La_law_212 : decode code 212 = .ok (.iload 5, 2) := by decide +kernel
theorem d_La_law_214 : decode code 214 = .ok (.ifCond .ne 15, 3) := by decide +kernel
theorem d_La_law_217 : decode code 217 = .ok (.aload_n 3, 1) := by decide +kernel
theorem d_La_law_218 : decode code 218 = .ok (.iconst 0, 1) := by decide +kernel
theorem d_La_law_219 : decode code 219 = .ok (.laload, 1) := by decide +kernel
theorem d_La_law_220 : decode code 220 = .ok (.iload 6, 2) := by decide +kernel
theorem d_La_law_222 : decode code 222 = .ok (.i2l, 1) := by decide +kernel
theorem d_La_law_223 : decode code 223 = .ok (.lcmp, 1) := by decide +kernel
theorem d_La_law_224 : decode code 224 = .ok (.ifCond .eq 5, 3) := by decide +kernel
theorem d_La_law_227 : decode code 227 = .ok (.iconst 0, 1) := by decide +kernel
theorem d_La_law_228 : decode code 228 = .ok (.ireturn, 1) := by decide +kernel
theorem d_La_law_229 : decode code 229 = .ok (.goto 927, 3) := by decide +kernel
theorem d_La_law_232 : decode code 232 = .ok (.aload_n 1, 1) := by decide +kernel
theorem d_La_law_233 : decode code 233 = .ok (.aload_n 0, 1) := by decide +kernel
theorem d_La_law_234 : decode code 234 = .ok (.iload 4, 2) := by decide +kernel
theorem d_La_law_236 : decode code 236 = .ok (.iconst 1, 1) := by decide +kernel
theorem d_La_law_237 : decode code 237 = .ok (.iadd, 1) := by decide +kernel
theorem d_La_law_238 : decode code 238 = .ok (.iaload, 1) := by decide +kernel
theorem d_La_law_239 : decode code 239 = .ok (.aload_n 0, 1) := by decide +kernel
theorem d_La_law_240 : decode code 240 = .ok (.iload 4, 2) := by decide +kernel
theorem d_La_law_242 : decode code 242 = .ok (.iconst 2, 1) := by decide +kernel
theorem d_La_law_243 : decode code 243 = .ok (.iadd, 1) := by decide +kernel
theorem d_La_law_244 : decode code 244 = .ok (.iaload, 1) := by decide +kernel
theorem d_La_law_245 : decode code 245 = .ok (.i2l, 1) := by decide +kernel
theorem d_La_law_246 : decode code 246 = .ok (.bipush 32, 2) := by decide +kernel
theorem d_La_law_248 : decode code 248 = .ok (.lshl, 1) := by decide +kernel
theorem d_La_law_249 : decode code 249 = .ok (.aload_n 0, 1) := by decide +kernel
theorem d_La_law_250 : decode code 250 = .ok (.iload 4, 2) := by decide +kernel
theorem d_La_law_252 : decode code 252 = .ok (.iconst 3, 1) := by decide +kernel
theorem d_La_law_253 : decode code 253 = .ok (.iadd, 1) := by decide +kernel
theorem d_La_law_254 : decode code 254 = .ok (.iaload, 1) := by decide +kernel
theorem d_La_law_255 : decode code 255 = .ok (.i2l, 1) := by decide +kernel
theorem d_La_law_256 : decode code 256 = .ok (.ldc2_w 76, 3) := by decide +kernel
theorem d_La_law_259 : decode code 259 = .ok (.land, 1) := by decide +kernel
theorem d_La_law_260 : decode code 260 = .ok (.lor, 1) := by decide +kernel
theorem d_La_law_261 : decode code 261 = .ok (.aload_n 0, 1) := by decide +kernel
theorem d_La_law_262 : decode code 262 = .ok (.iload 4, 2) := by decide +kernel
theorem d_La_law_264 : decode code 264 = .ok (.iconst 4, 1) := by decide +kernel
theorem d_La_law_265 : decode code 265 = .ok (.iadd, 1) := by decide +kernel
theorem d_La_law_266 : decode code 266 = .ok (.iaload, 1) := by decide +kernel
theorem d_La_law_267 : decode code 267 = .ok (.aload_n 3, 1) := by decide +kernel
theorem d_La_law_268 : decode code 268 = .ok (.invokestatic 86, 3) := by decide +kernel
theorem d_La_law_271 : decode code 271 = .ok (.istore 5, 2) := by decide +kernel
theorem d_La_law_273 : decode code 273 = .ok (.aload_n 2, 1) := by decide +kernel
theorem d_La_law_274 : decode code 274 = .ok (.aload_n 0, 1) := by decide +kernel
theorem d_La_law_275 : decode code 275 = .ok (.iload 4, 2) := by decide +kernel
theorem d_La_law_277 : decode code 277 = .ok (.iconst 1, 1) := by decide +kernel
theorem d_La_law_278 : decode code 278 = .ok (.iadd, 1) := by decide +kernel
theorem d_La_law_279 : decode code 279 = .ok (.iaload, 1) := by decide +kernel
theorem d_La_law_280 : decode code 280 = .ok (.aload_n 0, 1) := by decide +kernel
theorem d_La_law_281 : decode code 281 = .ok (.iload 4, 2) := by decide +kernel
theorem d_La_law_283 : decode code 283 = .ok (.iconst 2, 1) := by decide +kernel
theorem d_La_law_284 : decode code 284 = .ok (.iadd, 1) := by decide +kernel
theorem d_La_law_285 : decode code 285 = .ok (.iaload, 1) := by decide +kernel
theorem d_La_law_286 : decode code 286 = .ok (.i2l, 1) := by decide +kernel
theorem d_La_law_287 : decode code 287 = .ok (.bipush 32, 2) := by decide +kernel
theorem d_La_law_289 : decode code 289 = .ok (.lshl, 1) := by decide +kernel
theorem d_La_law_290 : decode code 290 = .ok (.aload_n 0, 1) := by decide +kernel
theorem d_La_law_291 : decode code 291 = .ok (.iload 4, 2) := by decide +kernel
theorem d_La_law_293 : decode code 293 = .ok (.iconst 3, 1) := by decide +kernel
theorem d_La_law_294 : decode code 294 = .ok (.iadd, 1) := by decide +kernel
theorem d_La_law_295 : decode code 295 = .ok (.iaload, 1) := by decide +kernel
theorem d_La_law_296 : decode code 296 = .ok (.i2l, 1) := by decide +kernel
theorem d_La_law_297 : decode code 297 = .ok (.ldc2_w 76, 3) := by decide +kernel
theorem d_La_law_300 : decode code 300 = .ok (.land, 1) := by decide +kernel
theorem d_La_law_301 : decode code 301 = .ok (.lor, 1) := by decide +kernel
theorem d_La_law_302 : decode code 302 = .ok (.aload_n 0, 1) := by decide +kernel
theorem d_La_law_303 : decode code 303 = .ok (.iload 4, 2) := by decide +kernel
theorem d_La_law_305 : decode code 305 = .ok (.iconst 4, 1) := by decide +kernel
theorem d_La_law_306 : decode code 306 = .ok (.iadd, 1) := by decide +kernel
theorem d_La_law_307 : decode code 307 = .ok (.iaload, 1) := by decide +kernel
theorem d_La_law_308 : decode code 308 = .ok (.invokevirtual 89, 3) := by decide +kernel
theorem d_La_law_311 : decode code 311 = .ok (.istore 6, 2) := by decide +kernel
theorem d_La_law_313 : decode code 313 = .ok (.aload_n 2, 1) := by decide +kernel
theorem d_La_law_314 : decode code 314 = .ok (.invokevirtual 82, 3) := by decide +kernel
theorem d_La_law_317 : decode code 317 = .ok (.iload 5, 2) := by decide +kernel
theorem d_La_law_319 : decode code 319 = .ok (.if_icmp .eq 5, 3) := by decide +kernel
theorem d_La_law_322 : decode code 322 = .ok (.iconst 0, 1) := by decide +kernel
theorem d_La_law_323 : decode code 323 = .ok (.ireturn, 1) := by decide +kernel
theorem d_La_law_324 : decode code 324 = .ok (.iload 5, 2) := by decide +kernel
theorem d_La_law_326 : decode code 326 = .ok (.ifCond .ne 22, 3) := by decide +kernel
theorem d_La_law_329 : decode code 329 = .ok (.aload_n 3, 1) := by decide +kernel
theorem d_La_law_330 : decode code 330 = .ok (.iconst 0, 1) := by decide +kernel
theorem d_La_law_331 : decode code 331 = .ok (.laload, 1) := by decide +kernel
theorem d_La_law_332 : decode code 332 = .ok (.iload 6, 2) := by decide +kernel
theorem d_La_law_334 : decode code 334 = .ok (.ifCond .eq 7, 3) := by decide +kernel
theorem d_La_law_337 : decode code 337 = .ok (.lconst 1, 1) := by decide +kernel
theorem d_La_law_338 : decode code 338 = .ok (.goto 4, 3) := by decide +kernel
theorem d_La_law_341 : decode code 341 = .ok (.lconst 0, 1) := by decide +kernel
theorem d_La_law_342 : decode code 342 = .ok (.lcmp, 1) := by decide +kernel
theorem d_La_law_343 : decode code 343 = .ok (.ifCond .eq 5, 3) := by decide +kernel
theorem d_La_law_346 : decode code 346 = .ok (.iconst 0, 1) := by decide +kernel
theorem d_La_law_347 : decode code 347 = .ok (.ireturn, 1) := by decide +kernel
theorem d_La_law_348 : decode code 348 = .ok (.goto 808, 3) := by decide +kernel
theorem d_La_law_351 : decode code 351 = .ok (.aload_n 1, 1) := by decide +kernel
theorem d_La_law_352 : decode code 352 = .ok (.aload_n 0, 1) := by decide +kernel
theorem d_La_law_353 : decode code 353 = .ok (.iload 4, 2) := by decide +kernel
theorem d_La_law_355 : decode code 355 = .ok (.iconst 1, 1) := by decide +kernel
theorem d_La_law_356 : decode code 356 = .ok (.iadd, 1) := by decide +kernel
theorem d_La_law_357 : decode code 357 = .ok (.iaload, 1) := by decide +kernel
theorem d_La_law_358 : decode code 358 = .ok (.aload_n 0, 1) := by decide +kernel
theorem d_La_law_359 : decode code 359 = .ok (.iload 4, 2) := by decide +kernel
theorem d_La_law_361 : decode code 361 = .ok (.iconst 2, 1) := by decide +kernel
theorem d_La_law_362 : decode code 362 = .ok (.iadd, 1) := by decide +kernel
theorem d_La_law_363 : decode code 363 = .ok (.iaload, 1) := by decide +kernel
theorem d_La_law_364 : decode code 364 = .ok (.i2l, 1) := by decide +kernel
theorem d_La_law_365 : decode code 365 = .ok (.bipush 32, 2) := by decide +kernel
theorem d_La_law_367 : decode code 367 = .ok (.lshl, 1) := by decide +kernel
theorem d_La_law_368 : decode code 368 = .ok (.aload_n 0, 1) := by decide +kernel
theorem d_La_law_369 : decode code 369 = .ok (.iload 4, 2) := by decide +kernel
theorem d_La_law_371 : decode code 371 = .ok (.iconst 3, 1) := by decide +kernel
theorem d_La_law_372 : decode code 372 = .ok (.iadd, 1) := by decide +kernel
theorem d_La_law_373 : decode code 373 = .ok (.iaload, 1) := by decide +kernel
theorem d_La_law_374 : decode code 374 = .ok (.i2l, 1) := by decide +kernel
theorem d_La_law_375 : decode code 375 = .ok (.ldc2_w 76, 3) := by decide +kernel
theorem d_La_law_378 : decode code 378 = .ok (.land, 1) := by decide +kernel
theorem d_La_law_379 : decode code 379 = .ok (.lor, 1) := by decide +kernel
theorem d_La_law_380 : decode code 380 = .ok (.aload_n 0, 1) := by decide +kernel
theorem d_La_law_381 : decode code 381 = .ok (.iload 4, 2) := by decide +kernel
theorem d_La_law_383 : decode code 383 = .ok (.iconst 4, 1) := by decide +kernel
theorem d_La_law_384 : decode code 384 = .ok (.iadd, 1) := by decide +kernel
theorem d_La_law_385 : decode code 385 = .ok (.iaload, 1) := by decide +kernel
theorem d_La_law_386 : decode code 386 = .ok (.i2l, 1) := by decide +kernel
theorem d_La_law_387 : decode code 387 = .ok (.bipush 32, 2) := by decide +kernel
theorem d_La_law_389 : decode code 389 = .ok (.lshl, 1) := by decide +kernel
theorem d_La_law_390 : decode code 390 = .ok (.aload_n 0, 1) := by decide +kernel
theorem d_La_law_391 : decode code 391 = .ok (.iload 4, 2) := by decide +kernel
theorem d_La_law_393 : decode code 393 = .ok (.iconst 5, 1) := by decide +kernel
theorem d_La_law_394 : decode code 394 = .ok (.iadd, 1) := by decide +kernel
theorem d_La_law_395 : decode code 395 = .ok (.iaload, 1) := by decide +kernel
theorem d_La_law_396 : decode code 396 = .ok (.i2l, 1) := by decide +kernel
theorem d_La_law_397 : decode code 397 = .ok (.ldc2_w 76, 3) := by decide +kernel
theorem d_La_law_400 : decode code 400 = .ok (.land, 1) := by decide +kernel
theorem d_La_law_401 : decode code 401 = .ok (.lor, 1) := by decide +kernel
theorem d_La_law_402 : decode code 402 = .ok (.aload_n 3, 1) := by decide +kernel
theorem d_La_law_403 : decode code 403 = .ok (.invokestatic 90, 3) := by decide +kernel
theorem d_La_law_406 : decode code 406 = .ok (.istore 5, 2) := by decide +kernel
theorem d_La_law_408 : decode code 408 = .ok (.aload_n 2, 1) := by decide +kernel
theorem d_La_law_409 : decode code 409 = .ok (.aload_n 0, 1) := by decide +kernel
theorem d_La_law_410 : decode code 410 = .ok (.iload 4, 2) := by decide +kernel
theorem d_La_law_412 : decode code 412 = .ok (.iconst 1, 1) := by decide +kernel
theorem d_La_law_413 : decode code 413 = .ok (.iadd, 1) := by decide +kernel
theorem d_La_law_414 : decode code 414 = .ok (.iaload, 1) := by decide +kernel
theorem d_La_law_415 : decode code 415 = .ok (.aload_n 0, 1) := by decide +kernel
theorem d_La_law_416 : decode code 416 = .ok (.iload 4, 2) := by decide +kernel
theorem d_La_law_418 : decode code 418 = .ok (.iconst 2, 1) := by decide +kernel
theorem d_La_law_419 : decode code 419 = .ok (.iadd, 1) := by decide +kernel
theorem d_La_law_420 : decode code 420 = .ok (.iaload, 1) := by decide +kernel
theorem d_La_law_421 : decode code 421 = .ok (.i2l, 1) := by decide +kernel
theorem d_La_law_422 : decode code 422 = .ok (.bipush 32, 2) := by decide +kernel
theorem d_La_law_424 : decode code 424 = .ok (.lshl, 1) := by decide +kernel
theorem d_La_law_425 : decode code 425 = .ok (.aload_n 0, 1) := by decide +kernel
theorem d_La_law_426 : decode code 426 = .ok (.iload 4, 2) := by decide +kernel
theorem d_La_law_428 : decode code 428 = .ok (.iconst 3, 1) := by decide +kernel
theorem d_La_law_429 : decode code 429 = .ok (.iadd, 1) := by decide +kernel
theorem d_La_law_430 : decode code 430 = .ok (.iaload, 1) := by decide +kernel
theorem d_La_law_431 : decode code 431 = .ok (.i2l, 1) := by decide +kernel
theorem d_La_law_432 : decode code 432 = .ok (.ldc2_w 76, 3) := by decide +kernel
theorem d_La_law_435 : decode code 435 = .ok (.land, 1) := by decide +kernel
theorem d_La_law_436 : decode code 436 = .ok (.lor, 1) := by decide +kernel
theorem d_La_law_437 : decode code 437 = .ok (.aload_n 0, 1) := by decide +kernel
theorem d_La_law_438 : decode code 438 = .ok (.iload 4, 2) := by decide +kernel
theorem d_La_law_440 : decode code 440 = .ok (.iconst 4, 1) := by decide +kernel
theorem d_La_law_441 : decode code 441 = .ok (.iadd, 1) := by decide +kernel
theorem d_La_law_442 : decode code 442 = .ok (.iaload, 1) := by decide +kernel
theorem d_La_law_443 : decode code 443 = .ok (.i2l, 1) := by decide +kernel
theorem d_La_law_444 : decode code 444 = .ok (.bipush 32, 2) := by decide +kernel
theorem d_La_law_446 : decode code 446 = .ok (.lshl, 1) := by decide +kernel
theorem d_La_law_447 : decode code 447 = .ok (.aload_n 0, 1) := by decide +kernel
theorem d_La_law_448 : decode code 448 = .ok (.iload 4, 2) := by decide +kernel
theorem d_La_law_450 : decode code 450 = .ok (.iconst 5, 1) := by decide +kernel
theorem d_La_law_451 : decode code 451 = .ok (.iadd, 1) := by decide +kernel
theorem d_La_law_452 : decode code 452 = .ok (.iaload, 1) := by decide +kernel
theorem d_La_law_453 : decode code 453 = .ok (.i2l, 1) := by decide +kernel
theorem d_La_law_454 : decode code 454 = .ok (.ldc2_w 76, 3) := by decide +kernel
theorem d_La_law_457 : decode code 457 = .ok (.land, 1) := by decide +kernel
theorem d_La_law_458 : decode code 458 = .ok (.lor, 1) := by decide +kernel
theorem d_La_law_459 : decode code 459 = .ok (.invokevirtual 93, 3) := by decide +kernel
theorem d_La_law_462 : decode code 462 = .ok (.istore 6, 2) := by decide +kernel
theorem d_La_law_464 : decode code 464 = .ok (.aload_n 2, 1) := by decide +kernel
theorem d_La_law_465 : decode code 465 = .ok (.invokevirtual 82, 3) := by decide +kernel
theorem d_La_law_468 : decode code 468 = .ok (.iload 5, 2) := by decide +kernel
theorem d_La_law_470 : decode code 470 = .ok (.if_icmp .eq 5, 3) := by decide +kernel
theorem d_La_law_473 : decode code 473 = .ok (.iconst 0, 1) := by decide +kernel
theorem d_La_law_474 : decode code 474 = .ok (.ireturn, 1) := by decide +kernel
theorem d_La_law_475 : decode code 475 = .ok (.iload 5, 2) := by decide +kernel
theorem d_La_law_477 : decode code 477 = .ok (.ifCond .ne 22, 3) := by decide +kernel
theorem d_La_law_480 : decode code 480 = .ok (.aload_n 3, 1) := by decide +kernel
theorem d_La_law_481 : decode code 481 = .ok (.iconst 0, 1) := by decide +kernel
theorem d_La_law_482 : decode code 482 = .ok (.laload, 1) := by decide +kernel
theorem d_La_law_483 : decode code 483 = .ok (.iload 6, 2) := by decide +kernel
theorem d_La_law_485 : decode code 485 = .ok (.ifCond .eq 7, 3) := by decide +kernel
theorem d_La_law_488 : decode code 488 = .ok (.lconst 1, 1) := by decide +kernel
theorem d_La_law_489 : decode code 489 = .ok (.goto 4, 3) := by decide +kernel
theorem d_La_law_492 : decode code 492 = .ok (.lconst 0, 1) := by decide +kernel
theorem d_La_law_493 : decode code 493 = .ok (.lcmp, 1) := by decide +kernel
theorem d_La_law_494 : decode code 494 = .ok (.ifCond .eq 5, 3) := by decide +kernel
theorem d_La_law_497 : decode code 497 = .ok (.iconst 0, 1) := by decide +kernel
theorem d_La_law_498 : decode code 498 = .ok (.ireturn, 1) := by decide +kernel
theorem d_La_law_499 : decode code 499 = .ok (.goto 657, 3) := by decide +kernel
theorem d_La_law_502 : decode code 502 = .ok (.aload_n 1, 1) := by decide +kernel
theorem d_La_law_503 : decode code 503 = .ok (.aload_n 0, 1) := by decide +kernel
theorem d_La_law_504 : decode code 504 = .ok (.iload 4, 2) := by decide +kernel
theorem d_La_law_506 : decode code 506 = .ok (.iconst 1, 1) := by decide +kernel
theorem d_La_law_507 : decode code 507 = .ok (.iadd, 1) := by decide +kernel
theorem d_La_law_508 : decode code 508 = .ok (.iaload, 1) := by decide +kernel
theorem d_La_law_509 : decode code 509 = .ok (.aload_n 0, 1) := by decide +kernel
theorem d_La_law_510 : decode code 510 = .ok (.iload 4, 2) := by decide +kernel
theorem d_La_law_512 : decode code 512 = .ok (.iconst 2, 1) := by decide +kernel
theorem d_La_law_513 : decode code 513 = .ok (.iadd, 1) := by decide +kernel
theorem d_La_law_514 : decode code 514 = .ok (.iaload, 1) := by decide +kernel
theorem d_La_law_515 : decode code 515 = .ok (.aload_n 0, 1) := by decide +kernel
theorem d_La_law_516 : decode code 516 = .ok (.iload 4, 2) := by decide +kernel
theorem d_La_law_518 : decode code 518 = .ok (.iconst 3, 1) := by decide +kernel
theorem d_La_law_519 : decode code 519 = .ok (.iadd, 1) := by decide +kernel
theorem d_La_law_520 : decode code 520 = .ok (.iaload, 1) := by decide +kernel
theorem d_La_law_521 : decode code 521 = .ok (.aload_n 3, 1) := by decide +kernel
theorem d_La_law_522 : decode code 522 = .ok (.invokestatic 94, 3) := by decide +kernel
theorem d_La_law_525 : decode code 525 = .ok (.istore 5, 2) := by decide +kernel
theorem d_La_law_527 : decode code 527 = .ok (.aload_n 2, 1) := by decide +kernel
theorem d_La_law_528 : decode code 528 = .ok (.aload_n 0, 1) := by decide +kernel
theorem d_La_law_529 : decode code 529 = .ok (.iload 4, 2) := by decide +kernel
theorem d_La_law_531 : decode code 531 = .ok (.iconst 1, 1) := by decide +kernel
theorem d_La_law_532 : decode code 532 = .ok (.iadd, 1) := by decide +kernel
theorem d_La_law_533 : decode code 533 = .ok (.iaload, 1) := by decide +kernel
theorem d_La_law_534 : decode code 534 = .ok (.aload_n 0, 1) := by decide +kernel
theorem d_La_law_535 : decode code 535 = .ok (.iload 4, 2) := by decide +kernel
theorem d_La_law_537 : decode code 537 = .ok (.iconst 2, 1) := by decide +kernel
theorem d_La_law_538 : decode code 538 = .ok (.iadd, 1) := by decide +kernel
theorem d_La_law_539 : decode code 539 = .ok (.iaload, 1) := by decide +kernel
theorem d_La_law_540 : decode code 540 = .ok (.aload_n 0, 1) := by decide +kernel
theorem d_La_law_541 : decode code 541 = .ok (.iload 4, 2) := by decide +kernel
theorem d_La_law_543 : decode code 543 = .ok (.iconst 3, 1) := by decide +kernel
theorem d_La_law_544 : decode code 544 = .ok (.iadd, 1) := by decide +kernel
theorem d_La_law_545 : decode code 545 = .ok (.iaload, 1) := by decide +kernel
theorem d_La_law_546 : decode code 546 = .ok (.invokevirtual 97, 3) := by decide +kernel
theorem d_La_law_549 : decode code 549 = .ok (.istore 6, 2) := by decide +kernel
theorem d_La_law_551 : decode code 551 = .ok (.aload_n 2, 1) := by decide +kernel
theorem d_La_law_552 : decode code 552 = .ok (.invokevirtual 82, 3) := by decide +kernel
theorem d_La_law_555 : decode code 555 = .ok (.iload 5, 2) := by decide +kernel
theorem d_La_law_557 : decode code 557 = .ok (.if_icmp .eq 5, 3) := by decide +kernel
theorem d_La_law_560 : decode code 560 = .ok (.iconst 0, 1) := by decide +kernel
theorem d_La_law_561 : decode code 561 = .ok (.ireturn, 1) := by decide +kernel
theorem d_La_law_562 : decode code 562 = .ok (.iload 5, 2) := by decide +kernel
theorem d_La_law_564 : decode code 564 = .ok (.ifCond .ne 22, 3) := by decide +kernel
theorem d_La_law_567 : decode code 567 = .ok (.aload_n 3, 1) := by decide +kernel
theorem d_La_law_568 : decode code 568 = .ok (.iconst 0, 1) := by decide +kernel
theorem d_La_law_569 : decode code 569 = .ok (.laload, 1) := by decide +kernel
theorem d_La_law_570 : decode code 570 = .ok (.iload 6, 2) := by decide +kernel
theorem d_La_law_572 : decode code 572 = .ok (.ifCond .eq 7, 3) := by decide +kernel
theorem d_La_law_575 : decode code 575 = .ok (.lconst 1, 1) := by decide +kernel
theorem d_La_law_576 : decode code 576 = .ok (.goto 4, 3) := by decide +kernel
theorem d_La_law_579 : decode code 579 = .ok (.lconst 0, 1) := by decide +kernel
theorem d_La_law_580 : decode code 580 = .ok (.lcmp, 1) := by decide +kernel
theorem d_La_law_581 : decode code 581 = .ok (.ifCond .eq 5, 3) := by decide +kernel
theorem d_La_law_584 : decode code 584 = .ok (.iconst 0, 1) := by decide +kernel
theorem d_La_law_585 : decode code 585 = .ok (.ireturn, 1) := by decide +kernel
theorem d_La_law_586 : decode code 586 = .ok (.goto 570, 3) := by decide +kernel
theorem d_La_law_589 : decode code 589 = .ok (.aload_n 1, 1) := by decide +kernel
theorem d_La_law_590 : decode code 590 = .ok (.aload_n 0, 1) := by decide +kernel
theorem d_La_law_591 : decode code 591 = .ok (.iload 4, 2) := by decide +kernel
theorem d_La_law_593 : decode code 593 = .ok (.iconst 1, 1) := by decide +kernel
theorem d_La_law_594 : decode code 594 = .ok (.iadd, 1) := by decide +kernel
theorem d_La_law_595 : decode code 595 = .ok (.iaload, 1) := by decide +kernel
theorem d_La_law_596 : decode code 596 = .ok (.aload_n 0, 1) := by decide +kernel
theorem d_La_law_597 : decode code 597 = .ok (.iload 4, 2) := by decide +kernel
theorem d_La_law_599 : decode code 599 = .ok (.iconst 2, 1) := by decide +kernel
theorem d_La_law_600 : decode code 600 = .ok (.iadd, 1) := by decide +kernel
theorem d_La_law_601 : decode code 601 = .ok (.iaload, 1) := by decide +kernel
theorem d_La_law_602 : decode code 602 = .ok (.aload_n 0, 1) := by decide +kernel
theorem d_La_law_603 : decode code 603 = .ok (.iload 4, 2) := by decide +kernel
theorem d_La_law_605 : decode code 605 = .ok (.iconst 3, 1) := by decide +kernel
theorem d_La_law_606 : decode code 606 = .ok (.iadd, 1) := by decide +kernel
theorem d_La_law_607 : decode code 607 = .ok (.iaload, 1) := by decide +kernel
theorem d_La_law_608 : decode code 608 = .ok (.i2l, 1) := by decide +kernel
theorem d_La_law_609 : decode code 609 = .ok (.bipush 32, 2) := by decide +kernel
theorem d_La_law_611 : decode code 611 = .ok (.lshl, 1) := by decide +kernel
theorem d_La_law_612 : decode code 612 = .ok (.aload_n 0, 1) := by decide +kernel
theorem d_La_law_613 : decode code 613 = .ok (.iload 4, 2) := by decide +kernel
theorem d_La_law_615 : decode code 615 = .ok (.iconst 4, 1) := by decide +kernel
theorem d_La_law_616 : decode code 616 = .ok (.iadd, 1) := by decide +kernel
theorem d_La_law_617 : decode code 617 = .ok (.iaload, 1) := by decide +kernel
theorem d_La_law_618 : decode code 618 = .ok (.i2l, 1) := by decide +kernel
theorem d_La_law_619 : decode code 619 = .ok (.ldc2_w 76, 3) := by decide +kernel
theorem d_La_law_622 : decode code 622 = .ok (.land, 1) := by decide +kernel
theorem d_La_law_623 : decode code 623 = .ok (.lor, 1) := by decide +kernel
theorem d_La_law_624 : decode code 624 = .ok (.aload_n 3, 1) := by decide +kernel
theorem d_La_law_625 : decode code 625 = .ok (.invokestatic 98, 3) := by decide +kernel
theorem d_La_law_628 : decode code 628 = .ok (.istore 5, 2) := by decide +kernel
theorem d_La_law_630 : decode code 630 = .ok (.aload_n 2, 1) := by decide +kernel
theorem d_La_law_631 : decode code 631 = .ok (.aload_n 0, 1) := by decide +kernel
theorem d_La_law_632 : decode code 632 = .ok (.iload 4, 2) := by decide +kernel
theorem d_La_law_634 : decode code 634 = .ok (.iconst 1, 1) := by decide +kernel
theorem d_La_law_635 : decode code 635 = .ok (.iadd, 1) := by decide +kernel
theorem d_La_law_636 : decode code 636 = .ok (.iaload, 1) := by decide +kernel
theorem d_La_law_637 : decode code 637 = .ok (.aload_n 0, 1) := by decide +kernel
theorem d_La_law_638 : decode code 638 = .ok (.iload 4, 2) := by decide +kernel
theorem d_La_law_640 : decode code 640 = .ok (.iconst 2, 1) := by decide +kernel
theorem d_La_law_641 : decode code 641 = .ok (.iadd, 1) := by decide +kernel
theorem d_La_law_642 : decode code 642 = .ok (.iaload, 1) := by decide +kernel
theorem d_La_law_643 : decode code 643 = .ok (.aload_n 0, 1) := by decide +kernel
theorem d_La_law_644 : decode code 644 = .ok (.iload 4, 2) := by decide +kernel
theorem d_La_law_646 : decode code 646 = .ok (.iconst 3, 1) := by decide +kernel
theorem d_La_law_647 : decode code 647 = .ok (.iadd, 1) := by decide +kernel
theorem d_La_law_648 : decode code 648 = .ok (.iaload, 1) := by decide +kernel
theorem d_La_law_649 : decode code 649 = .ok (.i2l, 1) := by decide +kernel
theorem d_La_law_650 : decode code 650 = .ok (.bipush 32, 2) := by decide +kernel
theorem d_La_law_652 : decode code 652 = .ok (.lshl, 1) := by decide +kernel
theorem d_La_law_653 : decode code 653 = .ok (.aload_n 0, 1) := by decide +kernel
theorem d_La_law_654 : decode code 654 = .ok (.iload 4, 2) := by decide +kernel
theorem d_La_law_656 : decode code 656 = .ok (.iconst 4, 1) := by decide +kernel
theorem d_La_law_657 : decode code 657 = .ok (.iadd, 1) := by decide +kernel
theorem d_La_law_658 : decode code 658 = .ok (.iaload, 1) := by decide +kernel
theorem d_La_law_659 : decode code 659 = .ok (.i2l, 1) := by decide +kernel
theorem d_La_law_660 : decode code 660 = .ok (.ldc2_w 76, 3) := by decide +kernel
theorem d_La_law_663 : decode code 663 = .ok (.land, 1) := by decide +kernel
theorem d_La_law_664 : decode code 664 = .ok (.lor, 1) := by decide +kernel
theorem d_La_law_665 : decode code 665 = .ok (.invokevirtual 101, 3) := by decide +kernel
theorem d_La_law_668 : decode code 668 = .ok (.istore 6, 2) := by decide +kernel
theorem d_La_law_670 : decode code 670 = .ok (.aload_n 2, 1) := by decide +kernel
theorem d_La_law_671 : decode code 671 = .ok (.invokevirtual 82, 3) := by decide +kernel
theorem d_La_law_674 : decode code 674 = .ok (.iload 5, 2) := by decide +kernel
theorem d_La_law_676 : decode code 676 = .ok (.if_icmp .eq 5, 3) := by decide +kernel
theorem d_La_law_679 : decode code 679 = .ok (.iconst 0, 1) := by decide +kernel
theorem d_La_law_680 : decode code 680 = .ok (.ireturn, 1) := by decide +kernel
theorem d_La_law_681 : decode code 681 = .ok (.iload 5, 2) := by decide +kernel
theorem d_La_law_683 : decode code 683 = .ok (.ifCond .ne 22, 3) := by decide +kernel
theorem d_La_law_686 : decode code 686 = .ok (.aload_n 3, 1) := by decide +kernel
theorem d_La_law_687 : decode code 687 = .ok (.iconst 0, 1) := by decide +kernel
theorem d_La_law_688 : decode code 688 = .ok (.laload, 1) := by decide +kernel
theorem d_La_law_689 : decode code 689 = .ok (.iload 6, 2) := by decide +kernel
theorem d_La_law_691 : decode code 691 = .ok (.ifCond .eq 7, 3) := by decide +kernel
theorem d_La_law_694 : decode code 694 = .ok (.lconst 1, 1) := by decide +kernel
theorem d_La_law_695 : decode code 695 = .ok (.goto 4, 3) := by decide +kernel
theorem d_La_law_698 : decode code 698 = .ok (.lconst 0, 1) := by decide +kernel
theorem d_La_law_699 : decode code 699 = .ok (.lcmp, 1) := by decide +kernel
theorem d_La_law_700 : decode code 700 = .ok (.ifCond .eq 5, 3) := by decide +kernel
theorem d_La_law_703 : decode code 703 = .ok (.iconst 0, 1) := by decide +kernel
theorem d_La_law_704 : decode code 704 = .ok (.ireturn, 1) := by decide +kernel
theorem d_La_law_705 : decode code 705 = .ok (.goto 451, 3) := by decide +kernel
theorem d_La_law_708 : decode code 708 = .ok (.aload_n 1, 1) := by decide +kernel
theorem d_La_law_709 : decode code 709 = .ok (.invokevirtual 102, 3) := by decide +kernel
theorem d_La_law_712 : decode code 712 = .ok (.aload_n 2, 1) := by decide +kernel
theorem d_La_law_713 : decode code 713 = .ok (.invokevirtual 105, 3) := by decide +kernel
theorem d_La_law_716 : decode code 716 = .ok (.if_icmp .eq 440, 3) := by decide +kernel
theorem d_La_law_719 : decode code 719 = .ok (.iconst 0, 1) := by decide +kernel
theorem d_La_law_720 : decode code 720 = .ok (.ireturn, 1) := by decide +kernel
theorem d_La_law_721 : decode code 721 = .ok (.aload_n 1, 1) := by decide +kernel
theorem d_La_law_722 : decode code 722 = .ok (.aload_n 0, 1) := by decide +kernel
theorem d_La_law_723 : decode code 723 = .ok (.iload 4, 2) := by decide +kernel
theorem d_La_law_725 : decode code 725 = .ok (.iconst 1, 1) := by decide +kernel
theorem d_La_law_726 : decode code 726 = .ok (.iadd, 1) := by decide +kernel
theorem d_La_law_727 : decode code 727 = .ok (.iaload, 1) := by decide +kernel
theorem d_La_law_728 : decode code 728 = .ok (.aload_n 3, 1) := by decide +kernel
theorem d_La_law_729 : decode code 729 = .ok (.invokestatic 106, 3) := by decide +kernel
theorem d_La_law_732 : decode code 732 = .ok (.istore 5, 2) := by decide +kernel
theorem d_La_law_734 : decode code 734 = .ok (.aload_n 2, 1) := by decide +kernel
theorem d_La_law_735 : decode code 735 = .ok (.aload_n 0, 1) := by decide +kernel
theorem d_La_law_736 : decode code 736 = .ok (.iload 4, 2) := by decide +kernel
theorem d_La_law_738 : decode code 738 = .ok (.iconst 1, 1) := by decide +kernel
theorem d_La_law_739 : decode code 739 = .ok (.iadd, 1) := by decide +kernel
theorem d_La_law_740 : decode code 740 = .ok (.iaload, 1) := by decide +kernel
theorem d_La_law_741 : decode code 741 = .ok (.invokevirtual 109, 3) := by decide +kernel
theorem d_La_law_744 : decode code 744 = .ok (.lstore 6, 2) := by decide +kernel
theorem d_La_law_746 : decode code 746 = .ok (.aload_n 2, 1) := by decide +kernel
theorem d_La_law_747 : decode code 747 = .ok (.invokevirtual 82, 3) := by decide +kernel
theorem d_La_law_750 : decode code 750 = .ok (.iload 5, 2) := by decide +kernel
theorem d_La_law_752 : decode code 752 = .ok (.if_icmp .eq 5, 3) := by decide +kernel
theorem d_La_law_755 : decode code 755 = .ok (.iconst 0, 1) := by decide +kernel
theorem d_La_law_756 : decode code 756 = .ok (.ireturn, 1) := by decide +kernel
theorem d_La_law_757 : decode code 757 = .ok (.iload 5, 2) := by decide +kernel
theorem d_La_law_759 : decode code 759 = .ok (.ifCond .ne 14, 3) := by decide +kernel
theorem d_La_law_762 : decode code 762 = .ok (.aload_n 3, 1) := by decide +kernel
theorem d_La_law_763 : decode code 763 = .ok (.iconst 0, 1) := by decide +kernel
theorem d_La_law_764 : decode code 764 = .ok (.laload, 1) := by decide +kernel
theorem d_La_law_765 : decode code 765 = .ok (.lload 6, 2) := by decide +kernel
theorem d_La_law_767 : decode code 767 = .ok (.lcmp, 1) := by decide +kernel
theorem d_La_law_768 : decode code 768 = .ok (.ifCond .eq 5, 3) := by decide +kernel
theorem d_La_law_771 : decode code 771 = .ok (.iconst 0, 1) := by decide +kernel
theorem d_La_law_772 : decode code 772 = .ok (.ireturn, 1) := by decide +kernel
theorem d_La_law_773 : decode code 773 = .ok (.goto 383, 3) := by decide +kernel
theorem d_La_law_776 : decode code 776 = .ok (.aload_n 1, 1) := by decide +kernel
theorem d_La_law_777 : decode code 777 = .ok (.aload_n 0, 1) := by decide +kernel
theorem d_La_law_778 : decode code 778 = .ok (.iload 4, 2) := by decide +kernel
theorem d_La_law_780 : decode code 780 = .ok (.iconst 1, 1) := by decide +kernel
theorem d_La_law_781 : decode code 781 = .ok (.iadd, 1) := by decide +kernel
theorem d_La_law_782 : decode code 782 = .ok (.iaload, 1) := by decide +kernel
theorem d_La_law_783 : decode code 783 = .ok (.aload_n 3, 1) := by decide +kernel
theorem d_La_law_784 : decode code 784 = .ok (.invokestatic 110, 3) := by decide +kernel
theorem d_La_law_787 : decode code 787 = .ok (.istore 5, 2) := by decide +kernel
theorem d_La_law_789 : decode code 789 = .ok (.aload_n 2, 1) := by decide +kernel
theorem d_La_law_790 : decode code 790 = .ok (.aload_n 0, 1) := by decide +kernel
theorem d_La_law_791 : decode code 791 = .ok (.iload 4, 2) := by decide +kernel
theorem d_La_law_793 : decode code 793 = .ok (.iconst 1, 1) := by decide +kernel
theorem d_La_law_794 : decode code 794 = .ok (.iadd, 1) := by decide +kernel
theorem d_La_law_795 : decode code 795 = .ok (.iaload, 1) := by decide +kernel
theorem d_La_law_796 : decode code 796 = .ok (.invokevirtual 112, 3) := by decide +kernel
theorem d_La_law_799 : decode code 799 = .ok (.istore 6, 2) := by decide +kernel
theorem d_La_law_801 : decode code 801 = .ok (.aload_n 2, 1) := by decide +kernel
theorem d_La_law_802 : decode code 802 = .ok (.invokevirtual 82, 3) := by decide +kernel
theorem d_La_law_805 : decode code 805 = .ok (.iload 5, 2) := by decide +kernel
theorem d_La_law_807 : decode code 807 = .ok (.if_icmp .eq 5, 3) := by decide +kernel
theorem d_La_law_810 : decode code 810 = .ok (.iconst 0, 1) := by decide +kernel
theorem d_La_law_811 : decode code 811 = .ok (.ireturn, 1) := by decide +kernel
theorem d_La_law_812 : decode code 812 = .ok (.iload 5, 2) := by decide +kernel
theorem d_La_law_814 : decode code 814 = .ok (.ifCond .ne 15, 3) := by decide +kernel
theorem d_La_law_817 : decode code 817 = .ok (.aload_n 3, 1) := by decide +kernel
theorem d_La_law_818 : decode code 818 = .ok (.iconst 0, 1) := by decide +kernel
theorem d_La_law_819 : decode code 819 = .ok (.laload, 1) := by decide +kernel
theorem d_La_law_820 : decode code 820 = .ok (.iload 6, 2) := by decide +kernel
theorem d_La_law_822 : decode code 822 = .ok (.i2l, 1) := by decide +kernel
theorem d_La_law_823 : decode code 823 = .ok (.lcmp, 1) := by decide +kernel
theorem d_La_law_824 : decode code 824 = .ok (.ifCond .eq 5, 3) := by decide +kernel
theorem d_La_law_827 : decode code 827 = .ok (.iconst 0, 1) := by decide +kernel
theorem d_La_law_828 : decode code 828 = .ok (.ireturn, 1) := by decide +kernel
theorem d_La_law_829 : decode code 829 = .ok (.goto 327, 3) := by decide +kernel
theorem d_La_law_832 : decode code 832 = .ok (.aload_n 1, 1) := by decide +kernel
theorem d_La_law_833 : decode code 833 = .ok (.aload_n 3, 1) := by decide +kernel
theorem d_La_law_834 : decode code 834 = .ok (.invokestatic 113, 3) := by decide +kernel
theorem d_La_law_837 : decode code 837 = .ok (.istore 5, 2) := by decide +kernel
theorem d_La_law_839 : decode code 839 = .ok (.aload_n 2, 1) := by decide +kernel
theorem d_La_law_840 : decode code 840 = .ok (.invokevirtual 116, 3) := by decide +kernel
theorem d_La_law_843 : decode code 843 = .ok (.lstore 6, 2) := by decide +kernel
theorem d_La_law_845 : decode code 845 = .ok (.aload_n 2, 1) := by decide +kernel
theorem d_La_law_846 : decode code 846 = .ok (.invokevirtual 82, 3) := by decide +kernel
theorem d_La_law_849 : decode code 849 = .ok (.iload 5, 2) := by decide +kernel
theorem d_La_law_851 : decode code 851 = .ok (.if_icmp .eq 5, 3) := by decide +kernel
theorem d_La_law_854 : decode code 854 = .ok (.iconst 0, 1) := by decide +kernel
theorem d_La_law_855 : decode code 855 = .ok (.ireturn, 1) := by decide +kernel
theorem d_La_law_856 : decode code 856 = .ok (.iload 5, 2) := by decide +kernel
theorem d_La_law_858 : decode code 858 = .ok (.ifCond .ne 14, 3) := by decide +kernel
theorem d_La_law_861 : decode code 861 = .ok (.aload_n 3, 1) := by decide +kernel
theorem d_La_law_862 : decode code 862 = .ok (.iconst 0, 1) := by decide +kernel
theorem d_La_law_863 : decode code 863 = .ok (.laload, 1) := by decide +kernel
theorem d_La_law_864 : decode code 864 = .ok (.lload 6, 2) := by decide +kernel
theorem d_La_law_866 : decode code 866 = .ok (.lcmp, 1) := by decide +kernel
theorem d_La_law_867 : decode code 867 = .ok (.ifCond .eq 5, 3) := by decide +kernel
theorem d_La_law_870 : decode code 870 = .ok (.iconst 0, 1) := by decide +kernel
theorem d_La_law_871 : decode code 871 = .ok (.ireturn, 1) := by decide +kernel
theorem d_La_law_872 : decode code 872 = .ok (.goto 284, 3) := by decide +kernel
theorem d_La_law_875 : decode code 875 = .ok (.aload_n 1, 1) := by decide +kernel
theorem d_La_law_876 : decode code 876 = .ok (.aload_n 0, 1) := by decide +kernel
theorem d_La_law_877 : decode code 877 = .ok (.iload 4, 2) := by decide +kernel
theorem d_La_law_879 : decode code 879 = .ok (.iconst 1, 1) := by decide +kernel
theorem d_La_law_880 : decode code 880 = .ok (.iadd, 1) := by decide +kernel
theorem d_La_law_881 : decode code 881 = .ok (.iaload, 1) := by decide +kernel
theorem d_La_law_882 : decode code 882 = .ok (.aload_n 3, 1) := by decide +kernel
theorem d_La_law_883 : decode code 883 = .ok (.invokestatic 117, 3) := by decide +kernel
theorem d_La_law_886 : decode code 886 = .ok (.istore 5, 2) := by decide +kernel
theorem d_La_law_888 : decode code 888 = .ok (.aload_n 2, 1) := by decide +kernel
theorem d_La_law_889 : decode code 889 = .ok (.aload_n 0, 1) := by decide +kernel
theorem d_La_law_890 : decode code 890 = .ok (.iload 4, 2) := by decide +kernel
theorem d_La_law_892 : decode code 892 = .ok (.iconst 1, 1) := by decide +kernel
theorem d_La_law_893 : decode code 893 = .ok (.iadd, 1) := by decide +kernel
theorem d_La_law_894 : decode code 894 = .ok (.iaload, 1) := by decide +kernel
theorem d_La_law_895 : decode code 895 = .ok (.invokevirtual 119, 3) := by decide +kernel
theorem d_La_law_898 : decode code 898 = .ok (.istore 6, 2) := by decide +kernel
theorem d_La_law_900 : decode code 900 = .ok (.aload_n 2, 1) := by decide +kernel
theorem d_La_law_901 : decode code 901 = .ok (.invokevirtual 82, 3) := by decide +kernel
theorem d_La_law_904 : decode code 904 = .ok (.iload 5, 2) := by decide +kernel
theorem d_La_law_906 : decode code 906 = .ok (.if_icmp .eq 5, 3) := by decide +kernel
theorem d_La_law_909 : decode code 909 = .ok (.iconst 0, 1) := by decide +kernel
theorem d_La_law_910 : decode code 910 = .ok (.ireturn, 1) := by decide +kernel
theorem d_La_law_911 : decode code 911 = .ok (.iload 5, 2) := by decide +kernel
theorem d_La_law_913 : decode code 913 = .ok (.ifCond .ne 22, 3) := by decide +kernel
theorem d_La_law_916 : decode code 916 = .ok (.aload_n 3, 1) := by decide +kernel
theorem d_La_law_917 : decode code 917 = .ok (.iconst 0, 1) := by decide +kernel
theorem d_La_law_918 : decode code 918 = .ok (.laload, 1) := by decide +kernel
theorem d_La_law_919 : decode code 919 = .ok (.iload 6, 2) := by decide +kernel
theorem d_La_law_921 : decode code 921 = .ok (.ifCond .eq 7, 3) := by decide +kernel
theorem d_La_law_924 : decode code 924 = .ok (.lconst 1, 1) := by decide +kernel
theorem d_La_law_925 : decode code 925 = .ok (.goto 4, 3) := by decide +kernel
theorem d_La_law_928 : decode code 928 = .ok (.lconst 0, 1) := by decide +kernel
theorem d_La_law_929 : decode code 929 = .ok (.lcmp, 1) := by decide +kernel
theorem d_La_law_930 : decode code 930 = .ok (.ifCond .eq 5, 3) := by decide +kernel
theorem d_La_law_933 : decode code 933 = .ok (.iconst 0, 1) := by decide +kernel
theorem d_La_law_934 : decode code 934 = .ok (.ireturn, 1) := by decide +kernel
theorem d_La_law_935 : decode code 935 = .ok (.goto 221, 3) := by decide +kernel
theorem d_La_law_938 : decode code 938 = .ok (.aload_n 1, 1) := by decide +kernel
theorem d_La_law_939 : decode code 939 = .ok (.aload_n 0, 1) := by decide +kernel
theorem d_La_law_940 : decode code 940 = .ok (.iload 4, 2) := by decide +kernel
theorem d_La_law_942 : decode code 942 = .ok (.iconst 1, 1) := by decide +kernel
theorem d_La_law_943 : decode code 943 = .ok (.iadd, 1) := by decide +kernel
theorem d_La_law_944 : decode code 944 = .ok (.iaload, 1) := by decide +kernel
theorem d_La_law_945 : decode code 945 = .ok (.aload_n 3, 1) := by decide +kernel
theorem d_La_law_946 : decode code 946 = .ok (.invokestatic 120, 3) := by decide +kernel
theorem d_La_law_949 : decode code 949 = .ok (.istore 5, 2) := by decide +kernel
theorem d_La_law_951 : decode code 951 = .ok (.aload_n 2, 1) := by decide +kernel
theorem d_La_law_952 : decode code 952 = .ok (.aload_n 0, 1) := by decide +kernel
theorem d_La_law_953 : decode code 953 = .ok (.iload 4, 2) := by decide +kernel
theorem d_La_law_955 : decode code 955 = .ok (.iconst 1, 1) := by decide +kernel
theorem d_La_law_956 : decode code 956 = .ok (.iadd, 1) := by decide +kernel
theorem d_La_law_957 : decode code 957 = .ok (.iaload, 1) := by decide +kernel
theorem d_La_law_958 : decode code 958 = .ok (.invokevirtual 122, 3) := by decide +kernel
theorem d_La_law_961 : decode code 961 = .ok (.istore 6, 2) := by decide +kernel
theorem d_La_law_963 : decode code 963 = .ok (.aload_n 2, 1) := by decide +kernel
theorem d_La_law_964 : decode code 964 = .ok (.invokevirtual 82, 3) := by decide +kernel
theorem d_La_law_967 : decode code 967 = .ok (.iload 5, 2) := by decide +kernel
theorem d_La_law_969 : decode code 969 = .ok (.if_icmp .eq 5, 3) := by decide +kernel
theorem d_La_law_972 : decode code 972 = .ok (.iconst 0, 1) := by decide +kernel
theorem d_La_law_973 : decode code 973 = .ok (.ireturn, 1) := by decide +kernel
theorem d_La_law_974 : decode code 974 = .ok (.iload 5, 2) := by decide +kernel
theorem d_La_law_976 : decode code 976 = .ok (.ifCond .ne 15, 3) := by decide +kernel
theorem d_La_law_979 : decode code 979 = .ok (.aload_n 3, 1) := by decide +kernel
theorem d_La_law_980 : decode code 980 = .ok (.iconst 0, 1) := by decide +kernel
theorem d_La_law_981 : decode code 981 = .ok (.laload, 1) := by decide +kernel
theorem d_La_law_982 : decode code 982 = .ok (.iload 6, 2) := by decide +kernel
theorem d_La_law_984 : decode code 984 = .ok (.i2l, 1) := by decide +kernel
theorem d_La_law_985 : decode code 985 = .ok (.lcmp, 1) := by decide +kernel
theorem d_La_law_986 : decode code 986 = .ok (.ifCond .eq 5, 3) := by decide +kernel
theorem d_La_law_989 : decode code 989 = .ok (.iconst 0, 1) := by decide +kernel
theorem d_La_law_990 : decode code 990 = .ok (.ireturn, 1) := by decide +kernel
theorem d_La_law_991 : decode code 991 = .ok (.goto 165, 3) := by decide +kernel
theorem d_La_law_994 : decode code 994 = .ok (.aload_n 1, 1) := by decide +kernel
theorem d_La_law_995 : decode code 995 = .ok (.aload_n 0, 1) := by decide +kernel
theorem d_La_law_996 : decode code 996 = .ok (.iload 4, 2) := by decide +kernel
theorem d_La_law_998 : decode code 998 = .ok (.iconst 1, 1) := by decide +kernel
theorem d_La_law_999 : decode code 999 = .ok (.iadd, 1) := by decide +kernel
theorem d_La_law_1000 : decode code 1000 = .ok (.iaload, 1) := by decide +kernel
theorem d_La_law_1001 : decode code 1001 = .ok (.aload_n 0, 1) := by decide +kernel
theorem d_La_law_1002 : decode code 1002 = .ok (.iload 4, 2) := by decide +kernel
theorem d_La_law_1004 : decode code 1004 = .ok (.iconst 2, 1) := by decide +kernel
theorem d_La_law_1005 : decode code 1005 = .ok (.iadd, 1) := by decide +kernel
theorem d_La_law_1006 : decode code 1006 = .ok (.iaload, 1) := by decide +kernel
theorem d_La_law_1007 : decode code 1007 = .ok (.aload_n 3, 1) := by decide +kernel
theorem d_La_law_1008 : decode code 1008 = .ok (.invokestatic 123, 3) := by decide +kernel
theorem d_La_law_1011 : decode code 1011 = .ok (.istore 5, 2) := by decide +kernel
theorem d_La_law_1013 : decode code 1013 = .ok (.aload_n 2, 1) := by decide +kernel
theorem d_La_law_1014 : decode code 1014 = .ok (.aload_n 0, 1) := by decide +kernel
theorem d_La_law_1015 : decode code 1015 = .ok (.iload 4, 2) := by decide +kernel
theorem d_La_law_1017 : decode code 1017 = .ok (.iconst 1, 1) := by decide +kernel
theorem d_La_law_1018 : decode code 1018 = .ok (.iadd, 1) := by decide +kernel
theorem d_La_law_1019 : decode code 1019 = .ok (.iaload, 1) := by decide +kernel
theorem d_La_law_1020 : decode code 1020 = .ok (.aload_n 0, 1) := by decide +kernel
theorem d_La_law_1021 : decode code 1021 = .ok (.iload 4, 2) := by decide +kernel
theorem d_La_law_1023 : decode code 1023 = .ok (.iconst 2, 1) := by decide +kernel
theorem d_La_law_1024 : decode code 1024 = .ok (.iadd, 1) := by decide +kernel
theorem d_La_law_1025 : decode code 1025 = .ok (.iaload, 1) := by decide +kernel
theorem d_La_law_1026 : decode code 1026 = .ok (.invokevirtual 126, 3) := by decide +kernel
theorem d_La_law_1029 : decode code 1029 = .ok (.istore 6, 2) := by decide +kernel
theorem d_La_law_1031 : decode code 1031 = .ok (.aload_n 2, 1) := by decide +kernel
theorem d_La_law_1032 : decode code 1032 = .ok (.invokevirtual 82, 3) := by decide +kernel
theorem d_La_law_1035 : decode code 1035 = .ok (.iload 5, 2) := by decide +kernel
theorem d_La_law_1037 : decode code 1037 = .ok (.if_icmp .eq 5, 3) := by decide +kernel
theorem d_La_law_1040 : decode code 1040 = .ok (.iconst 0, 1) := by decide +kernel
theorem d_La_law_1041 : decode code 1041 = .ok (.ireturn, 1) := by decide +kernel
theorem d_La_law_1042 : decode code 1042 = .ok (.iload 5, 2) := by decide +kernel
theorem d_La_law_1044 : decode code 1044 = .ok (.ifCond .ne 15, 3) := by decide +kernel
theorem d_La_law_1047 : decode code 1047 = .ok (.aload_n 3, 1) := by decide +kernel
theorem d_La_law_1048 : decode code 1048 = .ok (.iconst 0, 1) := by decide +kernel
theorem d_La_law_1049 : decode code 1049 = .ok (.laload, 1) := by decide +kernel
theorem d_La_law_1050 : decode code 1050 = .ok (.iload 6, 2) := by decide +kernel
theorem d_La_law_1052 : decode code 1052 = .ok (.i2l, 1) := by decide +kernel
theorem d_La_law_1053 : decode code 1053 = .ok (.lcmp, 1) := by decide +kernel
theorem d_La_law_1054 : decode code 1054 = .ok (.ifCond .eq 5, 3) := by decide +kernel
theorem d_La_law_1057 : decode code 1057 = .ok (.iconst 0, 1) := by decide +kernel
theorem d_La_law_1058 : decode code 1058 = .ok (.ireturn, 1) := by decide +kernel
theorem d_La_law_1059 : decode code 1059 = .ok (.goto 97, 3) := by decide +kernel
theorem d_La_law_1062 : decode code 1062 = .ok (.aload_n 1, 1) := by decide +kernel
theorem d_La_law_1063 : decode code 1063 = .ok (.aload_n 3, 1) := by decide +kernel
theorem d_La_law_1064 : decode code 1064 = .ok (.invokestatic 127, 3) := by decide +kernel
theorem d_La_law_1067 : decode code 1067 = .ok (.istore 5, 2) := by decide +kernel
theorem d_La_law_1069 : decode code 1069 = .ok (.aload_n 2, 1) := by decide +kernel
theorem d_La_law_1070 : decode code 1070 = .ok (.invokevirtual 129, 3) := by decide +kernel
theorem d_La_law_1073 : decode code 1073 = .ok (.lstore 6, 2) := by decide +kernel
theorem d_La_law_1075 : decode code 1075 = .ok (.aload_n 2, 1) := by decide +kernel
theorem d_La_law_1076 : decode code 1076 = .ok (.invokevirtual 82, 3) := by decide +kernel
theorem d_La_law_1079 : decode code 1079 = .ok (.iload 5, 2) := by decide +kernel
theorem d_La_law_1081 : decode code 1081 = .ok (.if_icmp .eq 5, 3) := by decide +kernel
theorem d_La_law_1084 : decode code 1084 = .ok (.iconst 0, 1) := by decide +kernel
theorem d_La_law_1085 : decode code 1085 = .ok (.ireturn, 1) := by decide +kernel
theorem d_La_law_1086 : decode code 1086 = .ok (.iload 5, 2) := by decide +kernel
theorem d_La_law_1088 : decode code 1088 = .ok (.ifCond .ne 14, 3) := by decide +kernel
theorem d_La_law_1091 : decode code 1091 = .ok (.aload_n 3, 1) := by decide +kernel
theorem d_La_law_1092 : decode code 1092 = .ok (.iconst 0, 1) := by decide +kernel
theorem d_La_law_1093 : decode code 1093 = .ok (.laload, 1) := by decide +kernel
theorem d_La_law_1094 : decode code 1094 = .ok (.lload 6, 2) := by decide +kernel
theorem d_La_law_1096 : decode code 1096 = .ok (.lcmp, 1) := by decide +kernel
theorem d_La_law_1097 : decode code 1097 = .ok (.ifCond .eq 5, 3) := by decide +kernel
theorem d_La_law_1100 : decode code 1100 = .ok (.iconst 0, 1) := by decide +kernel
theorem d_La_law_1101 : decode code 1101 = .ok (.ireturn, 1) := by decide +kernel
theorem d_La_law_1102 : decode code 1102 = .ok (.goto 54, 3) := by decide +kernel
theorem d_La_law_1105 : decode code 1105 = .ok (.aload_n 1, 1) := by decide +kernel
theorem d_La_law_1106 : decode code 1106 = .ok (.aload_n 3, 1) := by decide +kernel
theorem d_La_law_1107 : decode code 1107 = .ok (.invokestatic 130, 3) := by decide +kernel
theorem d_La_law_1110 : decode code 1110 = .ok (.istore 5, 2) := by decide +kernel
theorem d_La_law_1112 : decode code 1112 = .ok (.aload_n 2, 1) := by decide +kernel
theorem d_La_law_1113 : decode code 1113 = .ok (.invokevirtual 132, 3) := by decide +kernel
theorem d_La_law_1116 : decode code 1116 = .ok (.istore 6, 2) := by decide +kernel
theorem d_La_law_1118 : decode code 1118 = .ok (.aload_n 2, 1) := by decide +kernel
theorem d_La_law_1119 : decode code 1119 = .ok (.invokevirtual 82, 3) := by decide +kernel
theorem d_La_law_1122 : decode code 1122 = .ok (.iload 5, 2) := by decide +kernel
theorem d_La_law_1124 : decode code 1124 = .ok (.if_icmp .eq 5, 3) := by decide +kernel
theorem d_La_law_1127 : decode code 1127 = .ok (.iconst 0, 1) := by decide +kernel
theorem d_La_law_1128 : decode code 1128 = .ok (.ireturn, 1) := by decide +kernel
theorem d_La_law_1129 : decode code 1129 = .ok (.iload 5, 2) := by decide +kernel
theorem d_La_law_1131 : decode code 1131 = .ok (.ifCond .ne 22, 3) := by decide +kernel
theorem d_La_law_1134 : decode code 1134 = .ok (.aload_n 3, 1) := by decide +kernel
theorem d_La_law_1135 : decode code 1135 = .ok (.iconst 0, 1) := by decide +kernel
theorem d_La_law_1136 : decode code 1136 = .ok (.laload, 1) := by decide +kernel
theorem d_La_law_1137 : decode code 1137 = .ok (.iload 6, 2) := by decide +kernel
theorem d_La_law_1139 : decode code 1139 = .ok (.ifCond .eq 7, 3) := by decide +kernel
theorem d_La_law_1142 : decode code 1142 = .ok (.lconst 1, 1) := by decide +kernel
theorem d_La_law_1143 : decode code 1143 = .ok (.goto 4, 3) := by decide +kernel
theorem d_La_law_1146 : decode code 1146 = .ok (.lconst 0, 1) := by decide +kernel
theorem d_La_law_1147 : decode code 1147 = .ok (.lcmp, 1) := by decide +kernel
theorem d_La_law_1148 : decode code 1148 = .ok (.ifCond .eq 5, 3) := by decide +kernel
theorem d_La_law_1151 : decode code 1151 = .ok (.iconst 0, 1) := by decide +kernel
theorem d_La_law_1152 : decode code 1152 = .ok (.ireturn, 1) := by decide +kernel
theorem d_La_law_1153 : decode code 1153 = .ok (.goto 3, 3) := by decide +kernel
theorem d_La_law_1156 : decode code 1156 = .ok (.iinc 4 6, 3) := by decide +kernel
theorem d_La_law_1159 : decode code 1159 = .ok (.goto (-1114), 3) := by decide +kernel
theorem d_La_law_1162 : decode code 1162 = .ok (.iconst 1, 1) := by decide +kernel
theorem d_La_law_1163 : decode code 1163 = .ok (.ireturn, 1) := by decide +kernel

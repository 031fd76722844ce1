theorem d_Lr_init_0 : decode c_Lr_init 0 = .ok (.aload_n 0, 1) := by decide +kernel
theorem d_Lr_init_1 : decode c_Lr_init 1 = .ok (.invokespecial 1, 3) := by decide +kernel
theorem d_Lr_init_4 : decode c_Lr_init 4 = .ok (.iconst 1, 1) := by decide +kernel
theorem d_Lr_init_5 : decode c_Lr_init 5 = .ok (.bipush 16, 2) := by decide +kernel
theorem d_Lr_init_7 : decode c_Lr_init 7 = .ok (.iload_n 1, 1) := by decide +kernel
theorem d_Lr_init_8 : decode c_Lr_init 8 = .ok (.invokestatic 9, 3) := by decide +kernel
theorem d_Lr_init_11 : decode c_Lr_init 11 = .ok (.invokestatic 15, 3) := by decide +kernel
theorem d_Lr_init_14 : decode c_Lr_init 14 = .ok (.istore 4, 2) := by decide +kernel
theorem d_Lr_init_16 : decode c_Lr_init 16 = .ok (.lconst 1, 1) := by decide +kernel
theorem d_Lr_init_17 : decode c_Lr_init 17 = .ok (.ldc2_w 18, 3) := by decide +kernel
theorem d_Lr_init_20 : decode c_Lr_init 20 = .ok (.lload_n 2, 1) := by decide +kernel
theorem d_Lr_init_21 : decode c_Lr_init 21 = .ok (.invokestatic 20, 3) := by decide +kernel
theorem d_Lr_init_24 : decode c_Lr_init 24 = .ok (.invokestatic 23, 3) := by decide +kernel
theorem d_Lr_init_27 : decode c_Lr_init 27 = .ok (.l2i, 1) := by decide +kernel
theorem d_Lr_init_28 : decode c_Lr_init 28 = .ok (.istore 5, 2) := by decide +kernel
theorem d_Lr_init_30 : decode c_Lr_init 30 = .ok (.aload_n 0, 1) := by decide +kernel
theorem d_Lr_init_31 : decode c_Lr_init 31 = .ok (.new 25, 3) := by decide +kernel
theorem d_Lr_init_34 : decode c_Lr_init 34 = .ok (.dup, 1) := by decide +kernel
theorem d_Lr_init_35 : decode c_Lr_init 35 = .ok (.iload 4, 2) := by decide +kernel
theorem d_Lr_init_37 : decode c_Lr_init 37 = .ok (.iload 5, 2) := by decide +kernel
theorem d_Lr_init_39 : decode c_Lr_init 39 = .ok (.invokespecial 27, 3) := by decide +kernel
theorem d_Lr_init_42 : decode c_Lr_init 42 = .ok (.putfield 30, 3) := by decide +kernel
theorem d_Lr_init_45 : decode c_Lr_init 45 = .ok (.aload_n 0, 1) := by decide +kernel
theorem d_Lr_init_46 : decode c_Lr_init 46 = .ok (.new 34, 3) := by decide +kernel
theorem d_Lr_init_49 : decode c_Lr_init 49 = .ok (.dup, 1) := by decide +kernel
theorem d_Lr_init_50 : decode c_Lr_init 50 = .ok (.invokespecial 36, 3) := by decide +kernel
theorem d_Lr_init_53 : decode c_Lr_init 53 = .ok (.putfield 37, 3) := by decide +kernel
theorem d_Lr_init_56 : decode c_Lr_init 56 = .ok (.aload_n 0, 1) := by decide +kernel
theorem d_Lr_init_57 : decode c_Lr_init 57 = .ok (.new 41, 3) := by decide +kernel
theorem d_Lr_init_60 : decode c_Lr_init 60 = .ok (.dup, 1) := by decide +kernel
theorem d_Lr_init_61 : decode c_Lr_init 61 = .ok (.aload_n 0, 1) := by decide +kernel
theorem d_Lr_init_62 : decode c_Lr_init 62 = .ok (.getfield 37, 3) := by decide +kernel
theorem d_Lr_init_65 : decode c_Lr_init 65 = .ok (.invokespecial 43, 3) := by decide +kernel
theorem d_Lr_init_68 : decode c_Lr_init 68 = .ok (.putfield 46, 3) := by decide +kernel
theorem d_Lr_init_71 : decode c_Lr_init 71 = .ok (.aload_n 0, 1) := by decide +kernel
theorem d_Lr_init_72 : decode c_Lr_init 72 = .ok (.new 50, 3) := by decide +kernel
theorem d_Lr_init_75 : decode c_Lr_init 75 = .ok (.dup, 1) := by decide +kernel
theorem d_Lr_init_76 : decode c_Lr_init 76 = .ok (.aload_n 0, 1) := by decide +kernel
theorem d_Lr_init_77 : decode c_Lr_init 77 = .ok (.getfield 30, 3) := by decide +kernel
theorem d_Lr_init_80 : decode c_Lr_init 80 = .ok (.aload_n 0, 1) := by decide +kernel
theorem d_Lr_init_81 : decode c_Lr_init 81 = .ok (.getfield 37, 3) := by decide +kernel
theorem d_Lr_init_84 : decode c_Lr_init 84 = .ok (.invokespecial 52, 3) := by decide +kernel
theorem d_Lr_init_87 : decode c_Lr_init 87 = .ok (.putfield 55, 3) := by decide +kernel
theorem d_Lr_init_90 : decode c_Lr_init 90 = .ok (.aload_n 0, 1) := by decide +kernel
theorem d_Lr_init_91 : decode c_Lr_init 91 = .ok (.iconst 0, 1) := by decide +kernel
theorem d_Lr_init_92 : decode c_Lr_init 92 = .ok (.putfield 59, 3) := by decide +kernel
theorem d_Lr_init_95 : decode c_Lr_init 95 = .ok (.return_, 1) := by decide +kernel
theorem d_Lr_cell_0 : decode c_Lr_cell 0 = .ok (.aload_n 0, 1) := by decide +kernel
theorem d_Lr_cell_1 : decode c_Lr_cell 1 = .ok (.getfield 37, 3) := by decide +kernel
theorem d_Lr_cell_4 : decode c_Lr_cell 4 = .ok (.getfield 63, 3) := by decide +kernel
theorem d_Lr_cell_7 : decode c_Lr_cell 7 = .ok (.bipush 60, 2) := by decide +kernel
theorem d_Lr_cell_9 : decode c_Lr_cell 9 = .ok (.if_icmp .lt 13, 3) := by decide +kernel
theorem d_Lr_cell_12 : decode c_Lr_cell 12 = .ok (.new 67, 3) := by decide +kernel
theorem d_Lr_cell_15 : decode c_Lr_cell 15 = .ok (.dup, 1) := by decide +kernel
theorem d_Lr_cell_16 : decode c_Lr_cell 16 = .ok (.ldc 69, 2) := by decide +kernel
theorem d_Lr_cell_18 : decode c_Lr_cell 18 = .ok (.invokespecial 71, 3) := by decide +kernel
theorem d_Lr_cell_21 : decode c_Lr_cell 21 = .ok (.athrow, 1) := by decide +kernel
theorem d_Lr_cell_22 : decode c_Lr_cell 22 = .ok (.lload_n 1, 1) := by decide +kernel
theorem d_Lr_cell_23 : decode c_Lr_cell 23 = .ok (.lconst 1, 1) := by decide +kernel
theorem d_Lr_cell_24 : decode c_Lr_cell 24 = .ok (.lcmp, 1) := by decide +kernel
theorem d_Lr_cell_25 : decode c_Lr_cell 25 = .ok (.ifCond .lt 16, 3) := by decide +kernel
theorem d_Lr_cell_28 : decode c_Lr_cell 28 = .ok (.lload_n 1, 1) := by decide +kernel
theorem d_Lr_cell_29 : decode c_Lr_cell 29 = .ok (.ldc2_w 74, 3) := by decide +kernel
theorem d_Lr_cell_32 : decode c_Lr_cell 32 = .ok (.lcmp, 1) := by decide +kernel
theorem d_Lr_cell_33 : decode c_Lr_cell 33 = .ok (.ifCond .gt 8, 3) := by decide +kernel
theorem d_Lr_cell_36 : decode c_Lr_cell 36 = .ok (.iload_n 3, 1) := by decide +kernel
theorem d_Lr_cell_37 : decode c_Lr_cell 37 = .ok (.iconst 1, 1) := by decide +kernel
theorem d_Lr_cell_38 : decode c_Lr_cell 38 = .ok (.if_icmp .eq 13, 3) := by decide +kernel
theorem d_Lr_cell_41 : decode c_Lr_cell 41 = .ok (.new 76, 3) := by decide +kernel
theorem d_Lr_cell_44 : decode c_Lr_cell 44 = .ok (.dup, 1) := by decide +kernel
theorem d_Lr_cell_45 : decode c_Lr_cell 45 = .ok (.ldc 78, 2) := by decide +kernel
theorem d_Lr_cell_47 : decode c_Lr_cell 47 = .ok (.invokespecial 80, 3) := by decide +kernel
theorem d_Lr_cell_50 : decode c_Lr_cell 50 = .ok (.athrow, 1) := by decide +kernel
theorem d_Lr_cell_51 : decode c_Lr_cell 51 = .ok (.aload_n 0, 1) := by decide +kernel
theorem d_Lr_cell_52 : decode c_Lr_cell 52 = .ok (.iconst 0, 1) := by decide +kernel
theorem d_Lr_cell_53 : decode c_Lr_cell 53 = .ok (.putfield 59, 3) := by decide +kernel
theorem d_Lr_cell_56 : decode c_Lr_cell 56 = .ok (.aload_n 0, 1) := by decide +kernel
theorem d_Lr_cell_57 : decode c_Lr_cell 57 = .ok (.getfield 37, 3) := by decide +kernel
theorem d_Lr_cell_60 : decode c_Lr_cell 60 = .ok (.lload_n 1, 1) := by decide +kernel
theorem d_Lr_cell_61 : decode c_Lr_cell 61 = .ok (.l2i, 1) := by decide +kernel
theorem d_Lr_cell_62 : decode c_Lr_cell 62 = .ok (.invokevirtual 81, 3) := by decide +kernel
theorem d_Lr_cell_65 : decode c_Lr_cell 65 = .ok (.ireturn, 1) := by decide +kernel
theorem d_Lr_want_0 : decode c_Lr_want 0 = .ok (.aload_n 0, 1) := by decide +kernel
theorem d_Lr_want_1 : decode c_Lr_want 1 = .ok (.iload_n 1, 1) := by decide +kernel
theorem d_Lr_want_2 : decode c_Lr_want 2 = .ok (.invokevirtual 85, 3) := by decide +kernel
theorem d_Lr_want_5 : decode c_Lr_want 5 = .ok (.aload_n 0, 1) := by decide +kernel
theorem d_Lr_want_6 : decode c_Lr_want 6 = .ok (.iload 4, 2) := by decide +kernel
theorem d_Lr_want_8 : decode c_Lr_want 8 = .ok (.invokevirtual 89, 3) := by decide +kernel
theorem d_Lr_want_11 : decode c_Lr_want 11 = .ok (.lload_n 2, 1) := by decide +kernel
theorem d_Lr_want_12 : decode c_Lr_want 12 = .ok (.lconst 0, 1) := by decide +kernel
theorem d_Lr_want_13 : decode c_Lr_want 13 = .ok (.lcmp, 1) := by decide +kernel
theorem d_Lr_want_14 : decode c_Lr_want 14 = .ok (.ifCond .lt 16, 3) := by decide +kernel
theorem d_Lr_want_17 : decode c_Lr_want 17 = .ok (.lload_n 2, 1) := by decide +kernel
theorem d_Lr_want_18 : decode c_Lr_want 18 = .ok (.aload_n 0, 1) := by decide +kernel
theorem d_Lr_want_19 : decode c_Lr_want 19 = .ok (.getfield 30, 3) := by decide +kernel
theorem d_Lr_want_22 : decode c_Lr_want 22 = .ok (.getfield 92, 3) := by decide +kernel
theorem d_Lr_want_25 : decode c_Lr_want 25 = .ok (.i2l, 1) := by decide +kernel
theorem d_Lr_want_26 : decode c_Lr_want 26 = .ok (.lcmp, 1) := by decide +kernel
theorem d_Lr_want_27 : decode c_Lr_want 27 = .ok (.ifCond .lt 13, 3) := by decide +kernel
theorem d_Lr_want_30 : decode c_Lr_want 30 = .ok (.new 95, 3) := by decide +kernel
theorem d_Lr_want_33 : decode c_Lr_want 33 = .ok (.dup, 1) := by decide +kernel
theorem d_Lr_want_34 : decode c_Lr_want 34 = .ok (.ldc 97, 2) := by decide +kernel
theorem d_Lr_want_36 : decode c_Lr_want 36 = .ok (.invokespecial 99, 3) := by decide +kernel
theorem d_Lr_want_39 : decode c_Lr_want 39 = .ok (.athrow, 1) := by decide +kernel
theorem d_Lr_want_40 : decode c_Lr_want 40 = .ok (.aload_n 0, 1) := by decide +kernel
theorem d_Lr_want_41 : decode c_Lr_want 41 = .ok (.aload_n 0, 1) := by decide +kernel
theorem d_Lr_want_42 : decode c_Lr_want 42 = .ok (.getfield 37, 3) := by decide +kernel
theorem d_Lr_want_45 : decode c_Lr_want 45 = .ok (.iload_n 1, 1) := by decide +kernel
theorem d_Lr_want_46 : decode c_Lr_want 46 = .ok (.lload_n 2, 1) := by decide +kernel
theorem d_Lr_want_47 : decode c_Lr_want 47 = .ok (.l2i, 1) := by decide +kernel
theorem d_Lr_want_48 : decode c_Lr_want 48 = .ok (.iload 4, 2) := by decide +kernel
theorem d_Lr_want_50 : decode c_Lr_want 50 = .ok (.invokevirtual 100, 3) := by decide +kernel
theorem d_Lr_want_53 : decode c_Lr_want 53 = .ok (.invokevirtual 104, 3) := by decide +kernel
theorem d_Lr_want_56 : decode c_Lr_want 56 = .ok (.ireturn, 1) := by decide +kernel
theorem d_Lr_bar_0 : decode c_Lr_bar 0 = .ok (.aload_n 0, 1) := by decide +kernel
theorem d_Lr_bar_1 : decode c_Lr_bar 1 = .ok (.iload_n 1, 1) := by decide +kernel
theorem d_Lr_bar_2 : decode c_Lr_bar 2 = .ok (.invokevirtual 89, 3) := by decide +kernel
theorem d_Lr_bar_5 : decode c_Lr_bar 5 = .ok (.lload_n 2, 1) := by decide +kernel
theorem d_Lr_bar_6 : decode c_Lr_bar 6 = .ok (.lconst 0, 1) := by decide +kernel
theorem d_Lr_bar_7 : decode c_Lr_bar 7 = .ok (.lcmp, 1) := by decide +kernel
theorem d_Lr_bar_8 : decode c_Lr_bar 8 = .ok (.ifCond .lt 37, 3) := by decide +kernel
theorem d_Lr_bar_11 : decode c_Lr_bar 11 = .ok (.lload_n 2, 1) := by decide +kernel
theorem d_Lr_bar_12 : decode c_Lr_bar 12 = .ok (.aload_n 0, 1) := by decide +kernel
theorem d_Lr_bar_13 : decode c_Lr_bar 13 = .ok (.getfield 30, 3) := by decide +kernel
theorem d_Lr_bar_16 : decode c_Lr_bar 16 = .ok (.getfield 92, 3) := by decide +kernel
theorem d_Lr_bar_19 : decode c_Lr_bar 19 = .ok (.i2l, 1) := by decide +kernel
theorem d_Lr_bar_20 : decode c_Lr_bar 20 = .ok (.lcmp, 1) := by decide +kernel
theorem d_Lr_bar_21 : decode c_Lr_bar 21 = .ok (.ifCond .gt 24, 3) := by decide +kernel
theorem d_Lr_bar_24 : decode c_Lr_bar 24 = .ok (.lload 4, 2) := by decide +kernel
theorem d_Lr_bar_26 : decode c_Lr_bar 26 = .ok (.lload_n 2, 1) := by decide +kernel
theorem d_Lr_bar_27 : decode c_Lr_bar 27 = .ok (.lcmp, 1) := by decide +kernel
theorem d_Lr_bar_28 : decode c_Lr_bar 28 = .ok (.ifCond .lt 17, 3) := by decide +kernel
theorem d_Lr_bar_31 : decode c_Lr_bar 31 = .ok (.lload 4, 2) := by decide +kernel
theorem d_Lr_bar_33 : decode c_Lr_bar 33 = .ok (.aload_n 0, 1) := by decide +kernel
theorem d_Lr_bar_34 : decode c_Lr_bar 34 = .ok (.getfield 30, 3) := by decide +kernel
theorem d_Lr_bar_37 : decode c_Lr_bar 37 = .ok (.getfield 92, 3) := by decide +kernel
theorem d_Lr_bar_40 : decode c_Lr_bar 40 = .ok (.i2l, 1) := by decide +kernel
theorem d_Lr_bar_41 : decode c_Lr_bar 41 = .ok (.lcmp, 1) := by decide +kernel
theorem d_Lr_bar_42 : decode c_Lr_bar 42 = .ok (.ifCond .le 13, 3) := by decide +kernel
theorem d_Lr_bar_45 : decode c_Lr_bar 45 = .ok (.new 95, 3) := by decide +kernel
theorem d_Lr_bar_48 : decode c_Lr_bar 48 = .ok (.dup, 1) := by decide +kernel
theorem d_Lr_bar_49 : decode c_Lr_bar 49 = .ok (.ldc 108, 2) := by decide +kernel
theorem d_Lr_bar_51 : decode c_Lr_bar 51 = .ok (.invokespecial 99, 3) := by decide +kernel
theorem d_Lr_bar_54 : decode c_Lr_bar 54 = .ok (.athrow, 1) := by decide +kernel
theorem d_Lr_bar_55 : decode c_Lr_bar 55 = .ok (.aload_n 0, 1) := by decide +kernel
theorem d_Lr_bar_56 : decode c_Lr_bar 56 = .ok (.aload_n 0, 1) := by decide +kernel
theorem d_Lr_bar_57 : decode c_Lr_bar 57 = .ok (.getfield 30, 3) := by decide +kernel
theorem d_Lr_bar_60 : decode c_Lr_bar 60 = .ok (.iload_n 1, 1) := by decide +kernel
theorem d_Lr_bar_61 : decode c_Lr_bar 61 = .ok (.lload_n 2, 1) := by decide +kernel
theorem d_Lr_bar_62 : decode c_Lr_bar 62 = .ok (.l2i, 1) := by decide +kernel
theorem d_Lr_bar_63 : decode c_Lr_bar 63 = .ok (.lload 4, 2) := by decide +kernel
theorem d_Lr_bar_65 : decode c_Lr_bar 65 = .ok (.l2i, 1) := by decide +kernel
theorem d_Lr_bar_66 : decode c_Lr_bar 66 = .ok (.invokevirtual 110, 3) := by decide +kernel
theorem d_Lr_bar_69 : decode c_Lr_bar 69 = .ok (.invokevirtual 104, 3) := by decide +kernel
theorem d_Lr_bar_72 : decode c_Lr_bar 72 = .ok (.ireturn, 1) := by decide +kernel
theorem d_Lr_kind_0 : decode c_Lr_kind 0 = .ok (.aload_n 0, 1) := by decide +kernel
theorem d_Lr_kind_1 : decode c_Lr_kind 1 = .ok (.iload_n 1, 1) := by decide +kernel
theorem d_Lr_kind_2 : decode c_Lr_kind 2 = .ok (.invokevirtual 85, 3) := by decide +kernel
theorem d_Lr_kind_5 : decode c_Lr_kind 5 = .ok (.iload_n 2, 1) := by decide +kernel
theorem d_Lr_kind_6 : decode c_Lr_kind 6 = .ok (.iload_n 3, 1) := by decide +kernel
theorem d_Lr_kind_7 : decode c_Lr_kind 7 = .ok (.invokestatic 113, 3) := by decide +kernel
theorem d_Lr_kind_10 : decode c_Lr_kind 10 = .ok (.aload_n 0, 1) := by decide +kernel
theorem d_Lr_kind_11 : decode c_Lr_kind 11 = .ok (.aload_n 0, 1) := by decide +kernel
theorem d_Lr_kind_12 : decode c_Lr_kind 12 = .ok (.getfield 37, 3) := by decide +kernel
theorem d_Lr_kind_15 : decode c_Lr_kind 15 = .ok (.iload_n 1, 1) := by decide +kernel
theorem d_Lr_kind_16 : decode c_Lr_kind 16 = .ok (.iload_n 2, 1) := by decide +kernel
theorem d_Lr_kind_17 : decode c_Lr_kind 17 = .ok (.iload_n 3, 1) := by decide +kernel
theorem d_Lr_kind_18 : decode c_Lr_kind 18 = .ok (.invokevirtual 116, 3) := by decide +kernel
theorem d_Lr_kind_21 : decode c_Lr_kind 21 = .ok (.invokevirtual 104, 3) := by decide +kernel
theorem d_Lr_kind_24 : decode c_Lr_kind 24 = .ok (.ireturn, 1) := by decide +kernel
theorem d_Lr_space_0 : decode c_Lr_space 0 = .ok (.iload_n 1, 1) := by decide +kernel
theorem d_Lr_space_1 : decode c_Lr_space 1 = .ok (.iload_n 2, 1) := by decide +kernel
theorem d_Lr_space_2 : decode c_Lr_space 2 = .ok (.invokestatic 113, 3) := by decide +kernel
theorem d_Lr_space_5 : decode c_Lr_space 5 = .ok (.lload_n 3, 1) := by decide +kernel
theorem d_Lr_space_6 : decode c_Lr_space 6 = .ok (.lconst 0, 1) := by decide +kernel
theorem d_Lr_space_7 : decode c_Lr_space 7 = .ok (.lcmp, 1) := by decide +kernel
theorem d_Lr_space_8 : decode c_Lr_space 8 = .ok (.ifCond .lt 11, 3) := by decide +kernel
theorem d_Lr_space_11 : decode c_Lr_space 11 = .ok (.lload_n 3, 1) := by decide +kernel
theorem d_Lr_space_12 : decode c_Lr_space 12 = .ok (.ldc2_w 119, 3) := by decide +kernel
theorem d_Lr_space_15 : decode c_Lr_space 15 = .ok (.lcmp, 1) := by decide +kernel
theorem d_Lr_space_16 : decode c_Lr_space 16 = .ok (.ifCond .le 13, 3) := by decide +kernel
theorem d_Lr_space_19 : decode c_Lr_space 19 = .ok (.new 76, 3) := by decide +kernel
theorem d_Lr_space_22 : decode c_Lr_space 22 = .ok (.dup, 1) := by decide +kernel
theorem d_Lr_space_23 : decode c_Lr_space 23 = .ok (.ldc 121, 2) := by decide +kernel
theorem d_Lr_space_25 : decode c_Lr_space 25 = .ok (.invokespecial 80, 3) := by decide +kernel
theorem d_Lr_space_28 : decode c_Lr_space 28 = .ok (.athrow, 1) := by decide +kernel
theorem d_Lr_space_29 : decode c_Lr_space 29 = .ok (.aload_n 0, 1) := by decide +kernel
theorem d_Lr_space_30 : decode c_Lr_space 30 = .ok (.aload_n 0, 1) := by decide +kernel
theorem d_Lr_space_31 : decode c_Lr_space 31 = .ok (.getfield 37, 3) := by decide +kernel
theorem d_Lr_space_34 : decode c_Lr_space 34 = .ok (.iload_n 1, 1) := by decide +kernel
theorem d_Lr_space_35 : decode c_Lr_space 35 = .ok (.iload_n 2, 1) := by decide +kernel
theorem d_Lr_space_36 : decode c_Lr_space 36 = .ok (.lload_n 3, 1) := by decide +kernel
theorem d_Lr_space_37 : decode c_Lr_space 37 = .ok (.l2i, 1) := by decide +kernel
theorem d_Lr_space_38 : decode c_Lr_space 38 = .ok (.invokevirtual 123, 3) := by decide +kernel
theorem d_Lr_space_41 : decode c_Lr_space 41 = .ok (.invokevirtual 104, 3) := by decide +kernel
theorem d_Lr_space_44 : decode c_Lr_space 44 = .ok (.ireturn, 1) := by decide +kernel
theorem d_Lr_run_0 : decode c_Lr_run 0 = .ok (.aload_n 0, 1) := by decide +kernel
theorem d_Lr_run_1 : decode c_Lr_run 1 = .ok (.getfield 55, 3) := by decide +kernel
theorem d_Lr_run_4 : decode c_Lr_run 4 = .ok (.invokevirtual 126, 3) := by decide +kernel
theorem d_Lr_run_7 : decode c_Lr_run 7 = .ok (.istore_n 1, 1) := by decide +kernel
theorem d_Lr_run_8 : decode c_Lr_run 8 = .ok (.aload_n 0, 1) := by decide +kernel
theorem d_Lr_run_9 : decode c_Lr_run 9 = .ok (.iload_n 1, 1) := by decide +kernel
theorem d_Lr_run_10 : decode c_Lr_run 10 = .ok (.iconst (-1), 1) := by decide +kernel
theorem d_Lr_run_11 : decode c_Lr_run 11 = .ok (.if_icmp .ne 7, 3) := by decide +kernel
theorem d_Lr_run_14 : decode c_Lr_run 14 = .ok (.iconst 1, 1) := by decide +kernel
theorem d_Lr_run_15 : decode c_Lr_run 15 = .ok (.goto 4, 3) := by decide +kernel
theorem d_Lr_run_18 : decode c_Lr_run 18 = .ok (.iconst 0, 1) := by decide +kernel
theorem d_Lr_run_19 : decode c_Lr_run 19 = .ok (.putfield 59, 3) := by decide +kernel
theorem d_Lr_run_22 : decode c_Lr_run 22 = .ok (.aload_n 0, 1) := by decide +kernel
theorem d_Lr_run_23 : decode c_Lr_run 23 = .ok (.getfield 59, 3) := by decide +kernel
theorem d_Lr_run_26 : decode c_Lr_run 26 = .ok (.ifCond .eq 7, 3) := by decide +kernel
theorem d_Lr_run_29 : decode c_Lr_run 29 = .ok (.iconst 0, 1) := by decide +kernel
theorem d_Lr_run_30 : decode c_Lr_run 30 = .ok (.goto 6, 3) := by decide +kernel
theorem d_Lr_run_33 : decode c_Lr_run 33 = .ok (.iconst 1, 1) := by decide +kernel
theorem d_Lr_run_34 : decode c_Lr_run 34 = .ok (.iload_n 1, 1) := by decide +kernel
theorem d_Lr_run_35 : decode c_Lr_run 35 = .ok (.iadd, 1) := by decide +kernel
theorem d_Lr_run_36 : decode c_Lr_run 36 = .ok (.ireturn, 1) := by decide +kernel
theorem d_Lr_at_0 : decode c_Lr_at 0 = .ok (.aload_n 0, 1) := by decide +kernel
theorem d_Lr_at_1 : decode c_Lr_at 1 = .ok (.iload_n 1, 1) := by decide +kernel
theorem d_Lr_at_2 : decode c_Lr_at 2 = .ok (.invokevirtual 85, 3) := by decide +kernel
theorem d_Lr_at_5 : decode c_Lr_at 5 = .ok (.aload_n 0, 1) := by decide +kernel
theorem d_Lr_at_6 : decode c_Lr_at 6 = .ok (.invokevirtual 130, 3) := by decide +kernel
theorem d_Lr_at_9 : decode c_Lr_at 9 = .ok (.aload_n 0, 1) := by decide +kernel
theorem d_Lr_at_10 : decode c_Lr_at 10 = .ok (.getfield 37, 3) := by decide +kernel
theorem d_Lr_at_13 : decode c_Lr_at 13 = .ok (.getfield 133, 3) := by decide +kernel
theorem d_Lr_at_16 : decode c_Lr_at 16 = .ok (.iload_n 1, 1) := by decide +kernel
theorem d_Lr_at_17 : decode c_Lr_at 17 = .ok (.iaload, 1) := by decide +kernel
theorem d_Lr_at_18 : decode c_Lr_at 18 = .ok (.i2l, 1) := by decide +kernel
theorem d_Lr_at_19 : decode c_Lr_at 19 = .ok (.lreturn, 1) := by decide +kernel
theorem d_Lr_rowOf_0 : decode c_Lr_rowOf 0 = .ok (.aload_n 0, 1) := by decide +kernel
theorem d_Lr_rowOf_1 : decode c_Lr_rowOf 1 = .ok (.iload_n 1, 1) := by decide +kernel
theorem d_Lr_rowOf_2 : decode c_Lr_rowOf 2 = .ok (.invokevirtual 85, 3) := by decide +kernel
theorem d_Lr_rowOf_5 : decode c_Lr_rowOf 5 = .ok (.aload_n 0, 1) := by decide +kernel
theorem d_Lr_rowOf_6 : decode c_Lr_rowOf 6 = .ok (.invokevirtual 130, 3) := by decide +kernel
theorem d_Lr_rowOf_9 : decode c_Lr_rowOf 9 = .ok (.aload_n 0, 1) := by decide +kernel
theorem d_Lr_rowOf_10 : decode c_Lr_rowOf 10 = .ok (.getfield 37, 3) := by decide +kernel
theorem d_Lr_rowOf_13 : decode c_Lr_rowOf 13 = .ok (.getfield 137, 3) := by decide +kernel
theorem d_Lr_rowOf_16 : decode c_Lr_rowOf 16 = .ok (.iload_n 1, 1) := by decide +kernel
theorem d_Lr_rowOf_17 : decode c_Lr_rowOf 17 = .ok (.iaload, 1) := by decide +kernel
theorem d_Lr_rowOf_18 : decode c_Lr_rowOf 18 = .ok (.ireturn, 1) := by decide +kernel
theorem d_Lr_moved_0 : decode c_Lr_moved 0 = .ok (.aload_n 0, 1) := by decide +kernel
theorem d_Lr_moved_1 : decode c_Lr_moved 1 = .ok (.invokevirtual 130, 3) := by decide +kernel
theorem d_Lr_moved_4 : decode c_Lr_moved 4 = .ok (.aload_n 0, 1) := by decide +kernel
theorem d_Lr_moved_5 : decode c_Lr_moved 5 = .ok (.getfield 37, 3) := by decide +kernel
theorem d_Lr_moved_8 : decode c_Lr_moved 8 = .ok (.invokevirtual 140, 3) := by decide +kernel
theorem d_Lr_moved_11 : decode c_Lr_moved 11 = .ok (.lreturn, 1) := by decide +kernel
theorem d_Lr_mirrored_0 : decode c_Lr_mirrored 0 = .ok (.aload_n 0, 1) := by decide +kernel
theorem d_Lr_mirrored_1 : decode c_Lr_mirrored 1 = .ok (.iload_n 1, 1) := by decide +kernel
theorem d_Lr_mirrored_2 : decode c_Lr_mirrored 2 = .ok (.invokevirtual 85, 3) := by decide +kernel
theorem d_Lr_mirrored_5 : decode c_Lr_mirrored 5 = .ok (.aload_n 0, 1) := by decide +kernel
theorem d_Lr_mirrored_6 : decode c_Lr_mirrored 6 = .ok (.invokevirtual 130, 3) := by decide +kernel
theorem d_Lr_mirrored_9 : decode c_Lr_mirrored 9 = .ok (.aload_n 0, 1) := by decide +kernel
theorem d_Lr_mirrored_10 : decode c_Lr_mirrored 10 = .ok (.getfield 37, 3) := by decide +kernel
theorem d_Lr_mirrored_13 : decode c_Lr_mirrored 13 = .ok (.getfield 137, 3) := by decide +kernel
theorem d_Lr_mirrored_16 : decode c_Lr_mirrored 16 = .ok (.iload_n 1, 1) := by decide +kernel
theorem d_Lr_mirrored_17 : decode c_Lr_mirrored 17 = .ok (.iaload, 1) := by decide +kernel
theorem d_Lr_mirrored_18 : decode c_Lr_mirrored 18 = .ok (.iconst 2, 1) := by decide +kernel
theorem d_Lr_mirrored_19 : decode c_Lr_mirrored 19 = .ok (.irem, 1) := by decide +kernel
theorem d_Lr_mirrored_20 : decode c_Lr_mirrored 20 = .ok (.iconst 1, 1) := by decide +kernel
theorem d_Lr_mirrored_21 : decode c_Lr_mirrored 21 = .ok (.if_icmp .ne 7, 3) := by decide +kernel
theorem d_Lr_mirrored_24 : decode c_Lr_mirrored 24 = .ok (.iconst 1, 1) := by decide +kernel
theorem d_Lr_mirrored_25 : decode c_Lr_mirrored 25 = .ok (.goto 4, 3) := by decide +kernel
theorem d_Lr_mirrored_28 : decode c_Lr_mirrored 28 = .ok (.iconst 0, 1) := by decide +kernel
theorem d_Lr_mirrored_29 : decode c_Lr_mirrored 29 = .ok (.ireturn, 1) := by decide +kernel
theorem d_Lr_improve_0 : decode c_Lr_improve 0 = .ok (.aload_n 0, 1) := by decide +kernel
theorem d_Lr_improve_1 : decode c_Lr_improve 1 = .ok (.invokevirtual 130, 3) := by decide +kernel
theorem d_Lr_improve_4 : decode c_Lr_improve 4 = .ok (.iload_n 1, 1) := by decide +kernel
theorem d_Lr_improve_5 : decode c_Lr_improve 5 = .ok (.ifCond .ge 13, 3) := by decide +kernel
theorem d_Lr_improve_8 : decode c_Lr_improve 8 = .ok (.new 76, 3) := by decide +kernel
theorem d_Lr_improve_11 : decode c_Lr_improve 11 = .ok (.dup, 1) := by decide +kernel
theorem d_Lr_improve_12 : decode c_Lr_improve 12 = .ok (.ldc 144, 2) := by decide +kernel
theorem d_Lr_improve_14 : decode c_Lr_improve 14 = .ok (.invokespecial 80, 3) := by decide +kernel
theorem d_Lr_improve_17 : decode c_Lr_improve 17 = .ok (.athrow, 1) := by decide +kernel
theorem d_Lr_improve_18 : decode c_Lr_improve 18 = .ok (.iconst 0, 1) := by decide +kernel
theorem d_Lr_improve_19 : decode c_Lr_improve 19 = .ok (.istore_n 2, 1) := by decide +kernel
theorem d_Lr_improve_20 : decode c_Lr_improve 20 = .ok (.iload_n 2, 1) := by decide +kernel
theorem d_Lr_improve_21 : decode c_Lr_improve 21 = .ok (.iload_n 1, 1) := by decide +kernel
theorem d_Lr_improve_22 : decode c_Lr_improve 22 = .ok (.if_icmp .ge 19, 3) := by decide +kernel
theorem d_Lr_improve_25 : decode c_Lr_improve 25 = .ok (.aload_n 0, 1) := by decide +kernel
theorem d_Lr_improve_26 : decode c_Lr_improve 26 = .ok (.getfield 46, 3) := by decide +kernel
theorem d_Lr_improve_29 : decode c_Lr_improve 29 = .ok (.invokevirtual 146, 3) := by decide +kernel
theorem d_Lr_improve_32 : decode c_Lr_improve 32 = .ok (.ifCond .eq 9, 3) := by decide +kernel
theorem d_Lr_improve_35 : decode c_Lr_improve 35 = .ok (.iinc 2 1, 3) := by decide +kernel
theorem d_Lr_improve_38 : decode c_Lr_improve 38 = .ok (.goto (-18), 3) := by decide +kernel
theorem d_Lr_improve_41 : decode c_Lr_improve 41 = .ok (.iload_n 2, 1) := by decide +kernel
theorem d_Lr_improve_42 : decode c_Lr_improve 42 = .ok (.ireturn, 1) := by decide +kernel
theorem d_Lr_net_0 : decode c_Lr_net 0 = .ok (.aload_n 0, 1) := by decide +kernel
theorem d_Lr_net_1 : decode c_Lr_net 1 = .ok (.iload_n 1, 1) := by decide +kernel
theorem d_Lr_net_2 : decode c_Lr_net 2 = .ok (.invokevirtual 85, 3) := by decide +kernel
theorem d_Lr_net_5 : decode c_Lr_net 5 = .ok (.aload_n 0, 1) := by decide +kernel
theorem d_Lr_net_6 : decode c_Lr_net 6 = .ok (.iload_n 2, 1) := by decide +kernel
theorem d_Lr_net_7 : decode c_Lr_net 7 = .ok (.invokevirtual 85, 3) := by decide +kernel
theorem d_Lr_net_10 : decode c_Lr_net 10 = .ok (.aload_n 0, 1) := by decide +kernel
theorem d_Lr_net_11 : decode c_Lr_net 11 = .ok (.getfield 46, 3) := by decide +kernel
theorem d_Lr_net_14 : decode c_Lr_net 14 = .ok (.getfield 150, 3) := by decide +kernel
theorem d_Lr_net_17 : decode c_Lr_net 17 = .ok (.bipush 80, 2) := by decide +kernel
theorem d_Lr_net_19 : decode c_Lr_net 19 = .ok (.if_icmp .lt 13, 3) := by decide +kernel
theorem d_Lr_net_22 : decode c_Lr_net 22 = .ok (.new 67, 3) := by decide +kernel
theorem d_Lr_net_25 : decode c_Lr_net 25 = .ok (.dup, 1) := by decide +kernel
theorem d_Lr_net_26 : decode c_Lr_net 26 = .ok (.ldc 151, 2) := by decide +kernel
theorem d_Lr_net_28 : decode c_Lr_net 28 = .ok (.invokespecial 71, 3) := by decide +kernel
theorem d_Lr_net_31 : decode c_Lr_net 31 = .ok (.athrow, 1) := by decide +kernel
theorem d_Lr_net_32 : decode c_Lr_net 32 = .ok (.iload_n 1, 1) := by decide +kernel
theorem d_Lr_net_33 : decode c_Lr_net 33 = .ok (.iload_n 2, 1) := by decide +kernel
theorem d_Lr_net_34 : decode c_Lr_net 34 = .ok (.if_icmp .ne 13, 3) := by decide +kernel
theorem d_Lr_net_37 : decode c_Lr_net 37 = .ok (.new 76, 3) := by decide +kernel
theorem d_Lr_net_40 : decode c_Lr_net 40 = .ok (.dup, 1) := by decide +kernel
theorem d_Lr_net_41 : decode c_Lr_net 41 = .ok (.ldc 153, 2) := by decide +kernel
theorem d_Lr_net_43 : decode c_Lr_net 43 = .ok (.invokespecial 80, 3) := by decide +kernel
theorem d_Lr_net_46 : decode c_Lr_net 46 = .ok (.athrow, 1) := by decide +kernel
theorem d_Lr_net_47 : decode c_Lr_net 47 = .ok (.aload_n 0, 1) := by decide +kernel
theorem d_Lr_net_48 : decode c_Lr_net 48 = .ok (.getfield 46, 3) := by decide +kernel
theorem d_Lr_net_51 : decode c_Lr_net 51 = .ok (.iload_n 1, 1) := by decide +kernel
theorem d_Lr_net_52 : decode c_Lr_net 52 = .ok (.iload_n 2, 1) := by decide +kernel
theorem d_Lr_net_53 : decode c_Lr_net 53 = .ok (.invokevirtual 155, 3) := by decide +kernel
theorem d_Lr_net_56 : decode c_Lr_net 56 = .ok (.ireturn, 1) := by decide +kernel
theorem d_Lr_wire_0 : decode c_Lr_wire 0 = .ok (.aload_n 0, 1) := by decide +kernel
theorem d_Lr_wire_1 : decode c_Lr_wire 1 = .ok (.invokevirtual 130, 3) := by decide +kernel
theorem d_Lr_wire_4 : decode c_Lr_wire 4 = .ok (.aload_n 0, 1) := by decide +kernel
theorem d_Lr_wire_5 : decode c_Lr_wire 5 = .ok (.getfield 46, 3) := by decide +kernel
theorem d_Lr_wire_8 : decode c_Lr_wire 8 = .ok (.invokevirtual 157, 3) := by decide +kernel
theorem d_Lr_wire_11 : decode c_Lr_wire 11 = .ok (.lreturn, 1) := by decide +kernel
theorem d_Lr_overlap_0 : decode c_Lr_overlap 0 = .ok (.aload_n 0, 1) := by decide +kernel
theorem d_Lr_overlap_1 : decode c_Lr_overlap 1 = .ok (.invokevirtual 130, 3) := by decide +kernel
theorem d_Lr_overlap_4 : decode c_Lr_overlap 4 = .ok (.iconst 0, 1) := by decide +kernel
theorem d_Lr_overlap_5 : decode c_Lr_overlap 5 = .ok (.istore_n 1, 1) := by decide +kernel
theorem d_Lr_overlap_6 : decode c_Lr_overlap 6 = .ok (.iload_n 1, 1) := by decide +kernel
theorem d_Lr_overlap_7 : decode c_Lr_overlap 7 = .ok (.aload_n 0, 1) := by decide +kernel
theorem d_Lr_overlap_8 : decode c_Lr_overlap 8 = .ok (.getfield 37, 3) := by decide +kernel
theorem d_Lr_overlap_11 : decode c_Lr_overlap 11 = .ok (.getfield 63, 3) := by decide +kernel
theorem d_Lr_overlap_14 : decode c_Lr_overlap 14 = .ok (.if_icmp .ge 82, 3) := by decide +kernel
theorem d_Lr_overlap_17 : decode c_Lr_overlap 17 = .ok (.aload_n 0, 1) := by decide +kernel
theorem d_Lr_overlap_18 : decode c_Lr_overlap 18 = .ok (.getfield 30, 3) := by decide +kernel
theorem d_Lr_overlap_21 : decode c_Lr_overlap 21 = .ok (.aload_n 0, 1) := by decide +kernel
theorem d_Lr_overlap_22 : decode c_Lr_overlap 22 = .ok (.getfield 37, 3) := by decide +kernel
theorem d_Lr_overlap_25 : decode c_Lr_overlap 25 = .ok (.getfield 137, 3) := by decide +kernel
theorem d_Lr_overlap_28 : decode c_Lr_overlap 28 = .ok (.iload_n 1, 1) := by decide +kernel
theorem d_Lr_overlap_29 : decode c_Lr_overlap 29 = .ok (.iaload, 1) := by decide +kernel
theorem d_Lr_overlap_30 : decode c_Lr_overlap 30 = .ok (.aload_n 0, 1) := by decide +kernel
theorem d_Lr_overlap_31 : decode c_Lr_overlap 31 = .ok (.getfield 37, 3) := by decide +kernel
theorem d_Lr_overlap_34 : decode c_Lr_overlap 34 = .ok (.getfield 133, 3) := by decide +kernel
theorem d_Lr_overlap_37 : decode c_Lr_overlap 37 = .ok (.iload_n 1, 1) := by decide +kernel
theorem d_Lr_overlap_38 : decode c_Lr_overlap 38 = .ok (.iaload, 1) := by decide +kernel
theorem d_Lr_overlap_39 : decode c_Lr_overlap 39 = .ok (.aload_n 0, 1) := by decide +kernel
theorem d_Lr_overlap_40 : decode c_Lr_overlap 40 = .ok (.getfield 37, 3) := by decide +kernel
theorem d_Lr_overlap_43 : decode c_Lr_overlap 43 = .ok (.iload_n 1, 1) := by decide +kernel
theorem d_Lr_overlap_44 : decode c_Lr_overlap 44 = .ok (.invokevirtual 160, 3) := by decide +kernel
theorem d_Lr_overlap_47 : decode c_Lr_overlap 47 = .ok (.invokevirtual 163, 3) := by decide +kernel
theorem d_Lr_overlap_50 : decode c_Lr_overlap 50 = .ok (.ifCond .ne 5, 3) := by decide +kernel
theorem d_Lr_overlap_53 : decode c_Lr_overlap 53 = .ok (.iconst 1, 1) := by decide +kernel
theorem d_Lr_overlap_54 : decode c_Lr_overlap 54 = .ok (.ireturn, 1) := by decide +kernel
theorem d_Lr_overlap_55 : decode c_Lr_overlap 55 = .ok (.iload_n 1, 1) := by decide +kernel
theorem d_Lr_overlap_56 : decode c_Lr_overlap 56 = .ok (.iconst 1, 1) := by decide +kernel
theorem d_Lr_overlap_57 : decode c_Lr_overlap 57 = .ok (.iadd, 1) := by decide +kernel
theorem d_Lr_overlap_58 : decode c_Lr_overlap 58 = .ok (.istore_n 2, 1) := by decide +kernel
theorem d_Lr_overlap_59 : decode c_Lr_overlap 59 = .ok (.iload_n 2, 1) := by decide +kernel
theorem d_Lr_overlap_60 : decode c_Lr_overlap 60 = .ok (.aload_n 0, 1) := by decide +kernel
theorem d_Lr_overlap_61 : decode c_Lr_overlap 61 = .ok (.getfield 37, 3) := by decide +kernel
theorem d_Lr_overlap_64 : decode c_Lr_overlap 64 = .ok (.getfield 63, 3) := by decide +kernel
theorem d_Lr_overlap_67 : decode c_Lr_overlap 67 = .ok (.if_icmp .ge 23, 3) := by decide +kernel
theorem d_Lr_overlap_70 : decode c_Lr_overlap 70 = .ok (.aload_n 0, 1) := by decide +kernel
theorem d_Lr_overlap_71 : decode c_Lr_overlap 71 = .ok (.getfield 37, 3) := by decide +kernel
theorem d_Lr_overlap_74 : decode c_Lr_overlap 74 = .ok (.iload_n 1, 1) := by decide +kernel
theorem d_Lr_overlap_75 : decode c_Lr_overlap 75 = .ok (.iload_n 2, 1) := by decide +kernel
theorem d_Lr_overlap_76 : decode c_Lr_overlap 76 = .ok (.invokevirtual 166, 3) := by decide +kernel
theorem d_Lr_overlap_79 : decode c_Lr_overlap 79 = .ok (.ifCond .eq 5, 3) := by decide +kernel
theorem d_Lr_overlap_82 : decode c_Lr_overlap 82 = .ok (.iconst 1, 1) := by decide +kernel
theorem d_Lr_overlap_83 : decode c_Lr_overlap 83 = .ok (.ireturn, 1) := by decide +kernel
theorem d_Lr_overlap_84 : decode c_Lr_overlap 84 = .ok (.iinc 2 1, 3) := by decide +kernel
theorem d_Lr_overlap_87 : decode c_Lr_overlap 87 = .ok (.goto (-28), 3) := by decide +kernel
theorem d_Lr_overlap_90 : decode c_Lr_overlap 90 = .ok (.iinc 1 1, 3) := by decide +kernel
theorem d_Lr_overlap_93 : decode c_Lr_overlap 93 = .ok (.goto (-87), 3) := by decide +kernel
theorem d_Lr_overlap_96 : decode c_Lr_overlap 96 = .ok (.iconst 0, 1) := by decide +kernel
theorem d_Lr_overlap_97 : decode c_Lr_overlap 97 = .ok (.ireturn, 1) := by decide +kernel
theorem d_Lr_noteChange_0 : decode c_Lr_noteChange 0 = .ok (.iload_n 1, 1) := by decide +kernel
theorem d_Lr_noteChange_1 : decode c_Lr_noteChange 1 = .ok (.ifCond .eq 8, 3) := by decide +kernel
theorem d_Lr_noteChange_4 : decode c_Lr_noteChange 4 = .ok (.aload_n 0, 1) := by decide +kernel
theorem d_Lr_noteChange_5 : decode c_Lr_noteChange 5 = .ok (.iconst 0, 1) := by decide +kernel
theorem d_Lr_noteChange_6 : decode c_Lr_noteChange 6 = .ok (.putfield 59, 3) := by decide +kernel
theorem d_Lr_noteChange_9 : decode c_Lr_noteChange 9 = .ok (.iload_n 1, 1) := by decide +kernel
theorem d_Lr_noteChange_10 : decode c_Lr_noteChange 10 = .ok (.ireturn, 1) := by decide +kernel
theorem d_Lr_requireCell_0 : decode c_Lr_requireCell 0 = .ok (.iload_n 1, 1) := by decide +kernel
theorem d_Lr_requireCell_1 : decode c_Lr_requireCell 1 = .ok (.ifCond .lt 14, 3) := by decide +kernel
theorem d_Lr_requireCell_4 : decode c_Lr_requireCell 4 = .ok (.iload_n 1, 1) := by decide +kernel
theorem d_Lr_requireCell_5 : decode c_Lr_requireCell 5 = .ok (.aload_n 0, 1) := by decide +kernel
theorem d_Lr_requireCell_6 : decode c_Lr_requireCell 6 = .ok (.getfield 37, 3) := by decide +kernel
theorem d_Lr_requireCell_9 : decode c_Lr_requireCell 9 = .ok (.getfield 63, 3) := by decide +kernel
theorem d_Lr_requireCell_12 : decode c_Lr_requireCell 12 = .ok (.if_icmp .lt 13, 3) := by decide +kernel
theorem d_Lr_requireCell_15 : decode c_Lr_requireCell 15 = .ok (.new 95, 3) := by decide +kernel
theorem d_Lr_requireCell_18 : decode c_Lr_requireCell 18 = .ok (.dup, 1) := by decide +kernel
theorem d_Lr_requireCell_19 : decode c_Lr_requireCell 19 = .ok (.ldc 170, 2) := by decide +kernel
theorem d_Lr_requireCell_21 : decode c_Lr_requireCell 21 = .ok (.invokespecial 99, 3) := by decide +kernel
theorem d_Lr_requireCell_24 : decode c_Lr_requireCell 24 = .ok (.athrow, 1) := by decide +kernel
theorem d_Lr_requireCell_25 : decode c_Lr_requireCell 25 = .ok (.return_, 1) := by decide +kernel
theorem d_Lr_requireRow_0 : decode c_Lr_requireRow 0 = .ok (.iload_n 1, 1) := by decide +kernel
theorem d_Lr_requireRow_1 : decode c_Lr_requireRow 1 = .ok (.ifCond .lt 14, 3) := by decide +kernel
theorem d_Lr_requireRow_4 : decode c_Lr_requireRow 4 = .ok (.iload_n 1, 1) := by decide +kernel
theorem d_Lr_requireRow_5 : decode c_Lr_requireRow 5 = .ok (.aload_n 0, 1) := by decide +kernel
theorem d_Lr_requireRow_6 : decode c_Lr_requireRow 6 = .ok (.getfield 30, 3) := by decide +kernel
theorem d_Lr_requireRow_9 : decode c_Lr_requireRow 9 = .ok (.getfield 172, 3) := by decide +kernel
theorem d_Lr_requireRow_12 : decode c_Lr_requireRow 12 = .ok (.if_icmp .lt 13, 3) := by decide +kernel
theorem d_Lr_requireRow_15 : decode c_Lr_requireRow 15 = .ok (.new 95, 3) := by decide +kernel
theorem d_Lr_requireRow_18 : decode c_Lr_requireRow 18 = .ok (.dup, 1) := by decide +kernel
theorem d_Lr_requireRow_19 : decode c_Lr_requireRow 19 = .ok (.ldc 175, 2) := by decide +kernel
theorem d_Lr_requireRow_21 : decode c_Lr_requireRow 21 = .ok (.invokespecial 99, 3) := by decide +kernel
theorem d_Lr_requireRow_24 : decode c_Lr_requireRow 24 = .ok (.athrow, 1) := by decide +kernel
theorem d_Lr_requireRow_25 : decode c_Lr_requireRow 25 = .ok (.return_, 1) := by decide +kernel
theorem d_Lr_requirePlaces_0 : decode c_Lr_requirePlaces 0 = .ok (.aload_n 0, 1) := by decide +kernel
theorem d_Lr_requirePlaces_1 : decode c_Lr_requirePlaces 1 = .ok (.getfield 59, 3) := by decide +kernel
theorem d_Lr_requirePlaces_4 : decode c_Lr_requirePlaces 4 = .ok (.ifCond .ne 13, 3) := by decide +kernel
theorem d_Lr_requirePlaces_7 : decode c_Lr_requirePlaces 7 = .ok (.new 67, 3) := by decide +kernel
theorem d_Lr_requirePlaces_10 : decode c_Lr_requirePlaces 10 = .ok (.dup, 1) := by decide +kernel
theorem d_Lr_requirePlaces_11 : decode c_Lr_requirePlaces 11 = .ok (.ldc 177, 2) := by decide +kernel
theorem d_Lr_requirePlaces_13 : decode c_Lr_requirePlaces 13 = .ok (.invokespecial 71, 3) := by decide +kernel
theorem d_Lr_requirePlaces_16 : decode c_Lr_requirePlaces 16 = .ok (.athrow, 1) := by decide +kernel
theorem d_Lr_requirePlaces_17 : decode c_Lr_requirePlaces 17 = .ok (.return_, 1) := by decide +kernel
theorem d_Lr_requireKinds_0 : decode c_Lr_requireKinds 0 = .ok (.iload_n 0, 1) := by decide +kernel
theorem d_Lr_requireKinds_1 : decode c_Lr_requireKinds 1 = .ok (.ifCond .lt 17, 3) := by decide +kernel
theorem d_Lr_requireKinds_4 : decode c_Lr_requireKinds 4 = .ok (.iload_n 0, 1) := by decide +kernel
theorem d_Lr_requireKinds_5 : decode c_Lr_requireKinds 5 = .ok (.iconst 4, 1) := by decide +kernel
theorem d_Lr_requireKinds_6 : decode c_Lr_requireKinds 6 = .ok (.if_icmp .ge 12, 3) := by decide +kernel
theorem d_Lr_requireKinds_9 : decode c_Lr_requireKinds 9 = .ok (.iload_n 1, 1) := by decide +kernel
theorem d_Lr_requireKinds_10 : decode c_Lr_requireKinds 10 = .ok (.ifCond .lt 8, 3) := by decide +kernel
theorem d_Lr_requireKinds_13 : decode c_Lr_requireKinds 13 = .ok (.iload_n 1, 1) := by decide +kernel
theorem d_Lr_requireKinds_14 : decode c_Lr_requireKinds 14 = .ok (.iconst 4, 1) := by decide +kernel
theorem d_Lr_requireKinds_15 : decode c_Lr_requireKinds 15 = .ok (.if_icmp .lt 13, 3) := by decide +kernel
theorem d_Lr_requireKinds_18 : decode c_Lr_requireKinds 18 = .ok (.new 76, 3) := by decide +kernel
theorem d_Lr_requireKinds_21 : decode c_Lr_requireKinds 21 = .ok (.dup, 1) := by decide +kernel
theorem d_Lr_requireKinds_22 : decode c_Lr_requireKinds 22 = .ok (.ldc 179, 2) := by decide +kernel
theorem d_Lr_requireKinds_24 : decode c_Lr_requireKinds 24 = .ok (.invokespecial 80, 3) := by decide +kernel
theorem d_Lr_requireKinds_27 : decode c_Lr_requireKinds 27 = .ok (.athrow, 1) := by decide +kernel
theorem d_Lr_requireKinds_28 : decode c_Lr_requireKinds 28 = .ok (.return_, 1) := by decide +kernel
theorem d_Ce_init_0 : decode c_Ce_init 0 = .ok (.aload_n 0, 1) := by decide +kernel
theorem d_Ce_init_1 : decode c_Ce_init 1 = .ok (.invokespecial 3, 3) := by decide +kernel
theorem d_Ce_init_4 : decode c_Ce_init 4 = .ok (.aload_n 0, 1) := by decide +kernel
theorem d_Ce_init_5 : decode c_Ce_init 5 = .ok (.bipush 60, 2) := by decide +kernel
theorem d_Ce_init_7 : decode c_Ce_init 7 = .ok (.newarray .int, 2) := by decide +kernel
theorem d_Ce_init_9 : decode c_Ce_init 9 = .ok (.putfield 9, 3) := by decide +kernel
theorem d_Ce_init_12 : decode c_Ce_init 12 = .ok (.aload_n 0, 1) := by decide +kernel
theorem d_Ce_init_13 : decode c_Ce_init 13 = .ok (.bipush 60, 2) := by decide +kernel
theorem d_Ce_init_15 : decode c_Ce_init 15 = .ok (.newarray .int, 2) := by decide +kernel
theorem d_Ce_init_17 : decode c_Ce_init 17 = .ok (.putfield 15, 3) := by decide +kernel
theorem d_Ce_init_20 : decode c_Ce_init 20 = .ok (.aload_n 0, 1) := by decide +kernel
theorem d_Ce_init_21 : decode c_Ce_init 21 = .ok (.bipush 60, 2) := by decide +kernel
theorem d_Ce_init_23 : decode c_Ce_init 23 = .ok (.newarray .int, 2) := by decide +kernel
theorem d_Ce_init_25 : decode c_Ce_init 25 = .ok (.putfield 18, 3) := by decide +kernel
theorem d_Ce_init_28 : decode c_Ce_init 28 = .ok (.aload_n 0, 1) := by decide +kernel
theorem d_Ce_init_29 : decode c_Ce_init 29 = .ok (.bipush 60, 2) := by decide +kernel
theorem d_Ce_init_31 : decode c_Ce_init 31 = .ok (.newarray .int, 2) := by decide +kernel
theorem d_Ce_init_33 : decode c_Ce_init 33 = .ok (.putfield 21, 3) := by decide +kernel
theorem d_Ce_init_36 : decode c_Ce_init 36 = .ok (.aload_n 0, 1) := by decide +kernel
theorem d_Ce_init_37 : decode c_Ce_init 37 = .ok (.bipush 60, 2) := by decide +kernel
theorem d_Ce_init_39 : decode c_Ce_init 39 = .ok (.newarray .int, 2) := by decide +kernel
theorem d_Ce_init_41 : decode c_Ce_init 41 = .ok (.putfield 24, 3) := by decide +kernel
theorem d_Ce_init_44 : decode c_Ce_init 44 = .ok (.aload_n 0, 1) := by decide +kernel
theorem d_Ce_init_45 : decode c_Ce_init 45 = .ok (.bipush 60, 2) := by decide +kernel
theorem d_Ce_init_47 : decode c_Ce_init 47 = .ok (.newarray .int, 2) := by decide +kernel
theorem d_Ce_init_49 : decode c_Ce_init 49 = .ok (.putfield 27, 3) := by decide +kernel
theorem d_Ce_init_52 : decode c_Ce_init 52 = .ok (.aload_n 0, 1) := by decide +kernel
theorem d_Ce_init_53 : decode c_Ce_init 53 = .ok (.bipush 60, 2) := by decide +kernel
theorem d_Ce_init_55 : decode c_Ce_init 55 = .ok (.newarray .int, 2) := by decide +kernel
theorem d_Ce_init_57 : decode c_Ce_init 57 = .ok (.putfield 30, 3) := by decide +kernel
theorem d_Ce_init_60 : decode c_Ce_init 60 = .ok (.aload_n 0, 1) := by decide +kernel
theorem d_Ce_init_61 : decode c_Ce_init 61 = .ok (.bipush 16, 2) := by decide +kernel
theorem d_Ce_init_63 : decode c_Ce_init 63 = .ok (.newarray .int, 2) := by decide +kernel
theorem d_Ce_init_65 : decode c_Ce_init 65 = .ok (.putfield 33, 3) := by decide +kernel
theorem d_Ce_init_68 : decode c_Ce_init 68 = .ok (.return_, 1) := by decide +kernel
theorem d_Ce_add_0 : decode c_Ce_add 0 = .ok (.aload_n 0, 1) := by decide +kernel
theorem d_Ce_add_1 : decode c_Ce_add 1 = .ok (.getfield 9, 3) := by decide +kernel
theorem d_Ce_add_4 : decode c_Ce_add 4 = .ok (.aload_n 0, 1) := by decide +kernel
theorem d_Ce_add_5 : decode c_Ce_add 5 = .ok (.getfield 36, 3) := by decide +kernel
theorem d_Ce_add_8 : decode c_Ce_add 8 = .ok (.iload_n 1, 1) := by decide +kernel
theorem d_Ce_add_9 : decode c_Ce_add 9 = .ok (.iastore, 1) := by decide +kernel
theorem d_Ce_add_10 : decode c_Ce_add 10 = .ok (.aload_n 0, 1) := by decide +kernel
theorem d_Ce_add_11 : decode c_Ce_add 11 = .ok (.dup, 1) := by decide +kernel
theorem d_Ce_add_12 : decode c_Ce_add 12 = .ok (.getfield 36, 3) := by decide +kernel
theorem d_Ce_add_15 : decode c_Ce_add 15 = .ok (.iconst 1, 1) := by decide +kernel
theorem d_Ce_add_16 : decode c_Ce_add 16 = .ok (.iadd, 1) := by decide +kernel
theorem d_Ce_add_17 : decode c_Ce_add 17 = .ok (.putfield 36, 3) := by decide +kernel
theorem d_Ce_add_20 : decode c_Ce_add 20 = .ok (.aload_n 0, 1) := by decide +kernel
theorem d_Ce_add_21 : decode c_Ce_add 21 = .ok (.getfield 36, 3) := by decide +kernel
theorem d_Ce_add_24 : decode c_Ce_add 24 = .ok (.iconst 1, 1) := by decide +kernel
theorem d_Ce_add_25 : decode c_Ce_add 25 = .ok (.isub, 1) := by decide +kernel
theorem d_Ce_add_26 : decode c_Ce_add 26 = .ok (.ireturn, 1) := by decide +kernel
theorem d_Ce_setWanted_0 : decode c_Ce_setWanted 0 = .ok (.aload_n 0, 1) := by decide +kernel
theorem d_Ce_setWanted_1 : decode c_Ce_setWanted 1 = .ok (.getfield 21, 3) := by decide +kernel
theorem d_Ce_setWanted_4 : decode c_Ce_setWanted 4 = .ok (.iload_n 1, 1) := by decide +kernel
theorem d_Ce_setWanted_5 : decode c_Ce_setWanted 5 = .ok (.iaload, 1) := by decide +kernel
theorem d_Ce_setWanted_6 : decode c_Ce_setWanted 6 = .ok (.iload_n 2, 1) := by decide +kernel
theorem d_Ce_setWanted_7 : decode c_Ce_setWanted 7 = .ok (.if_icmp .ne 13, 3) := by decide +kernel
theorem d_Ce_setWanted_10 : decode c_Ce_setWanted 10 = .ok (.aload_n 0, 1) := by decide +kernel
theorem d_Ce_setWanted_11 : decode c_Ce_setWanted 11 = .ok (.getfield 24, 3) := by decide +kernel
theorem d_Ce_setWanted_14 : decode c_Ce_setWanted 14 = .ok (.iload_n 1, 1) := by decide +kernel
theorem d_Ce_setWanted_15 : decode c_Ce_setWanted 15 = .ok (.iaload, 1) := by decide +kernel
theorem d_Ce_setWanted_16 : decode c_Ce_setWanted 16 = .ok (.iload_n 3, 1) := by decide +kernel
theorem d_Ce_setWanted_17 : decode c_Ce_setWanted 17 = .ok (.if_icmp .eq 7, 3) := by decide +kernel
theorem d_Ce_setWanted_20 : decode c_Ce_setWanted 20 = .ok (.iconst 1, 1) := by decide +kernel
theorem d_Ce_setWanted_21 : decode c_Ce_setWanted 21 = .ok (.goto 4, 3) := by decide +kernel
theorem d_Ce_setWanted_24 : decode c_Ce_setWanted 24 = .ok (.iconst 0, 1) := by decide +kernel
theorem d_Ce_setWanted_25 : decode c_Ce_setWanted 25 = .ok (.istore 4, 2) := by decide +kernel
theorem d_Ce_setWanted_27 : decode c_Ce_setWanted 27 = .ok (.aload_n 0, 1) := by decide +kernel
theorem d_Ce_setWanted_28 : decode c_Ce_setWanted 28 = .ok (.getfield 21, 3) := by decide +kernel
theorem d_Ce_setWanted_31 : decode c_Ce_setWanted 31 = .ok (.iload_n 1, 1) := by decide +kernel
theorem d_Ce_setWanted_32 : decode c_Ce_setWanted 32 = .ok (.iload_n 2, 1) := by decide +kernel
theorem d_Ce_setWanted_33 : decode c_Ce_setWanted 33 = .ok (.iastore, 1) := by decide +kernel
theorem d_Ce_setWanted_34 : decode c_Ce_setWanted 34 = .ok (.aload_n 0, 1) := by decide +kernel
theorem d_Ce_setWanted_35 : decode c_Ce_setWanted 35 = .ok (.getfield 24, 3) := by decide +kernel
theorem d_Ce_setWanted_38 : decode c_Ce_setWanted 38 = .ok (.iload_n 1, 1) := by decide +kernel
theorem d_Ce_setWanted_39 : decode c_Ce_setWanted 39 = .ok (.iload_n 3, 1) := by decide +kernel
theorem d_Ce_setWanted_40 : decode c_Ce_setWanted 40 = .ok (.iastore, 1) := by decide +kernel
theorem d_Ce_setWanted_41 : decode c_Ce_setWanted 41 = .ok (.iload 4, 2) := by decide +kernel
theorem d_Ce_setWanted_43 : decode c_Ce_setWanted 43 = .ok (.ireturn, 1) := by decide +kernel
theorem d_Ce_setKinds_0 : decode c_Ce_setKinds 0 = .ok (.aload_n 0, 1) := by decide +kernel
theorem d_Ce_setKinds_1 : decode c_Ce_setKinds 1 = .ok (.getfield 15, 3) := by decide +kernel
theorem d_Ce_setKinds_4 : decode c_Ce_setKinds 4 = .ok (.iload_n 1, 1) := by decide +kernel
theorem d_Ce_setKinds_5 : decode c_Ce_setKinds 5 = .ok (.iaload, 1) := by decide +kernel
theorem d_Ce_setKinds_6 : decode c_Ce_setKinds 6 = .ok (.iload_n 2, 1) := by decide +kernel
theorem d_Ce_setKinds_7 : decode c_Ce_setKinds 7 = .ok (.if_icmp .ne 13, 3) := by decide +kernel
theorem d_Ce_setKinds_10 : decode c_Ce_setKinds 10 = .ok (.aload_n 0, 1) := by decide +kernel
theorem d_Ce_setKinds_11 : decode c_Ce_setKinds 11 = .ok (.getfield 18, 3) := by decide +kernel
theorem d_Ce_setKinds_14 : decode c_Ce_setKinds 14 = .ok (.iload_n 1, 1) := by decide +kernel
theorem d_Ce_setKinds_15 : decode c_Ce_setKinds 15 = .ok (.iaload, 1) := by decide +kernel
theorem d_Ce_setKinds_16 : decode c_Ce_setKinds 16 = .ok (.iload_n 3, 1) := by decide +kernel
theorem d_Ce_setKinds_17 : decode c_Ce_setKinds 17 = .ok (.if_icmp .eq 7, 3) := by decide +kernel
theorem d_Ce_setKinds_20 : decode c_Ce_setKinds 20 = .ok (.iconst 1, 1) := by decide +kernel
theorem d_Ce_setKinds_21 : decode c_Ce_setKinds 21 = .ok (.goto 4, 3) := by decide +kernel
theorem d_Ce_setKinds_24 : decode c_Ce_setKinds 24 = .ok (.iconst 0, 1) := by decide +kernel
theorem d_Ce_setKinds_25 : decode c_Ce_setKinds 25 = .ok (.istore 4, 2) := by decide +kernel
theorem d_Ce_setKinds_27 : decode c_Ce_setKinds 27 = .ok (.aload_n 0, 1) := by decide +kernel
theorem d_Ce_setKinds_28 : decode c_Ce_setKinds 28 = .ok (.getfield 15, 3) := by decide +kernel
theorem d_Ce_setKinds_31 : decode c_Ce_setKinds 31 = .ok (.iload_n 1, 1) := by decide +kernel
theorem d_Ce_setKinds_32 : decode c_Ce_setKinds 32 = .ok (.iload_n 2, 1) := by decide +kernel
theorem d_Ce_setKinds_33 : decode c_Ce_setKinds 33 = .ok (.iastore, 1) := by decide +kernel
theorem d_Ce_setKinds_34 : decode c_Ce_setKinds 34 = .ok (.aload_n 0, 1) := by decide +kernel
theorem d_Ce_setKinds_35 : decode c_Ce_setKinds 35 = .ok (.getfield 18, 3) := by decide +kernel
theorem d_Ce_setKinds_38 : decode c_Ce_setKinds 38 = .ok (.iload_n 1, 1) := by decide +kernel
theorem d_Ce_setKinds_39 : decode c_Ce_setKinds 39 = .ok (.iload_n 3, 1) := by decide +kernel
theorem d_Ce_setKinds_40 : decode c_Ce_setKinds 40 = .ok (.iastore, 1) := by decide +kernel
theorem d_Ce_setKinds_41 : decode c_Ce_setKinds 41 = .ok (.iload 4, 2) := by decide +kernel
theorem d_Ce_setKinds_43 : decode c_Ce_setKinds 43 = .ok (.ireturn, 1) := by decide +kernel
theorem d_Ce_setSpace_0 : decode c_Ce_setSpace 0 = .ok (.aload_n 0, 1) := by decide +kernel
theorem d_Ce_setSpace_1 : decode c_Ce_setSpace 1 = .ok (.getfield 33, 3) := by decide +kernel
theorem d_Ce_setSpace_4 : decode c_Ce_setSpace 4 = .ok (.iload_n 1, 1) := by decide +kernel
theorem d_Ce_setSpace_5 : decode c_Ce_setSpace 5 = .ok (.iconst 4, 1) := by decide +kernel
theorem d_Ce_setSpace_6 : decode c_Ce_setSpace 6 = .ok (.imul, 1) := by decide +kernel
theorem d_Ce_setSpace_7 : decode c_Ce_setSpace 7 = .ok (.iload_n 2, 1) := by decide +kernel
theorem d_Ce_setSpace_8 : decode c_Ce_setSpace 8 = .ok (.iadd, 1) := by decide +kernel
theorem d_Ce_setSpace_9 : decode c_Ce_setSpace 9 = .ok (.iaload, 1) := by decide +kernel
theorem d_Ce_setSpace_10 : decode c_Ce_setSpace 10 = .ok (.iload_n 3, 1) := by decide +kernel
theorem d_Ce_setSpace_11 : decode c_Ce_setSpace 11 = .ok (.if_icmp .eq 7, 3) := by decide +kernel
theorem d_Ce_setSpace_14 : decode c_Ce_setSpace 14 = .ok (.iconst 1, 1) := by decide +kernel
theorem d_Ce_setSpace_15 : decode c_Ce_setSpace 15 = .ok (.goto 4, 3) := by decide +kernel
theorem d_Ce_setSpace_18 : decode c_Ce_setSpace 18 = .ok (.iconst 0, 1) := by decide +kernel
theorem d_Ce_setSpace_19 : decode c_Ce_setSpace 19 = .ok (.istore 4, 2) := by decide +kernel
theorem d_Ce_setSpace_21 : decode c_Ce_setSpace 21 = .ok (.aload_n 0, 1) := by decide +kernel
theorem d_Ce_setSpace_22 : decode c_Ce_setSpace 22 = .ok (.getfield 33, 3) := by decide +kernel
theorem d_Ce_setSpace_25 : decode c_Ce_setSpace 25 = .ok (.iload_n 1, 1) := by decide +kernel
theorem d_Ce_setSpace_26 : decode c_Ce_setSpace 26 = .ok (.iconst 4, 1) := by decide +kernel
theorem d_Ce_setSpace_27 : decode c_Ce_setSpace 27 = .ok (.imul, 1) := by decide +kernel
theorem d_Ce_setSpace_28 : decode c_Ce_setSpace 28 = .ok (.iload_n 2, 1) := by decide +kernel
theorem d_Ce_setSpace_29 : decode c_Ce_setSpace 29 = .ok (.iadd, 1) := by decide +kernel
theorem d_Ce_setSpace_30 : decode c_Ce_setSpace 30 = .ok (.iload_n 3, 1) := by decide +kernel
theorem d_Ce_setSpace_31 : decode c_Ce_setSpace 31 = .ok (.iastore, 1) := by decide +kernel
theorem d_Ce_setSpace_32 : decode c_Ce_setSpace 32 = .ok (.iload 4, 2) := by decide +kernel
theorem d_Ce_setSpace_34 : decode c_Ce_setSpace 34 = .ok (.ireturn, 1) := by decide +kernel
theorem d_Ce_spaceBetween_0 : decode c_Ce_spaceBetween 0 = .ok (.aload_n 0, 1) := by decide +kernel
theorem d_Ce_spaceBetween_1 : decode c_Ce_spaceBetween 1 = .ok (.getfield 33, 3) := by decide +kernel
theorem d_Ce_spaceBetween_4 : decode c_Ce_spaceBetween 4 = .ok (.aload_n 0, 1) := by decide +kernel
theorem d_Ce_spaceBetween_5 : decode c_Ce_spaceBetween 5 = .ok (.getfield 18, 3) := by decide +kernel
theorem d_Ce_spaceBetween_8 : decode c_Ce_spaceBetween 8 = .ok (.iload_n 1, 1) := by decide +kernel
theorem d_Ce_spaceBetween_9 : decode c_Ce_spaceBetween 9 = .ok (.iaload, 1) := by decide +kernel
theorem d_Ce_spaceBetween_10 : decode c_Ce_spaceBetween 10 = .ok (.iconst 4, 1) := by decide +kernel
theorem d_Ce_spaceBetween_11 : decode c_Ce_spaceBetween 11 = .ok (.imul, 1) := by decide +kernel
theorem d_Ce_spaceBetween_12 : decode c_Ce_spaceBetween 12 = .ok (.aload_n 0, 1) := by decide +kernel
theorem d_Ce_spaceBetween_13 : decode c_Ce_spaceBetween 13 = .ok (.getfield 15, 3) := by decide +kernel
theorem d_Ce_spaceBetween_16 : decode c_Ce_spaceBetween 16 = .ok (.iload_n 2, 1) := by decide +kernel
theorem d_Ce_spaceBetween_17 : decode c_Ce_spaceBetween 17 = .ok (.iaload, 1) := by decide +kernel
theorem d_Ce_spaceBetween_18 : decode c_Ce_spaceBetween 18 = .ok (.iadd, 1) := by decide +kernel
theorem d_Ce_spaceBetween_19 : decode c_Ce_spaceBetween 19 = .ok (.iaload, 1) := by decide +kernel
theorem d_Ce_spaceBetween_20 : decode c_Ce_spaceBetween 20 = .ok (.ireturn, 1) := by decide +kernel
theorem d_Ce_put_0 : decode c_Ce_put 0 = .ok (.aload_n 0, 1) := by decide +kernel
theorem d_Ce_put_1 : decode c_Ce_put 1 = .ok (.getfield 27, 3) := by decide +kernel
theorem d_Ce_put_4 : decode c_Ce_put 4 = .ok (.iload_n 1, 1) := by decide +kernel
theorem d_Ce_put_5 : decode c_Ce_put 5 = .ok (.iload_n 2, 1) := by decide +kernel
theorem d_Ce_put_6 : decode c_Ce_put 6 = .ok (.iastore, 1) := by decide +kernel
theorem d_Ce_put_7 : decode c_Ce_put 7 = .ok (.aload_n 0, 1) := by decide +kernel
theorem d_Ce_put_8 : decode c_Ce_put 8 = .ok (.getfield 30, 3) := by decide +kernel
theorem d_Ce_put_11 : decode c_Ce_put 11 = .ok (.iload_n 1, 1) := by decide +kernel
theorem d_Ce_put_12 : decode c_Ce_put 12 = .ok (.iload_n 3, 1) := by decide +kernel
theorem d_Ce_put_13 : decode c_Ce_put 13 = .ok (.iastore, 1) := by decide +kernel
theorem d_Ce_put_14 : decode c_Ce_put 14 = .ok (.return_, 1) := by decide +kernel
theorem d_Ce_exchange_0 : decode c_Ce_exchange 0 = .ok (.aload_n 0, 1) := by decide +kernel
theorem d_Ce_exchange_1 : decode c_Ce_exchange 1 = .ok (.getfield 27, 3) := by decide +kernel
theorem d_Ce_exchange_4 : decode c_Ce_exchange 4 = .ok (.iload_n 1, 1) := by decide +kernel
theorem d_Ce_exchange_5 : decode c_Ce_exchange 5 = .ok (.iaload, 1) := by decide +kernel
theorem d_Ce_exchange_6 : decode c_Ce_exchange 6 = .ok (.istore_n 3, 1) := by decide +kernel
theorem d_Ce_exchange_7 : decode c_Ce_exchange 7 = .ok (.aload_n 0, 1) := by decide +kernel
theorem d_Ce_exchange_8 : decode c_Ce_exchange 8 = .ok (.getfield 30, 3) := by decide +kernel
theorem d_Ce_exchange_11 : decode c_Ce_exchange 11 = .ok (.iload_n 1, 1) := by decide +kernel
theorem d_Ce_exchange_12 : decode c_Ce_exchange 12 = .ok (.iaload, 1) := by decide +kernel
theorem d_Ce_exchange_13 : decode c_Ce_exchange 13 = .ok (.istore 4, 2) := by decide +kernel
theorem d_Ce_exchange_15 : decode c_Ce_exchange 15 = .ok (.aload_n 0, 1) := by decide +kernel
theorem d_Ce_exchange_16 : decode c_Ce_exchange 16 = .ok (.iload_n 1, 1) := by decide +kernel
theorem d_Ce_exchange_17 : decode c_Ce_exchange 17 = .ok (.aload_n 0, 1) := by decide +kernel
theorem d_Ce_exchange_18 : decode c_Ce_exchange 18 = .ok (.getfield 27, 3) := by decide +kernel
theorem d_Ce_exchange_21 : decode c_Ce_exchange 21 = .ok (.iload_n 2, 1) := by decide +kernel
theorem d_Ce_exchange_22 : decode c_Ce_exchange 22 = .ok (.iaload, 1) := by decide +kernel
theorem d_Ce_exchange_23 : decode c_Ce_exchange 23 = .ok (.aload_n 0, 1) := by decide +kernel
theorem d_Ce_exchange_24 : decode c_Ce_exchange 24 = .ok (.getfield 30, 3) := by decide +kernel
theorem d_Ce_exchange_27 : decode c_Ce_exchange 27 = .ok (.iload_n 2, 1) := by decide +kernel
theorem d_Ce_exchange_28 : decode c_Ce_exchange 28 = .ok (.iaload, 1) := by decide +kernel
theorem d_Ce_exchange_29 : decode c_Ce_exchange 29 = .ok (.invokevirtual 40, 3) := by decide +kernel
theorem d_Ce_exchange_32 : decode c_Ce_exchange 32 = .ok (.aload_n 0, 1) := by decide +kernel
theorem d_Ce_exchange_33 : decode c_Ce_exchange 33 = .ok (.iload_n 2, 1) := by decide +kernel
theorem d_Ce_exchange_34 : decode c_Ce_exchange 34 = .ok (.iload_n 3, 1) := by decide +kernel
theorem d_Ce_exchange_35 : decode c_Ce_exchange 35 = .ok (.iload 4, 2) := by decide +kernel
theorem d_Ce_exchange_37 : decode c_Ce_exchange 37 = .ok (.invokevirtual 40, 3) := by decide +kernel
theorem d_Ce_exchange_40 : decode c_Ce_exchange 40 = .ok (.return_, 1) := by decide +kernel
theorem d_Ce_alike_0 : decode c_Ce_alike 0 = .ok (.aload_n 0, 1) := by decide +kernel
theorem d_Ce_alike_1 : decode c_Ce_alike 1 = .ok (.getfield 9, 3) := by decide +kernel
theorem d_Ce_alike_4 : decode c_Ce_alike 4 = .ok (.iload_n 1, 1) := by decide +kernel
theorem d_Ce_alike_5 : decode c_Ce_alike 5 = .ok (.iaload, 1) := by decide +kernel
theorem d_Ce_alike_6 : decode c_Ce_alike 6 = .ok (.aload_n 0, 1) := by decide +kernel
theorem d_Ce_alike_7 : decode c_Ce_alike 7 = .ok (.getfield 9, 3) := by decide +kernel
theorem d_Ce_alike_10 : decode c_Ce_alike 10 = .ok (.iload_n 2, 1) := by decide +kernel
theorem d_Ce_alike_11 : decode c_Ce_alike 11 = .ok (.iaload, 1) := by decide +kernel
theorem d_Ce_alike_12 : decode c_Ce_alike 12 = .ok (.if_icmp .ne 37, 3) := by decide +kernel
theorem d_Ce_alike_15 : decode c_Ce_alike 15 = .ok (.aload_n 0, 1) := by decide +kernel
theorem d_Ce_alike_16 : decode c_Ce_alike 16 = .ok (.getfield 15, 3) := by decide +kernel
theorem d_Ce_alike_19 : decode c_Ce_alike 19 = .ok (.iload_n 1, 1) := by decide +kernel
theorem d_Ce_alike_20 : decode c_Ce_alike 20 = .ok (.iaload, 1) := by decide +kernel
theorem d_Ce_alike_21 : decode c_Ce_alike 21 = .ok (.aload_n 0, 1) := by decide +kernel
theorem d_Ce_alike_22 : decode c_Ce_alike 22 = .ok (.getfield 15, 3) := by decide +kernel
theorem d_Ce_alike_25 : decode c_Ce_alike 25 = .ok (.iload_n 2, 1) := by decide +kernel
theorem d_Ce_alike_26 : decode c_Ce_alike 26 = .ok (.iaload, 1) := by decide +kernel
theorem d_Ce_alike_27 : decode c_Ce_alike 27 = .ok (.if_icmp .ne 22, 3) := by decide +kernel
theorem d_Ce_alike_30 : decode c_Ce_alike 30 = .ok (.aload_n 0, 1) := by decide +kernel
theorem d_Ce_alike_31 : decode c_Ce_alike 31 = .ok (.getfield 18, 3) := by decide +kernel
theorem d_Ce_alike_34 : decode c_Ce_alike 34 = .ok (.iload_n 1, 1) := by decide +kernel
theorem d_Ce_alike_35 : decode c_Ce_alike 35 = .ok (.iaload, 1) := by decide +kernel
theorem d_Ce_alike_36 : decode c_Ce_alike 36 = .ok (.aload_n 0, 1) := by decide +kernel
theorem d_Ce_alike_37 : decode c_Ce_alike 37 = .ok (.getfield 18, 3) := by decide +kernel
theorem d_Ce_alike_40 : decode c_Ce_alike 40 = .ok (.iload_n 2, 1) := by decide +kernel
theorem d_Ce_alike_41 : decode c_Ce_alike 41 = .ok (.iaload, 1) := by decide +kernel
theorem d_Ce_alike_42 : decode c_Ce_alike 42 = .ok (.if_icmp .ne 7, 3) := by decide +kernel
theorem d_Ce_alike_45 : decode c_Ce_alike 45 = .ok (.iconst 1, 1) := by decide +kernel
theorem d_Ce_alike_46 : decode c_Ce_alike 46 = .ok (.goto 4, 3) := by decide +kernel
theorem d_Ce_alike_49 : decode c_Ce_alike 49 = .ok (.iconst 0, 1) := by decide +kernel
theorem d_Ce_alike_50 : decode c_Ce_alike 50 = .ok (.ireturn, 1) := by decide +kernel
theorem d_Ce_end_0 : decode c_Ce_end 0 = .ok (.aload_n 0, 1) := by decide +kernel
theorem d_Ce_end_1 : decode c_Ce_end 1 = .ok (.getfield 27, 3) := by decide +kernel
theorem d_Ce_end_4 : decode c_Ce_end 4 = .ok (.iload_n 1, 1) := by decide +kernel
theorem d_Ce_end_5 : decode c_Ce_end 5 = .ok (.iaload, 1) := by decide +kernel
theorem d_Ce_end_6 : decode c_Ce_end 6 = .ok (.aload_n 0, 1) := by decide +kernel
theorem d_Ce_end_7 : decode c_Ce_end 7 = .ok (.getfield 9, 3) := by decide +kernel
theorem d_Ce_end_10 : decode c_Ce_end 10 = .ok (.iload_n 1, 1) := by decide +kernel
theorem d_Ce_end_11 : decode c_Ce_end 11 = .ok (.iaload, 1) := by decide +kernel
theorem d_Ce_end_12 : decode c_Ce_end 12 = .ok (.iadd, 1) := by decide +kernel
theorem d_Ce_end_13 : decode c_Ce_end 13 = .ok (.ireturn, 1) := by decide +kernel
theorem d_Ce_shareSite_0 : decode c_Ce_shareSite 0 = .ok (.aload_n 0, 1) := by decide +kernel
theorem d_Ce_shareSite_1 : decode c_Ce_shareSite 1 = .ok (.getfield 30, 3) := by decide +kernel
theorem d_Ce_shareSite_4 : decode c_Ce_shareSite 4 = .ok (.iload_n 1, 1) := by decide +kernel
theorem d_Ce_shareSite_5 : decode c_Ce_shareSite 5 = .ok (.iaload, 1) := by decide +kernel
theorem d_Ce_shareSite_6 : decode c_Ce_shareSite 6 = .ok (.aload_n 0, 1) := by decide +kernel
theorem d_Ce_shareSite_7 : decode c_Ce_shareSite 7 = .ok (.getfield 30, 3) := by decide +kernel
theorem d_Ce_shareSite_10 : decode c_Ce_shareSite 10 = .ok (.iload_n 2, 1) := by decide +kernel
theorem d_Ce_shareSite_11 : decode c_Ce_shareSite 11 = .ok (.iaload, 1) := by decide +kernel
theorem d_Ce_shareSite_12 : decode c_Ce_shareSite 12 = .ok (.if_icmp .ne 35, 3) := by decide +kernel
theorem d_Ce_shareSite_15 : decode c_Ce_shareSite 15 = .ok (.aload_n 0, 1) := by decide +kernel
theorem d_Ce_shareSite_16 : decode c_Ce_shareSite 16 = .ok (.getfield 27, 3) := by decide +kernel
theorem d_Ce_shareSite_19 : decode c_Ce_shareSite 19 = .ok (.iload_n 1, 1) := by decide +kernel
theorem d_Ce_shareSite_20 : decode c_Ce_shareSite 20 = .ok (.iaload, 1) := by decide +kernel
theorem d_Ce_shareSite_21 : decode c_Ce_shareSite 21 = .ok (.aload_n 0, 1) := by decide +kernel
theorem d_Ce_shareSite_22 : decode c_Ce_shareSite 22 = .ok (.iload_n 2, 1) := by decide +kernel
theorem d_Ce_shareSite_23 : decode c_Ce_shareSite 23 = .ok (.invokevirtual 44, 3) := by decide +kernel
theorem d_Ce_shareSite_26 : decode c_Ce_shareSite 26 = .ok (.if_icmp .ge 21, 3) := by decide +kernel
theorem d_Ce_shareSite_29 : decode c_Ce_shareSite 29 = .ok (.aload_n 0, 1) := by decide +kernel
theorem d_Ce_shareSite_30 : decode c_Ce_shareSite 30 = .ok (.getfield 27, 3) := by decide +kernel
theorem d_Ce_shareSite_33 : decode c_Ce_shareSite 33 = .ok (.iload_n 2, 1) := by decide +kernel
theorem d_Ce_shareSite_34 : decode c_Ce_shareSite 34 = .ok (.iaload, 1) := by decide +kernel
theorem d_Ce_shareSite_35 : decode c_Ce_shareSite 35 = .ok (.aload_n 0, 1) := by decide +kernel
theorem d_Ce_shareSite_36 : decode c_Ce_shareSite 36 = .ok (.iload_n 1, 1) := by decide +kernel
theorem d_Ce_shareSite_37 : decode c_Ce_shareSite 37 = .ok (.invokevirtual 44, 3) := by decide +kernel
theorem d_Ce_shareSite_40 : decode c_Ce_shareSite 40 = .ok (.if_icmp .ge 7, 3) := by decide +kernel
theorem d_Ce_shareSite_43 : decode c_Ce_shareSite 43 = .ok (.iconst 1, 1) := by decide +kernel
theorem d_Ce_shareSite_44 : decode c_Ce_shareSite 44 = .ok (.goto 4, 3) := by decide +kernel
theorem d_Ce_shareSite_47 : decode c_Ce_shareSite 47 = .ok (.iconst 0, 1) := by decide +kernel
theorem d_Ce_shareSite_48 : decode c_Ce_shareSite 48 = .ok (.ireturn, 1) := by decide +kernel
theorem d_Ce_rowCost_0 : decode c_Ce_rowCost 0 = .ok (.bipush 20, 2) := by decide +kernel
theorem d_Ce_rowCost_2 : decode c_Ce_rowCost 2 = .ok (.aload_n 0, 1) := by decide +kernel
theorem d_Ce_rowCost_3 : decode c_Ce_rowCost 3 = .ok (.getfield 24, 3) := by decide +kernel
theorem d_Ce_rowCost_6 : decode c_Ce_rowCost 6 = .ok (.iload_n 1, 1) := by decide +kernel
theorem d_Ce_rowCost_7 : decode c_Ce_rowCost 7 = .ok (.iaload, 1) := by decide +kernel
theorem d_Ce_rowCost_8 : decode c_Ce_rowCost 8 = .ok (.iload_n 2, 1) := by decide +kernel
theorem d_Ce_rowCost_9 : decode c_Ce_rowCost 9 = .ok (.isub, 1) := by decide +kernel
theorem d_Ce_rowCost_10 : decode c_Ce_rowCost 10 = .ok (.invokestatic 48, 3) := by decide +kernel
theorem d_Ce_rowCost_13 : decode c_Ce_rowCost 13 = .ok (.imul, 1) := by decide +kernel
theorem d_Ce_rowCost_14 : decode c_Ce_rowCost 14 = .ok (.ireturn, 1) := by decide +kernel
theorem d_Ce_wayFromWanted_0 : decode c_Ce_wayFromWanted 0 = .ok (.lconst 0, 1) := by decide +kernel
theorem d_Ce_wayFromWanted_1 : decode c_Ce_wayFromWanted 1 = .ok (.lstore_n 1, 1) := by decide +kernel
theorem d_Ce_wayFromWanted_2 : decode c_Ce_wayFromWanted 2 = .ok (.iconst 0, 1) := by decide +kernel
theorem d_Ce_wayFromWanted_3 : decode c_Ce_wayFromWanted 3 = .ok (.istore_n 3, 1) := by decide +kernel
theorem d_Ce_wayFromWanted_4 : decode c_Ce_wayFromWanted 4 = .ok (.iload_n 3, 1) := by decide +kernel
theorem d_Ce_wayFromWanted_5 : decode c_Ce_wayFromWanted 5 = .ok (.aload_n 0, 1) := by decide +kernel
theorem d_Ce_wayFromWanted_6 : decode c_Ce_wayFromWanted 6 = .ok (.getfield 36, 3) := by decide +kernel
theorem d_Ce_wayFromWanted_9 : decode c_Ce_wayFromWanted 9 = .ok (.if_icmp .ge 41, 3) := by decide +kernel
theorem d_Ce_wayFromWanted_12 : decode c_Ce_wayFromWanted 12 = .ok (.lload_n 1, 1) := by decide +kernel
theorem d_Ce_wayFromWanted_13 : decode c_Ce_wayFromWanted 13 = .ok (.aload_n 0, 1) := by decide +kernel
theorem d_Ce_wayFromWanted_14 : decode c_Ce_wayFromWanted 14 = .ok (.getfield 27, 3) := by decide +kernel
theorem d_Ce_wayFromWanted_17 : decode c_Ce_wayFromWanted 17 = .ok (.iload_n 3, 1) := by decide +kernel
theorem d_Ce_wayFromWanted_18 : decode c_Ce_wayFromWanted 18 = .ok (.iaload, 1) := by decide +kernel
theorem d_Ce_wayFromWanted_19 : decode c_Ce_wayFromWanted 19 = .ok (.aload_n 0, 1) := by decide +kernel
theorem d_Ce_wayFromWanted_20 : decode c_Ce_wayFromWanted 20 = .ok (.getfield 21, 3) := by decide +kernel
theorem d_Ce_wayFromWanted_23 : decode c_Ce_wayFromWanted 23 = .ok (.iload_n 3, 1) := by decide +kernel
theorem d_Ce_wayFromWanted_24 : decode c_Ce_wayFromWanted 24 = .ok (.iaload, 1) := by decide +kernel
theorem d_Ce_wayFromWanted_25 : decode c_Ce_wayFromWanted 25 = .ok (.isub, 1) := by decide +kernel
theorem d_Ce_wayFromWanted_26 : decode c_Ce_wayFromWanted 26 = .ok (.invokestatic 48, 3) := by decide +kernel
theorem d_Ce_wayFromWanted_29 : decode c_Ce_wayFromWanted 29 = .ok (.aload_n 0, 1) := by decide +kernel
theorem d_Ce_wayFromWanted_30 : decode c_Ce_wayFromWanted 30 = .ok (.iload_n 3, 1) := by decide +kernel
theorem d_Ce_wayFromWanted_31 : decode c_Ce_wayFromWanted 31 = .ok (.aload_n 0, 1) := by decide +kernel
theorem d_Ce_wayFromWanted_32 : decode c_Ce_wayFromWanted 32 = .ok (.getfield 30, 3) := by decide +kernel
theorem d_Ce_wayFromWanted_35 : decode c_Ce_wayFromWanted 35 = .ok (.iload_n 3, 1) := by decide +kernel
theorem d_Ce_wayFromWanted_36 : decode c_Ce_wayFromWanted 36 = .ok (.iaload, 1) := by decide +kernel
theorem d_Ce_wayFromWanted_37 : decode c_Ce_wayFromWanted 37 = .ok (.invokevirtual 53, 3) := by decide +kernel
theorem d_Ce_wayFromWanted_40 : decode c_Ce_wayFromWanted 40 = .ok (.iadd, 1) := by decide +kernel
theorem d_Ce_wayFromWanted_41 : decode c_Ce_wayFromWanted 41 = .ok (.i2l, 1) := by decide +kernel
theorem d_Ce_wayFromWanted_42 : decode c_Ce_wayFromWanted 42 = .ok (.ladd, 1) := by decide +kernel
theorem d_Ce_wayFromWanted_43 : decode c_Ce_wayFromWanted 43 = .ok (.lstore_n 1, 1) := by decide +kernel
theorem d_Ce_wayFromWanted_44 : decode c_Ce_wayFromWanted 44 = .ok (.iinc 3 1, 3) := by decide +kernel
theorem d_Ce_wayFromWanted_47 : decode c_Ce_wayFromWanted 47 = .ok (.goto (-43), 3) := by decide +kernel
theorem d_Ce_wayFromWanted_50 : decode c_Ce_wayFromWanted 50 = .ok (.lload_n 1, 1) := by decide +kernel
theorem d_Ce_wayFromWanted_51 : decode c_Ce_wayFromWanted 51 = .ok (.lreturn, 1) := by decide +kernel
theorem d_Ce_distance_0 : decode c_Ce_distance 0 = .ok (.aload_n 0, 1) := by decide +kernel
theorem d_Ce_distance_1 : decode c_Ce_distance 1 = .ok (.getfield 27, 3) := by decide +kernel
theorem d_Ce_distance_4 : decode c_Ce_distance 4 = .ok (.iload_n 1, 1) := by decide +kernel
theorem d_Ce_distance_5 : decode c_Ce_distance 5 = .ok (.iaload, 1) := by decide +kernel
theorem d_Ce_distance_6 : decode c_Ce_distance 6 = .ok (.aload_n 0, 1) := by decide +kernel
theorem d_Ce_distance_7 : decode c_Ce_distance 7 = .ok (.iload_n 1, 1) := by decide +kernel
theorem d_Ce_distance_8 : decode c_Ce_distance 8 = .ok (.invokevirtual 44, 3) := by decide +kernel
theorem d_Ce_distance_11 : decode c_Ce_distance 11 = .ok (.iadd, 1) := by decide +kernel
theorem d_Ce_distance_12 : decode c_Ce_distance 12 = .ok (.aload_n 0, 1) := by decide +kernel
theorem d_Ce_distance_13 : decode c_Ce_distance 13 = .ok (.getfield 27, 3) := by decide +kernel
theorem d_Ce_distance_16 : decode c_Ce_distance 16 = .ok (.iload_n 2, 1) := by decide +kernel
theorem d_Ce_distance_17 : decode c_Ce_distance 17 = .ok (.iaload, 1) := by decide +kernel
theorem d_Ce_distance_18 : decode c_Ce_distance 18 = .ok (.isub, 1) := by decide +kernel
theorem d_Ce_distance_19 : decode c_Ce_distance 19 = .ok (.aload_n 0, 1) := by decide +kernel
theorem d_Ce_distance_20 : decode c_Ce_distance 20 = .ok (.iload_n 2, 1) := by decide +kernel
theorem d_Ce_distance_21 : decode c_Ce_distance 21 = .ok (.invokevirtual 44, 3) := by decide +kernel
theorem d_Ce_distance_24 : decode c_Ce_distance 24 = .ok (.isub, 1) := by decide +kernel
theorem d_Ce_distance_25 : decode c_Ce_distance 25 = .ok (.invokestatic 48, 3) := by decide +kernel
theorem d_Ce_distance_28 : decode c_Ce_distance 28 = .ok (.istore_n 3, 1) := by decide +kernel
theorem d_Ce_distance_29 : decode c_Ce_distance 29 = .ok (.iload_n 3, 1) := by decide +kernel
theorem d_Ce_distance_30 : decode c_Ce_distance 30 = .ok (.bipush 40, 2) := by decide +kernel
theorem d_Ce_distance_32 : decode c_Ce_distance 32 = .ok (.aload_n 0, 1) := by decide +kernel
theorem d_Ce_distance_33 : decode c_Ce_distance 33 = .ok (.getfield 30, 3) := by decide +kernel
theorem d_Ce_distance_36 : decode c_Ce_distance 36 = .ok (.iload_n 1, 1) := by decide +kernel
theorem d_Ce_distance_37 : decode c_Ce_distance 37 = .ok (.iaload, 1) := by decide +kernel
theorem d_Ce_distance_38 : decode c_Ce_distance 38 = .ok (.aload_n 0, 1) := by decide +kernel
theorem d_Ce_distance_39 : decode c_Ce_distance 39 = .ok (.getfield 30, 3) := by decide +kernel
theorem d_Ce_distance_42 : decode c_Ce_distance 42 = .ok (.iload_n 2, 1) := by decide +kernel
theorem d_Ce_distance_43 : decode c_Ce_distance 43 = .ok (.iaload, 1) := by decide +kernel
theorem d_Ce_distance_44 : decode c_Ce_distance 44 = .ok (.isub, 1) := by decide +kernel
theorem d_Ce_distance_45 : decode c_Ce_distance 45 = .ok (.invokestatic 48, 3) := by decide +kernel
theorem d_Ce_distance_48 : decode c_Ce_distance 48 = .ok (.imul, 1) := by decide +kernel
theorem d_Ce_distance_49 : decode c_Ce_distance 49 = .ok (.iadd, 1) := by decide +kernel
theorem d_Ce_distance_50 : decode c_Ce_distance 50 = .ok (.ireturn, 1) := by decide +kernel
theorem d_Gr_init_0 : decode c_Gr_init 0 = .ok (.aload_n 0, 1) := by decide +kernel
theorem d_Gr_init_1 : decode c_Gr_init 1 = .ok (.invokespecial 3, 3) := by decide +kernel
theorem d_Gr_init_4 : decode c_Gr_init 4 = .ok (.aload_n 0, 1) := by decide +kernel
theorem d_Gr_init_5 : decode c_Gr_init 5 = .ok (.iload_n 1, 1) := by decide +kernel
theorem d_Gr_init_6 : decode c_Gr_init 6 = .ok (.putfield 9, 3) := by decide +kernel
theorem d_Gr_init_9 : decode c_Gr_init 9 = .ok (.aload_n 0, 1) := by decide +kernel
theorem d_Gr_init_10 : decode c_Gr_init 10 = .ok (.iload_n 2, 1) := by decide +kernel
theorem d_Gr_init_11 : decode c_Gr_init 11 = .ok (.putfield 15, 3) := by decide +kernel
theorem d_Gr_init_14 : decode c_Gr_init 14 = .ok (.iload_n 1, 1) := by decide +kernel
theorem d_Gr_init_15 : decode c_Gr_init 15 = .ok (.iload_n 2, 1) := by decide +kernel
theorem d_Gr_init_16 : decode c_Gr_init 16 = .ok (.iconst 1, 1) := by decide +kernel
theorem d_Gr_init_17 : decode c_Gr_init 17 = .ok (.iadd, 1) := by decide +kernel
theorem d_Gr_init_18 : decode c_Gr_init 18 = .ok (.iconst 2, 1) := by decide +kernel
theorem d_Gr_init_19 : decode c_Gr_init 19 = .ok (.idiv, 1) := by decide +kernel
theorem d_Gr_init_20 : decode c_Gr_init 20 = .ok (.imul, 1) := by decide +kernel
theorem d_Gr_init_21 : decode c_Gr_init 21 = .ok (.iload_n 1, 1) := by decide +kernel
theorem d_Gr_init_22 : decode c_Gr_init 22 = .ok (.sipush 512, 3) := by decide +kernel
theorem d_Gr_init_25 : decode c_Gr_init 25 = .ok (.iadd, 1) := by decide +kernel
theorem d_Gr_init_26 : decode c_Gr_init 26 = .ok (.invokestatic 18, 3) := by decide +kernel
theorem d_Gr_init_29 : decode c_Gr_init 29 = .ok (.istore_n 3, 1) := by decide +kernel
theorem d_Gr_init_30 : decode c_Gr_init 30 = .ok (.aload_n 0, 1) := by decide +kernel
theorem d_Gr_init_31 : decode c_Gr_init 31 = .ok (.iload_n 3, 1) := by decide +kernel
theorem d_Gr_init_32 : decode c_Gr_init 32 = .ok (.newarray .int, 2) := by decide +kernel
theorem d_Gr_init_34 : decode c_Gr_init 34 = .ok (.putfield 24, 3) := by decide +kernel
theorem d_Gr_init_37 : decode c_Gr_init 37 = .ok (.aload_n 0, 1) := by decide +kernel
theorem d_Gr_init_38 : decode c_Gr_init 38 = .ok (.iload_n 3, 1) := by decide +kernel
theorem d_Gr_init_39 : decode c_Gr_init 39 = .ok (.newarray .int, 2) := by decide +kernel
theorem d_Gr_init_41 : decode c_Gr_init 41 = .ok (.putfield 28, 3) := by decide +kernel
theorem d_Gr_init_44 : decode c_Gr_init 44 = .ok (.aload_n 0, 1) := by decide +kernel
theorem d_Gr_init_45 : decode c_Gr_init 45 = .ok (.iload_n 3, 1) := by decide +kernel
theorem d_Gr_init_46 : decode c_Gr_init 46 = .ok (.newarray .int, 2) := by decide +kernel
theorem d_Gr_init_48 : decode c_Gr_init 48 = .ok (.putfield 31, 3) := by decide +kernel
theorem d_Gr_init_51 : decode c_Gr_init 51 = .ok (.iconst 0, 1) := by decide +kernel
theorem d_Gr_init_52 : decode c_Gr_init 52 = .ok (.istore 4, 2) := by decide +kernel
theorem d_Gr_init_54 : decode c_Gr_init 54 = .ok (.iload 4, 2) := by decide +kernel
theorem d_Gr_init_56 : decode c_Gr_init 56 = .ok (.iload_n 1, 1) := by decide +kernel
theorem d_Gr_init_57 : decode c_Gr_init 57 = .ok (.if_icmp .ge 26, 3) := by decide +kernel
theorem d_Gr_init_60 : decode c_Gr_init 60 = .ok (.aload_n 0, 1) := by decide +kernel
theorem d_Gr_init_61 : decode c_Gr_init 61 = .ok (.getfield 24, 3) := by decide +kernel
theorem d_Gr_init_64 : decode c_Gr_init 64 = .ok (.iload 4, 2) := by decide +kernel
theorem d_Gr_init_66 : decode c_Gr_init 66 = .ok (.iload 4, 2) := by decide +kernel
theorem d_Gr_init_68 : decode c_Gr_init 68 = .ok (.iastore, 1) := by decide +kernel
theorem d_Gr_init_69 : decode c_Gr_init 69 = .ok (.aload_n 0, 1) := by decide +kernel
theorem d_Gr_init_70 : decode c_Gr_init 70 = .ok (.getfield 31, 3) := by decide +kernel
theorem d_Gr_init_73 : decode c_Gr_init 73 = .ok (.iload 4, 2) := by decide +kernel
theorem d_Gr_init_75 : decode c_Gr_init 75 = .ok (.iload_n 2, 1) := by decide +kernel
theorem d_Gr_init_76 : decode c_Gr_init 76 = .ok (.iastore, 1) := by decide +kernel
theorem d_Gr_init_77 : decode c_Gr_init 77 = .ok (.iinc 4 1, 3) := by decide +kernel
theorem d_Gr_init_80 : decode c_Gr_init 80 = .ok (.goto (-26), 3) := by decide +kernel
theorem d_Gr_init_83 : decode c_Gr_init 83 = .ok (.aload_n 0, 1) := by decide +kernel
theorem d_Gr_init_84 : decode c_Gr_init 84 = .ok (.iload_n 1, 1) := by decide +kernel
theorem d_Gr_init_85 : decode c_Gr_init 85 = .ok (.putfield 34, 3) := by decide +kernel
theorem d_Gr_init_88 : decode c_Gr_init 88 = .ok (.return_, 1) := by decide +kernel
theorem d_Gr_cut_0 : decode c_Gr_cut 0 = .ok (.iconst 0, 1) := by decide +kernel
theorem d_Gr_cut_1 : decode c_Gr_cut 1 = .ok (.istore 4, 2) := by decide +kernel
theorem d_Gr_cut_3 : decode c_Gr_cut 3 = .ok (.aload_n 0, 1) := by decide +kernel
theorem d_Gr_cut_4 : decode c_Gr_cut 4 = .ok (.getfield 34, 3) := by decide +kernel
theorem d_Gr_cut_7 : decode c_Gr_cut 7 = .ok (.iconst 1, 1) := by decide +kernel
theorem d_Gr_cut_8 : decode c_Gr_cut 8 = .ok (.isub, 1) := by decide +kernel
theorem d_Gr_cut_9 : decode c_Gr_cut 9 = .ok (.istore 5, 2) := by decide +kernel
theorem d_Gr_cut_11 : decode c_Gr_cut 11 = .ok (.iload 5, 2) := by decide +kernel
theorem d_Gr_cut_13 : decode c_Gr_cut 13 = .ok (.ifCond .lt 56, 3) := by decide +kernel
theorem d_Gr_cut_16 : decode c_Gr_cut 16 = .ok (.aload_n 0, 1) := by decide +kernel
theorem d_Gr_cut_17 : decode c_Gr_cut 17 = .ok (.getfield 24, 3) := by decide +kernel
theorem d_Gr_cut_20 : decode c_Gr_cut 20 = .ok (.iload 5, 2) := by decide +kernel
theorem d_Gr_cut_22 : decode c_Gr_cut 22 = .ok (.iaload, 1) := by decide +kernel
theorem d_Gr_cut_23 : decode c_Gr_cut 23 = .ok (.iload_n 1, 1) := by decide +kernel
theorem d_Gr_cut_24 : decode c_Gr_cut 24 = .ok (.if_icmp .ne 39, 3) := by decide +kernel
theorem d_Gr_cut_27 : decode c_Gr_cut 27 = .ok (.aload_n 0, 1) := by decide +kernel
theorem d_Gr_cut_28 : decode c_Gr_cut 28 = .ok (.getfield 28, 3) := by decide +kernel
theorem d_Gr_cut_31 : decode c_Gr_cut 31 = .ok (.iload 5, 2) := by decide +kernel
theorem d_Gr_cut_33 : decode c_Gr_cut 33 = .ok (.iaload, 1) := by decide +kernel
theorem d_Gr_cut_34 : decode c_Gr_cut 34 = .ok (.iload_n 2, 1) := by decide +kernel
theorem d_Gr_cut_35 : decode c_Gr_cut 35 = .ok (.invokestatic 37, 3) := by decide +kernel
theorem d_Gr_cut_38 : decode c_Gr_cut 38 = .ok (.aload_n 0, 1) := by decide +kernel
theorem d_Gr_cut_39 : decode c_Gr_cut 39 = .ok (.getfield 31, 3) := by decide +kernel
theorem d_Gr_cut_42 : decode c_Gr_cut 42 = .ok (.iload 5, 2) := by decide +kernel
theorem d_Gr_cut_44 : decode c_Gr_cut 44 = .ok (.iaload, 1) := by decide +kernel
theorem d_Gr_cut_45 : decode c_Gr_cut 45 = .ok (.iload_n 3, 1) := by decide +kernel
theorem d_Gr_cut_46 : decode c_Gr_cut 46 = .ok (.invokestatic 18, 3) := by decide +kernel
theorem d_Gr_cut_49 : decode c_Gr_cut 49 = .ok (.if_icmp .ge 14, 3) := by decide +kernel
theorem d_Gr_cut_52 : decode c_Gr_cut 52 = .ok (.aload_n 0, 1) := by decide +kernel
theorem d_Gr_cut_53 : decode c_Gr_cut 53 = .ok (.iload 5, 2) := by decide +kernel
theorem d_Gr_cut_55 : decode c_Gr_cut 55 = .ok (.iload_n 2, 1) := by decide +kernel
theorem d_Gr_cut_56 : decode c_Gr_cut 56 = .ok (.iload_n 3, 1) := by decide +kernel
theorem d_Gr_cut_57 : decode c_Gr_cut 57 = .ok (.invokevirtual 40, 3) := by decide +kernel
theorem d_Gr_cut_60 : decode c_Gr_cut 60 = .ok (.iconst 1, 1) := by decide +kernel
theorem d_Gr_cut_61 : decode c_Gr_cut 61 = .ok (.istore 4, 2) := by decide +kernel
theorem d_Gr_cut_63 : decode c_Gr_cut 63 = .ok (.iinc 5 (-1), 3) := by decide +kernel
theorem d_Gr_cut_66 : decode c_Gr_cut 66 = .ok (.goto (-55), 3) := by decide +kernel
theorem d_Gr_cut_69 : decode c_Gr_cut 69 = .ok (.iload 4, 2) := by decide +kernel
theorem d_Gr_cut_71 : decode c_Gr_cut 71 = .ok (.ireturn, 1) := by decide +kernel
theorem d_Gr_cutPart_0 : decode c_Gr_cutPart 0 = .ok (.aload_n 0, 1) := by decide +kernel
theorem d_Gr_cutPart_1 : decode c_Gr_cutPart 1 = .ok (.getfield 28, 3) := by decide +kernel
theorem d_Gr_cutPart_4 : decode c_Gr_cutPart 4 = .ok (.iload_n 1, 1) := by decide +kernel
theorem d_Gr_cutPart_5 : decode c_Gr_cutPart 5 = .ok (.iaload, 1) := by decide +kernel
theorem d_Gr_cutPart_6 : decode c_Gr_cutPart 6 = .ok (.iload_n 2, 1) := by decide +kernel
theorem d_Gr_cutPart_7 : decode c_Gr_cutPart 7 = .ok (.if_icmp .ge 7, 3) := by decide +kernel
theorem d_Gr_cutPart_10 : decode c_Gr_cutPart 10 = .ok (.iconst 1, 1) := by decide +kernel
theorem d_Gr_cutPart_11 : decode c_Gr_cutPart 11 = .ok (.goto 4, 3) := by decide +kernel
theorem d_Gr_cutPart_14 : decode c_Gr_cutPart 14 = .ok (.iconst 0, 1) := by decide +kernel
theorem d_Gr_cutPart_15 : decode c_Gr_cutPart 15 = .ok (.istore 4, 2) := by decide +kernel
theorem d_Gr_cutPart_17 : decode c_Gr_cutPart 17 = .ok (.iload_n 3, 1) := by decide +kernel
theorem d_Gr_cutPart_18 : decode c_Gr_cutPart 18 = .ok (.aload_n 0, 1) := by decide +kernel
theorem d_Gr_cutPart_19 : decode c_Gr_cutPart 19 = .ok (.getfield 31, 3) := by decide +kernel
theorem d_Gr_cutPart_22 : decode c_Gr_cutPart 22 = .ok (.iload_n 1, 1) := by decide +kernel
theorem d_Gr_cutPart_23 : decode c_Gr_cutPart 23 = .ok (.iaload, 1) := by decide +kernel
theorem d_Gr_cutPart_24 : decode c_Gr_cutPart 24 = .ok (.if_icmp .ge 7, 3) := by decide +kernel
theorem d_Gr_cutPart_27 : decode c_Gr_cutPart 27 = .ok (.iconst 1, 1) := by decide +kernel
theorem d_Gr_cutPart_28 : decode c_Gr_cutPart 28 = .ok (.goto 4, 3) := by decide +kernel
theorem d_Gr_cutPart_31 : decode c_Gr_cutPart 31 = .ok (.iconst 0, 1) := by decide +kernel
theorem d_Gr_cutPart_32 : decode c_Gr_cutPart 32 = .ok (.istore 5, 2) := by decide +kernel
theorem d_Gr_cutPart_34 : decode c_Gr_cutPart 34 = .ok (.iload 4, 2) := by decide +kernel
theorem d_Gr_cutPart_36 : decode c_Gr_cutPart 36 = .ok (.ifCond .eq 20, 3) := by decide +kernel
theorem d_Gr_cutPart_39 : decode c_Gr_cutPart 39 = .ok (.iload 5, 2) := by decide +kernel
theorem d_Gr_cutPart_41 : decode c_Gr_cutPart 41 = .ok (.ifCond .eq 15, 3) := by decide +kernel
theorem d_Gr_cutPart_44 : decode c_Gr_cutPart 44 = .ok (.aload_n 0, 1) := by decide +kernel
theorem d_Gr_cutPart_45 : decode c_Gr_cutPart 45 = .ok (.iload_n 1, 1) := by decide +kernel
theorem d_Gr_cutPart_46 : decode c_Gr_cutPart 46 = .ok (.iload_n 3, 1) := by decide +kernel
theorem d_Gr_cutPart_47 : decode c_Gr_cutPart 47 = .ok (.aload_n 0, 1) := by decide +kernel
theorem d_Gr_cutPart_48 : decode c_Gr_cutPart 48 = .ok (.getfield 31, 3) := by decide +kernel
theorem d_Gr_cutPart_51 : decode c_Gr_cutPart 51 = .ok (.iload_n 1, 1) := by decide +kernel
theorem d_Gr_cutPart_52 : decode c_Gr_cutPart 52 = .ok (.iaload, 1) := by decide +kernel
theorem d_Gr_cutPart_53 : decode c_Gr_cutPart 53 = .ok (.invokevirtual 44, 3) := by decide +kernel
theorem d_Gr_cutPart_56 : decode c_Gr_cutPart 56 = .ok (.iload 4, 2) := by decide +kernel
theorem d_Gr_cutPart_58 : decode c_Gr_cutPart 58 = .ok (.ifCond .eq 13, 3) := by decide +kernel
theorem d_Gr_cutPart_61 : decode c_Gr_cutPart 61 = .ok (.aload_n 0, 1) := by decide +kernel
theorem d_Gr_cutPart_62 : decode c_Gr_cutPart 62 = .ok (.getfield 31, 3) := by decide +kernel
theorem d_Gr_cutPart_65 : decode c_Gr_cutPart 65 = .ok (.iload_n 1, 1) := by decide +kernel
theorem d_Gr_cutPart_66 : decode c_Gr_cutPart 66 = .ok (.iload_n 2, 1) := by decide +kernel
theorem d_Gr_cutPart_67 : decode c_Gr_cutPart 67 = .ok (.iastore, 1) := by decide +kernel
theorem d_Gr_cutPart_68 : decode c_Gr_cutPart 68 = .ok (.goto 23, 3) := by decide +kernel
theorem d_Gr_cutPart_71 : decode c_Gr_cutPart 71 = .ok (.iload 5, 2) := by decide +kernel
theorem d_Gr_cutPart_73 : decode c_Gr_cutPart 73 = .ok (.ifCond .eq 13, 3) := by decide +kernel
theorem d_Gr_cutPart_76 : decode c_Gr_cutPart 76 = .ok (.aload_n 0, 1) := by decide +kernel
theorem d_Gr_cutPart_77 : decode c_Gr_cutPart 77 = .ok (.getfield 28, 3) := by decide +kernel
theorem d_Gr_cutPart_80 : decode c_Gr_cutPart 80 = .ok (.iload_n 1, 1) := by decide +kernel
theorem d_Gr_cutPart_81 : decode c_Gr_cutPart 81 = .ok (.iload_n 3, 1) := by decide +kernel
theorem d_Gr_cutPart_82 : decode c_Gr_cutPart 82 = .ok (.iastore, 1) := by decide +kernel
theorem d_Gr_cutPart_83 : decode c_Gr_cutPart 83 = .ok (.goto 8, 3) := by decide +kernel
theorem d_Gr_cutPart_86 : decode c_Gr_cutPart 86 = .ok (.aload_n 0, 1) := by decide +kernel
theorem d_Gr_cutPart_87 : decode c_Gr_cutPart 87 = .ok (.iload_n 1, 1) := by decide +kernel
theorem d_Gr_cutPart_88 : decode c_Gr_cutPart 88 = .ok (.invokevirtual 47, 3) := by decide +kernel
theorem d_Gr_cutPart_91 : decode c_Gr_cutPart 91 = .ok (.return_, 1) := by decide +kernel
theorem d_Gr_insertBehind_0 : decode c_Gr_insertBehind 0 = .ok (.aload_n 0, 1) := by decide +kernel
theorem d_Gr_insertBehind_1 : decode c_Gr_insertBehind 1 = .ok (.getfield 34, 3) := by decide +kernel
theorem d_Gr_insertBehind_4 : decode c_Gr_insertBehind 4 = .ok (.aload_n 0, 1) := by decide +kernel
theorem d_Gr_insertBehind_5 : decode c_Gr_insertBehind 5 = .ok (.getfield 24, 3) := by decide +kernel
theorem d_Gr_insertBehind_8 : decode c_Gr_insertBehind 8 = .ok (.arraylength, 1) := by decide +kernel
theorem d_Gr_insertBehind_9 : decode c_Gr_insertBehind 9 = .ok (.if_icmp .lt 4, 3) := by decide +kernel
theorem d_Gr_insertBehind_12 : decode c_Gr_insertBehind 12 = .ok (.return_, 1) := by decide +kernel
theorem d_Gr_insertBehind_13 : decode c_Gr_insertBehind 13 = .ok (.aload_n 0, 1) := by decide +kernel
theorem d_Gr_insertBehind_14 : decode c_Gr_insertBehind 14 = .ok (.iload_n 1, 1) := by decide +kernel
theorem d_Gr_insertBehind_15 : decode c_Gr_insertBehind 15 = .ok (.iconst 1, 1) := by decide +kernel
theorem d_Gr_insertBehind_16 : decode c_Gr_insertBehind 16 = .ok (.iadd, 1) := by decide +kernel
theorem d_Gr_insertBehind_17 : decode c_Gr_insertBehind 17 = .ok (.iload_n 1, 1) := by decide +kernel
theorem d_Gr_insertBehind_18 : decode c_Gr_insertBehind 18 = .ok (.iconst 2, 1) := by decide +kernel
theorem d_Gr_insertBehind_19 : decode c_Gr_insertBehind 19 = .ok (.iadd, 1) := by decide +kernel
theorem d_Gr_insertBehind_20 : decode c_Gr_insertBehind 20 = .ok (.invokevirtual 51, 3) := by decide +kernel
theorem d_Gr_insertBehind_23 : decode c_Gr_insertBehind 23 = .ok (.aload_n 0, 1) := by decide +kernel
theorem d_Gr_insertBehind_24 : decode c_Gr_insertBehind 24 = .ok (.dup, 1) := by decide +kernel
theorem d_Gr_insertBehind_25 : decode c_Gr_insertBehind 25 = .ok (.getfield 34, 3) := by decide +kernel
theorem d_Gr_insertBehind_28 : decode c_Gr_insertBehind 28 = .ok (.iconst 1, 1) := by decide +kernel
theorem d_Gr_insertBehind_29 : decode c_Gr_insertBehind 29 = .ok (.iadd, 1) := by decide +kernel
theorem d_Gr_insertBehind_30 : decode c_Gr_insertBehind 30 = .ok (.putfield 34, 3) := by decide +kernel
theorem d_Gr_insertBehind_33 : decode c_Gr_insertBehind 33 = .ok (.aload_n 0, 1) := by decide +kernel
theorem d_Gr_insertBehind_34 : decode c_Gr_insertBehind 34 = .ok (.getfield 24, 3) := by decide +kernel
theorem d_Gr_insertBehind_37 : decode c_Gr_insertBehind 37 = .ok (.iload_n 1, 1) := by decide +kernel
theorem d_Gr_insertBehind_38 : decode c_Gr_insertBehind 38 = .ok (.iconst 1, 1) := by decide +kernel
theorem d_Gr_insertBehind_39 : decode c_Gr_insertBehind 39 = .ok (.iadd, 1) := by decide +kernel
theorem d_Gr_insertBehind_40 : decode c_Gr_insertBehind 40 = .ok (.aload_n 0, 1) := by decide +kernel
theorem d_Gr_insertBehind_41 : decode c_Gr_insertBehind 41 = .ok (.getfield 24, 3) := by decide +kernel
theorem d_Gr_insertBehind_44 : decode c_Gr_insertBehind 44 = .ok (.iload_n 1, 1) := by decide +kernel
theorem d_Gr_insertBehind_45 : decode c_Gr_insertBehind 45 = .ok (.iaload, 1) := by decide +kernel
theorem d_Gr_insertBehind_46 : decode c_Gr_insertBehind 46 = .ok (.iastore, 1) := by decide +kernel
theorem d_Gr_insertBehind_47 : decode c_Gr_insertBehind 47 = .ok (.aload_n 0, 1) := by decide +kernel
theorem d_Gr_insertBehind_48 : decode c_Gr_insertBehind 48 = .ok (.getfield 28, 3) := by decide +kernel
theorem d_Gr_insertBehind_51 : decode c_Gr_insertBehind 51 = .ok (.iload_n 1, 1) := by decide +kernel
theorem d_Gr_insertBehind_52 : decode c_Gr_insertBehind 52 = .ok (.iconst 1, 1) := by decide +kernel
theorem d_Gr_insertBehind_53 : decode c_Gr_insertBehind 53 = .ok (.iadd, 1) := by decide +kernel
theorem d_Gr_insertBehind_54 : decode c_Gr_insertBehind 54 = .ok (.iload_n 2, 1) := by decide +kernel
theorem d_Gr_insertBehind_55 : decode c_Gr_insertBehind 55 = .ok (.iastore, 1) := by decide +kernel
theorem d_Gr_insertBehind_56 : decode c_Gr_insertBehind 56 = .ok (.aload_n 0, 1) := by decide +kernel
theorem d_Gr_insertBehind_57 : decode c_Gr_insertBehind 57 = .ok (.getfield 31, 3) := by decide +kernel
theorem d_Gr_insertBehind_60 : decode c_Gr_insertBehind 60 = .ok (.iload_n 1, 1) := by decide +kernel
theorem d_Gr_insertBehind_61 : decode c_Gr_insertBehind 61 = .ok (.iconst 1, 1) := by decide +kernel
theorem d_Gr_insertBehind_62 : decode c_Gr_insertBehind 62 = .ok (.iadd, 1) := by decide +kernel
theorem d_Gr_insertBehind_63 : decode c_Gr_insertBehind 63 = .ok (.iload_n 3, 1) := by decide +kernel
theorem d_Gr_insertBehind_64 : decode c_Gr_insertBehind 64 = .ok (.iastore, 1) := by decide +kernel
theorem d_Gr_insertBehind_65 : decode c_Gr_insertBehind 65 = .ok (.return_, 1) := by decide +kernel
theorem d_Gr_remove_0 : decode c_Gr_remove 0 = .ok (.aload_n 0, 1) := by decide +kernel
theorem d_Gr_remove_1 : decode c_Gr_remove 1 = .ok (.iload_n 1, 1) := by decide +kernel
theorem d_Gr_remove_2 : decode c_Gr_remove 2 = .ok (.iconst 1, 1) := by decide +kernel
theorem d_Gr_remove_3 : decode c_Gr_remove 3 = .ok (.iadd, 1) := by decide +kernel
theorem d_Gr_remove_4 : decode c_Gr_remove 4 = .ok (.iload_n 1, 1) := by decide +kernel
theorem d_Gr_remove_5 : decode c_Gr_remove 5 = .ok (.invokevirtual 51, 3) := by decide +kernel
theorem d_Gr_remove_8 : decode c_Gr_remove 8 = .ok (.aload_n 0, 1) := by decide +kernel
theorem d_Gr_remove_9 : decode c_Gr_remove 9 = .ok (.dup, 1) := by decide +kernel
theorem d_Gr_remove_10 : decode c_Gr_remove 10 = .ok (.getfield 34, 3) := by decide +kernel
theorem d_Gr_remove_13 : decode c_Gr_remove 13 = .ok (.iconst 1, 1) := by decide +kernel
theorem d_Gr_remove_14 : decode c_Gr_remove 14 = .ok (.isub, 1) := by decide +kernel
theorem d_Gr_remove_15 : decode c_Gr_remove 15 = .ok (.putfield 34, 3) := by decide +kernel
theorem d_Gr_remove_18 : decode c_Gr_remove 18 = .ok (.return_, 1) := by decide +kernel
theorem d_Gr_shiftParts_0 : decode c_Gr_shiftParts 0 = .ok (.aload_n 0, 1) := by decide +kernel
theorem d_Gr_shiftParts_1 : decode c_Gr_shiftParts 1 = .ok (.getfield 34, 3) := by decide +kernel
theorem d_Gr_shiftParts_4 : decode c_Gr_shiftParts 4 = .ok (.iload_n 1, 1) := by decide +kernel
theorem d_Gr_shiftParts_5 : decode c_Gr_shiftParts 5 = .ok (.isub, 1) := by decide +kernel
theorem d_Gr_shiftParts_6 : decode c_Gr_shiftParts 6 = .ok (.istore_n 3, 1) := by decide +kernel
theorem d_Gr_shiftParts_7 : decode c_Gr_shiftParts 7 = .ok (.iload_n 3, 1) := by decide +kernel
theorem d_Gr_shiftParts_8 : decode c_Gr_shiftParts 8 = .ok (.ifCond .gt 4, 3) := by decide +kernel
theorem d_Gr_shiftParts_11 : decode c_Gr_shiftParts 11 = .ok (.return_, 1) := by decide +kernel
theorem d_Gr_shiftParts_12 : decode c_Gr_shiftParts 12 = .ok (.aload_n 0, 1) := by decide +kernel
theorem d_Gr_shiftParts_13 : decode c_Gr_shiftParts 13 = .ok (.getfield 24, 3) := by decide +kernel
theorem d_Gr_shiftParts_16 : decode c_Gr_shiftParts 16 = .ok (.iload_n 1, 1) := by decide +kernel
theorem d_Gr_shiftParts_17 : decode c_Gr_shiftParts 17 = .ok (.aload_n 0, 1) := by decide +kernel
theorem d_Gr_shiftParts_18 : decode c_Gr_shiftParts 18 = .ok (.getfield 24, 3) := by decide +kernel
theorem d_Gr_shiftParts_21 : decode c_Gr_shiftParts 21 = .ok (.iload_n 2, 1) := by decide +kernel
theorem d_Gr_shiftParts_22 : decode c_Gr_shiftParts 22 = .ok (.iload_n 3, 1) := by decide +kernel
theorem d_Gr_shiftParts_23 : decode c_Gr_shiftParts 23 = .ok (.invokestatic 55, 3) := by decide +kernel
theorem d_Gr_shiftParts_26 : decode c_Gr_shiftParts 26 = .ok (.aload_n 0, 1) := by decide +kernel
theorem d_Gr_shiftParts_27 : decode c_Gr_shiftParts 27 = .ok (.getfield 28, 3) := by decide +kernel
theorem d_Gr_shiftParts_30 : decode c_Gr_shiftParts 30 = .ok (.iload_n 1, 1) := by decide +kernel
theorem d_Gr_shiftParts_31 : decode c_Gr_shiftParts 31 = .ok (.aload_n 0, 1) := by decide +kernel
theorem d_Gr_shiftParts_32 : decode c_Gr_shiftParts 32 = .ok (.getfield 28, 3) := by decide +kernel
theorem d_Gr_shiftParts_35 : decode c_Gr_shiftParts 35 = .ok (.iload_n 2, 1) := by decide +kernel
theorem d_Gr_shiftParts_36 : decode c_Gr_shiftParts 36 = .ok (.iload_n 3, 1) := by decide +kernel
theorem d_Gr_shiftParts_37 : decode c_Gr_shiftParts 37 = .ok (.invokestatic 55, 3) := by decide +kernel
theorem d_Gr_shiftParts_40 : decode c_Gr_shiftParts 40 = .ok (.aload_n 0, 1) := by decide +kernel
theorem d_Gr_shiftParts_41 : decode c_Gr_shiftParts 41 = .ok (.getfield 31, 3) := by decide +kernel
theorem d_Gr_shiftParts_44 : decode c_Gr_shiftParts 44 = .ok (.iload_n 1, 1) := by decide +kernel
theorem d_Gr_shiftParts_45 : decode c_Gr_shiftParts 45 = .ok (.aload_n 0, 1) := by decide +kernel
theorem d_Gr_shiftParts_46 : decode c_Gr_shiftParts 46 = .ok (.getfield 31, 3) := by decide +kernel
theorem d_Gr_shiftParts_49 : decode c_Gr_shiftParts 49 = .ok (.iload_n 2, 1) := by decide +kernel
theorem d_Gr_shiftParts_50 : decode c_Gr_shiftParts 50 = .ok (.iload_n 3, 1) := by decide +kernel
theorem d_Gr_shiftParts_51 : decode c_Gr_shiftParts 51 = .ok (.invokestatic 55, 3) := by decide +kernel
theorem d_Gr_shiftParts_54 : decode c_Gr_shiftParts 54 = .ok (.return_, 1) := by decide +kernel
theorem d_Gr_isFree_0 : decode c_Gr_isFree 0 = .ok (.iconst 0, 1) := by decide +kernel
theorem d_Gr_isFree_1 : decode c_Gr_isFree 1 = .ok (.istore 4, 2) := by decide +kernel
theorem d_Gr_isFree_3 : decode c_Gr_isFree 3 = .ok (.iload 4, 2) := by decide +kernel
theorem d_Gr_isFree_5 : decode c_Gr_isFree 5 = .ok (.aload_n 0, 1) := by decide +kernel
theorem d_Gr_isFree_6 : decode c_Gr_isFree 6 = .ok (.getfield 34, 3) := by decide +kernel
theorem d_Gr_isFree_9 : decode c_Gr_isFree 9 = .ok (.if_icmp .ge 44, 3) := by decide +kernel
theorem d_Gr_isFree_12 : decode c_Gr_isFree 12 = .ok (.aload_n 0, 1) := by decide +kernel
theorem d_Gr_isFree_13 : decode c_Gr_isFree 13 = .ok (.getfield 24, 3) := by decide +kernel
theorem d_Gr_isFree_16 : decode c_Gr_isFree 16 = .ok (.iload 4, 2) := by decide +kernel
theorem d_Gr_isFree_18 : decode c_Gr_isFree 18 = .ok (.iaload, 1) := by decide +kernel
theorem d_Gr_isFree_19 : decode c_Gr_isFree 19 = .ok (.iload_n 1, 1) := by decide +kernel
theorem d_Gr_isFree_20 : decode c_Gr_isFree 20 = .ok (.if_icmp .ne 27, 3) := by decide +kernel
theorem d_Gr_isFree_23 : decode c_Gr_isFree 23 = .ok (.aload_n 0, 1) := by decide +kernel
theorem d_Gr_isFree_24 : decode c_Gr_isFree 24 = .ok (.getfield 28, 3) := by decide +kernel
theorem d_Gr_isFree_27 : decode c_Gr_isFree 27 = .ok (.iload 4, 2) := by decide +kernel
theorem d_Gr_isFree_29 : decode c_Gr_isFree 29 = .ok (.iaload, 1) := by decide +kernel
theorem d_Gr_isFree_30 : decode c_Gr_isFree 30 = .ok (.iload_n 2, 1) := by decide +kernel
theorem d_Gr_isFree_31 : decode c_Gr_isFree 31 = .ok (.if_icmp .gt 16, 3) := by decide +kernel
theorem d_Gr_isFree_34 : decode c_Gr_isFree 34 = .ok (.iload_n 3, 1) := by decide +kernel
theorem d_Gr_isFree_35 : decode c_Gr_isFree 35 = .ok (.aload_n 0, 1) := by decide +kernel
theorem d_Gr_isFree_36 : decode c_Gr_isFree 36 = .ok (.getfield 31, 3) := by decide +kernel
theorem d_Gr_isFree_39 : decode c_Gr_isFree 39 = .ok (.iload 4, 2) := by decide +kernel
theorem d_Gr_isFree_41 : decode c_Gr_isFree 41 = .ok (.iaload, 1) := by decide +kernel
theorem d_Gr_isFree_42 : decode c_Gr_isFree 42 = .ok (.if_icmp .gt 5, 3) := by decide +kernel
theorem d_Gr_isFree_45 : decode c_Gr_isFree 45 = .ok (.iconst 1, 1) := by decide +kernel
theorem d_Gr_isFree_46 : decode c_Gr_isFree 46 = .ok (.ireturn, 1) := by decide +kernel
theorem d_Gr_isFree_47 : decode c_Gr_isFree 47 = .ok (.iinc 4 1, 3) := by decide +kernel
theorem d_Gr_isFree_50 : decode c_Gr_isFree 50 = .ok (.goto (-47), 3) := by decide +kernel
theorem d_Gr_isFree_53 : decode c_Gr_isFree 53 = .ok (.iconst 0, 1) := by decide +kernel
theorem d_Gr_isFree_54 : decode c_Gr_isFree 54 = .ok (.ireturn, 1) := by decide +kernel
theorem d_Ne_init_0 : decode c_Ne_init 0 = .ok (.aload_n 0, 1) := by decide +kernel
theorem d_Ne_init_1 : decode c_Ne_init 1 = .ok (.invokespecial 3, 3) := by decide +kernel
theorem d_Ne_init_4 : decode c_Ne_init 4 = .ok (.aload_n 0, 1) := by decide +kernel
theorem d_Ne_init_5 : decode c_Ne_init 5 = .ok (.sipush 160, 3) := by decide +kernel
theorem d_Ne_init_8 : decode c_Ne_init 8 = .ok (.newarray .int, 2) := by decide +kernel
theorem d_Ne_init_10 : decode c_Ne_init 10 = .ok (.putfield 9, 3) := by decide +kernel
theorem d_Ne_init_13 : decode c_Ne_init 13 = .ok (.aload_n 0, 1) := by decide +kernel
theorem d_Ne_init_14 : decode c_Ne_init 14 = .ok (.sipush 160, 3) := by decide +kernel
theorem d_Ne_init_17 : decode c_Ne_init 17 = .ok (.newarray .int, 2) := by decide +kernel
theorem d_Ne_init_19 : decode c_Ne_init 19 = .ok (.putfield 15, 3) := by decide +kernel
theorem d_Ne_init_22 : decode c_Ne_init 22 = .ok (.aload_n 0, 1) := by decide +kernel
theorem d_Ne_init_23 : decode c_Ne_init 23 = .ok (.bipush 60, 2) := by decide +kernel
theorem d_Ne_init_25 : decode c_Ne_init 25 = .ok (.newarray .int, 2) := by decide +kernel
theorem d_Ne_init_27 : decode c_Ne_init 27 = .ok (.putfield 18, 3) := by decide +kernel
theorem d_Ne_init_30 : decode c_Ne_init 30 = .ok (.aload_n 0, 1) := by decide +kernel
theorem d_Ne_init_31 : decode c_Ne_init 31 = .ok (.aload_n 1, 1) := by decide +kernel
theorem d_Ne_init_32 : decode c_Ne_init 32 = .ok (.putfield 21, 3) := by decide +kernel
theorem d_Ne_init_35 : decode c_Ne_init 35 = .ok (.iconst 0, 1) := by decide +kernel
theorem d_Ne_init_36 : decode c_Ne_init 36 = .ok (.istore_n 2, 1) := by decide +kernel
theorem d_Ne_init_37 : decode c_Ne_init 37 = .ok (.iload_n 2, 1) := by decide +kernel
theorem d_Ne_init_38 : decode c_Ne_init 38 = .ok (.bipush 60, 2) := by decide +kernel
theorem d_Ne_init_40 : decode c_Ne_init 40 = .ok (.if_icmp .ge 16, 3) := by decide +kernel
theorem d_Ne_init_43 : decode c_Ne_init 43 = .ok (.aload_n 0, 1) := by decide +kernel
theorem d_Ne_init_44 : decode c_Ne_init 44 = .ok (.getfield 18, 3) := by decide +kernel
theorem d_Ne_init_47 : decode c_Ne_init 47 = .ok (.iload_n 2, 1) := by decide +kernel
theorem d_Ne_init_48 : decode c_Ne_init 48 = .ok (.iconst (-1), 1) := by decide +kernel
theorem d_Ne_init_49 : decode c_Ne_init 49 = .ok (.iastore, 1) := by decide +kernel
theorem d_Ne_init_50 : decode c_Ne_init 50 = .ok (.iinc 2 1, 3) := by decide +kernel
theorem d_Ne_init_53 : decode c_Ne_init 53 = .ok (.goto (-16), 3) := by decide +kernel
theorem d_Ne_init_56 : decode c_Ne_init 56 = .ok (.return_, 1) := by decide +kernel
theorem d_Ne_add_0 : decode c_Ne_add 0 = .ok (.aload_n 0, 1) := by decide +kernel
theorem d_Ne_add_1 : decode c_Ne_add 1 = .ok (.iconst 2, 1) := by decide +kernel
theorem d_Ne_add_2 : decode c_Ne_add 2 = .ok (.aload_n 0, 1) := by decide +kernel
theorem d_Ne_add_3 : decode c_Ne_add 3 = .ok (.getfield 25, 3) := by decide +kernel
theorem d_Ne_add_6 : decode c_Ne_add 6 = .ok (.imul, 1) := by decide +kernel
theorem d_Ne_add_7 : decode c_Ne_add 7 = .ok (.iload_n 1, 1) := by decide +kernel
theorem d_Ne_add_8 : decode c_Ne_add 8 = .ok (.invokevirtual 29, 3) := by decide +kernel
theorem d_Ne_add_11 : decode c_Ne_add 11 = .ok (.aload_n 0, 1) := by decide +kernel
theorem d_Ne_add_12 : decode c_Ne_add 12 = .ok (.iconst 2, 1) := by decide +kernel
theorem d_Ne_add_13 : decode c_Ne_add 13 = .ok (.aload_n 0, 1) := by decide +kernel
theorem d_Ne_add_14 : decode c_Ne_add 14 = .ok (.getfield 25, 3) := by decide +kernel
theorem d_Ne_add_17 : decode c_Ne_add 17 = .ok (.imul, 1) := by decide +kernel
theorem d_Ne_add_18 : decode c_Ne_add 18 = .ok (.iconst 1, 1) := by decide +kernel
theorem d_Ne_add_19 : decode c_Ne_add 19 = .ok (.iadd, 1) := by decide +kernel
theorem d_Ne_add_20 : decode c_Ne_add 20 = .ok (.iload_n 2, 1) := by decide +kernel
theorem d_Ne_add_21 : decode c_Ne_add 21 = .ok (.invokevirtual 29, 3) := by decide +kernel
theorem d_Ne_add_24 : decode c_Ne_add 24 = .ok (.aload_n 0, 1) := by decide +kernel
theorem d_Ne_add_25 : decode c_Ne_add 25 = .ok (.dup, 1) := by decide +kernel
theorem d_Ne_add_26 : decode c_Ne_add 26 = .ok (.getfield 25, 3) := by decide +kernel
theorem d_Ne_add_29 : decode c_Ne_add 29 = .ok (.iconst 1, 1) := by decide +kernel
theorem d_Ne_add_30 : decode c_Ne_add 30 = .ok (.iadd, 1) := by decide +kernel
theorem d_Ne_add_31 : decode c_Ne_add 31 = .ok (.putfield 25, 3) := by decide +kernel
theorem d_Ne_add_34 : decode c_Ne_add 34 = .ok (.aload_n 0, 1) := by decide +kernel
theorem d_Ne_add_35 : decode c_Ne_add 35 = .ok (.getfield 25, 3) := by decide +kernel
theorem d_Ne_add_38 : decode c_Ne_add 38 = .ok (.iconst 1, 1) := by decide +kernel
theorem d_Ne_add_39 : decode c_Ne_add 39 = .ok (.isub, 1) := by decide +kernel
theorem d_Ne_add_40 : decode c_Ne_add 40 = .ok (.ireturn, 1) := by decide +kernel
theorem d_Ne_chain_0 : decode c_Ne_chain 0 = .ok (.aload_n 0, 1) := by decide +kernel
theorem d_Ne_chain_1 : decode c_Ne_chain 1 = .ok (.getfield 9, 3) := by decide +kernel
theorem d_Ne_chain_4 : decode c_Ne_chain 4 = .ok (.iload_n 1, 1) := by decide +kernel
theorem d_Ne_chain_5 : decode c_Ne_chain 5 = .ok (.iload_n 2, 1) := by decide +kernel
theorem d_Ne_chain_6 : decode c_Ne_chain 6 = .ok (.iastore, 1) := by decide +kernel
theorem d_Ne_chain_7 : decode c_Ne_chain 7 = .ok (.aload_n 0, 1) := by decide +kernel
theorem d_Ne_chain_8 : decode c_Ne_chain 8 = .ok (.getfield 15, 3) := by decide +kernel
theorem d_Ne_chain_11 : decode c_Ne_chain 11 = .ok (.iload_n 1, 1) := by decide +kernel
theorem d_Ne_chain_12 : decode c_Ne_chain 12 = .ok (.aload_n 0, 1) := by decide +kernel
theorem d_Ne_chain_13 : decode c_Ne_chain 13 = .ok (.getfield 18, 3) := by decide +kernel
theorem d_Ne_chain_16 : decode c_Ne_chain 16 = .ok (.iload_n 2, 1) := by decide +kernel
theorem d_Ne_chain_17 : decode c_Ne_chain 17 = .ok (.iaload, 1) := by decide +kernel
theorem d_Ne_chain_18 : decode c_Ne_chain 18 = .ok (.iastore, 1) := by decide +kernel
theorem d_Ne_chain_19 : decode c_Ne_chain 19 = .ok (.aload_n 0, 1) := by decide +kernel
theorem d_Ne_chain_20 : decode c_Ne_chain 20 = .ok (.getfield 18, 3) := by decide +kernel
theorem d_Ne_chain_23 : decode c_Ne_chain 23 = .ok (.iload_n 2, 1) := by decide +kernel
theorem d_Ne_chain_24 : decode c_Ne_chain 24 = .ok (.iload_n 1, 1) := by decide +kernel
theorem d_Ne_chain_25 : decode c_Ne_chain 25 = .ok (.iastore, 1) := by decide +kernel
theorem d_Ne_chain_26 : decode c_Ne_chain 26 = .ok (.return_, 1) := by decide +kernel
theorem d_Ne_length_0 : decode c_Ne_length 0 = .ok (.lconst 0, 1) := by decide +kernel
theorem d_Ne_length_1 : decode c_Ne_length 1 = .ok (.lstore_n 1, 1) := by decide +kernel
theorem d_Ne_length_2 : decode c_Ne_length 2 = .ok (.iconst 0, 1) := by decide +kernel
theorem d_Ne_length_3 : decode c_Ne_length 3 = .ok (.istore_n 3, 1) := by decide +kernel
theorem d_Ne_length_4 : decode c_Ne_length 4 = .ok (.iload_n 3, 1) := by decide +kernel
theorem d_Ne_length_5 : decode c_Ne_length 5 = .ok (.aload_n 0, 1) := by decide +kernel
theorem d_Ne_length_6 : decode c_Ne_length 6 = .ok (.getfield 25, 3) := by decide +kernel
theorem d_Ne_length_9 : decode c_Ne_length 9 = .ok (.if_icmp .ge 38, 3) := by decide +kernel
theorem d_Ne_length_12 : decode c_Ne_length 12 = .ok (.lload_n 1, 1) := by decide +kernel
theorem d_Ne_length_13 : decode c_Ne_length 13 = .ok (.aload_n 0, 1) := by decide +kernel
theorem d_Ne_length_14 : decode c_Ne_length 14 = .ok (.getfield 21, 3) := by decide +kernel
theorem d_Ne_length_17 : decode c_Ne_length 17 = .ok (.aload_n 0, 1) := by decide +kernel
theorem d_Ne_length_18 : decode c_Ne_length 18 = .ok (.getfield 9, 3) := by decide +kernel
theorem d_Ne_length_21 : decode c_Ne_length 21 = .ok (.iconst 2, 1) := by decide +kernel
theorem d_Ne_length_22 : decode c_Ne_length 22 = .ok (.iload_n 3, 1) := by decide +kernel
theorem d_Ne_length_23 : decode c_Ne_length 23 = .ok (.imul, 1) := by decide +kernel
theorem d_Ne_length_24 : decode c_Ne_length 24 = .ok (.iaload, 1) := by decide +kernel
theorem d_Ne_length_25 : decode c_Ne_length 25 = .ok (.aload_n 0, 1) := by decide +kernel
theorem d_Ne_length_26 : decode c_Ne_length 26 = .ok (.getfield 9, 3) := by decide +kernel
theorem d_Ne_length_29 : decode c_Ne_length 29 = .ok (.iconst 2, 1) := by decide +kernel
theorem d_Ne_length_30 : decode c_Ne_length 30 = .ok (.iload_n 3, 1) := by decide +kernel
theorem d_Ne_length_31 : decode c_Ne_length 31 = .ok (.imul, 1) := by decide +kernel
theorem d_Ne_length_32 : decode c_Ne_length 32 = .ok (.iconst 1, 1) := by decide +kernel
theorem d_Ne_length_33 : decode c_Ne_length 33 = .ok (.iadd, 1) := by decide +kernel
theorem d_Ne_length_34 : decode c_Ne_length 34 = .ok (.iaload, 1) := by decide +kernel
theorem d_Ne_length_35 : decode c_Ne_length 35 = .ok (.invokevirtual 33, 3) := by decide +kernel
theorem d_Ne_length_38 : decode c_Ne_length 38 = .ok (.i2l, 1) := by decide +kernel
theorem d_Ne_length_39 : decode c_Ne_length 39 = .ok (.ladd, 1) := by decide +kernel
theorem d_Ne_length_40 : decode c_Ne_length 40 = .ok (.lstore_n 1, 1) := by decide +kernel
theorem d_Ne_length_41 : decode c_Ne_length 41 = .ok (.iinc 3 1, 3) := by decide +kernel
theorem d_Ne_length_44 : decode c_Ne_length 44 = .ok (.goto (-40), 3) := by decide +kernel
theorem d_Ne_length_47 : decode c_Ne_length 47 = .ok (.lload_n 1, 1) := by decide +kernel
theorem d_Ne_length_48 : decode c_Ne_length 48 = .ok (.lreturn, 1) := by decide +kernel
theorem d_Ne_exchangeFirstPair_0 : decode c_Ne_exchangeFirstPair 0 = .ok (.iconst 0, 1) := by decide +kernel
theorem d_Ne_exchangeFirstPair_1 : decode c_Ne_exchangeFirstPair 1 = .ok (.istore_n 1, 1) := by decide +kernel
theorem d_Ne_exchangeFirstPair_2 : decode c_Ne_exchangeFirstPair 2 = .ok (.iload_n 1, 1) := by decide +kernel
theorem d_Ne_exchangeFirstPair_3 : decode c_Ne_exchangeFirstPair 3 = .ok (.aload_n 0, 1) := by decide +kernel
theorem d_Ne_exchangeFirstPair_4 : decode c_Ne_exchangeFirstPair 4 = .ok (.getfield 21, 3) := by decide +kernel
theorem d_Ne_exchangeFirstPair_7 : decode c_Ne_exchangeFirstPair 7 = .ok (.getfield 39, 3) := by decide +kernel
theorem d_Ne_exchangeFirstPair_10 : decode c_Ne_exchangeFirstPair 10 = .ok (.if_icmp .ge 69, 3) := by decide +kernel
theorem d_Ne_exchangeFirstPair_13 : decode c_Ne_exchangeFirstPair 13 = .ok (.iload_n 1, 1) := by decide +kernel
theorem d_Ne_exchangeFirstPair_14 : decode c_Ne_exchangeFirstPair 14 = .ok (.iconst 1, 1) := by decide +kernel
theorem d_Ne_exchangeFirstPair_15 : decode c_Ne_exchangeFirstPair 15 = .ok (.iadd, 1) := by decide +kernel
theorem d_Ne_exchangeFirstPair_16 : decode c_Ne_exchangeFirstPair 16 = .ok (.istore_n 2, 1) := by decide +kernel
theorem d_Ne_exchangeFirstPair_17 : decode c_Ne_exchangeFirstPair 17 = .ok (.iload_n 2, 1) := by decide +kernel
theorem d_Ne_exchangeFirstPair_18 : decode c_Ne_exchangeFirstPair 18 = .ok (.aload_n 0, 1) := by decide +kernel
theorem d_Ne_exchangeFirstPair_19 : decode c_Ne_exchangeFirstPair 19 = .ok (.getfield 21, 3) := by decide +kernel
theorem d_Ne_exchangeFirstPair_22 : decode c_Ne_exchangeFirstPair 22 = .ok (.getfield 39, 3) := by decide +kernel
theorem d_Ne_exchangeFirstPair_25 : decode c_Ne_exchangeFirstPair 25 = .ok (.if_icmp .ge 48, 3) := by decide +kernel
theorem d_Ne_exchangeFirstPair_28 : decode c_Ne_exchangeFirstPair 28 = .ok (.aload_n 0, 1) := by decide +kernel
theorem d_Ne_exchangeFirstPair_29 : decode c_Ne_exchangeFirstPair 29 = .ok (.getfield 21, 3) := by decide +kernel
theorem d_Ne_exchangeFirstPair_32 : decode c_Ne_exchangeFirstPair 32 = .ok (.iload_n 1, 1) := by decide +kernel
theorem d_Ne_exchangeFirstPair_33 : decode c_Ne_exchangeFirstPair 33 = .ok (.iload_n 2, 1) := by decide +kernel
theorem d_Ne_exchangeFirstPair_34 : decode c_Ne_exchangeFirstPair 34 = .ok (.invokevirtual 40, 3) := by decide +kernel
theorem d_Ne_exchangeFirstPair_37 : decode c_Ne_exchangeFirstPair 37 = .ok (.ifCond .eq 30, 3) := by decide +kernel
theorem d_Ne_exchangeFirstPair_40 : decode c_Ne_exchangeFirstPair 40 = .ok (.aload_n 0, 1) := by decide +kernel
theorem d_Ne_exchangeFirstPair_41 : decode c_Ne_exchangeFirstPair 41 = .ok (.iload_n 1, 1) := by decide +kernel
theorem d_Ne_exchangeFirstPair_42 : decode c_Ne_exchangeFirstPair 42 = .ok (.iload_n 2, 1) := by decide +kernel
theorem d_Ne_exchangeFirstPair_43 : decode c_Ne_exchangeFirstPair 43 = .ok (.invokevirtual 44, 3) := by decide +kernel
theorem d_Ne_exchangeFirstPair_46 : decode c_Ne_exchangeFirstPair 46 = .ok (.aload_n 0, 1) := by decide +kernel
theorem d_Ne_exchangeFirstPair_47 : decode c_Ne_exchangeFirstPair 47 = .ok (.iload_n 2, 1) := by decide +kernel
theorem d_Ne_exchangeFirstPair_48 : decode c_Ne_exchangeFirstPair 48 = .ok (.iload_n 1, 1) := by decide +kernel
theorem d_Ne_exchangeFirstPair_49 : decode c_Ne_exchangeFirstPair 49 = .ok (.invokevirtual 44, 3) := by decide +kernel
theorem d_Ne_exchangeFirstPair_52 : decode c_Ne_exchangeFirstPair 52 = .ok (.iadd, 1) := by decide +kernel
theorem d_Ne_exchangeFirstPair_53 : decode c_Ne_exchangeFirstPair 53 = .ok (.ifCond .le 14, 3) := by decide +kernel
theorem d_Ne_exchangeFirstPair_56 : decode c_Ne_exchangeFirstPair 56 = .ok (.aload_n 0, 1) := by decide +kernel
theorem d_Ne_exchangeFirstPair_57 : decode c_Ne_exchangeFirstPair 57 = .ok (.getfield 21, 3) := by decide +kernel
theorem d_Ne_exchangeFirstPair_60 : decode c_Ne_exchangeFirstPair 60 = .ok (.iload_n 1, 1) := by decide +kernel
theorem d_Ne_exchangeFirstPair_61 : decode c_Ne_exchangeFirstPair 61 = .ok (.iload_n 2, 1) := by decide +kernel
theorem d_Ne_exchangeFirstPair_62 : decode c_Ne_exchangeFirstPair 62 = .ok (.invokevirtual 47, 3) := by decide +kernel
theorem d_Ne_exchangeFirstPair_65 : decode c_Ne_exchangeFirstPair 65 = .ok (.iconst 1, 1) := by decide +kernel
theorem d_Ne_exchangeFirstPair_66 : decode c_Ne_exchangeFirstPair 66 = .ok (.ireturn, 1) := by decide +kernel
theorem d_Ne_exchangeFirstPair_67 : decode c_Ne_exchangeFirstPair 67 = .ok (.iinc 2 1, 3) := by decide +kernel
theorem d_Ne_exchangeFirstPair_70 : decode c_Ne_exchangeFirstPair 70 = .ok (.goto (-53), 3) := by decide +kernel
theorem d_Ne_exchangeFirstPair_73 : decode c_Ne_exchangeFirstPair 73 = .ok (.iinc 1 1, 3) := by decide +kernel
theorem d_Ne_exchangeFirstPair_76 : decode c_Ne_exchangeFirstPair 76 = .ok (.goto (-74), 3) := by decide +kernel
theorem d_Ne_exchangeFirstPair_79 : decode c_Ne_exchangeFirstPair 79 = .ok (.iconst 0, 1) := by decide +kernel
theorem d_Ne_exchangeFirstPair_80 : decode c_Ne_exchangeFirstPair 80 = .ok (.ireturn, 1) := by decide +kernel
theorem d_Ne_gainOfCellAt_0 : decode c_Ne_gainOfCellAt 0 = .ok (.iconst 0, 1) := by decide +kernel
theorem d_Ne_gainOfCellAt_1 : decode c_Ne_gainOfCellAt 1 = .ok (.istore_n 3, 1) := by decide +kernel
theorem d_Ne_gainOfCellAt_2 : decode c_Ne_gainOfCellAt 2 = .ok (.aload_n 0, 1) := by decide +kernel
theorem d_Ne_gainOfCellAt_3 : decode c_Ne_gainOfCellAt 3 = .ok (.getfield 18, 3) := by decide +kernel
theorem d_Ne_gainOfCellAt_6 : decode c_Ne_gainOfCellAt 6 = .ok (.iload_n 1, 1) := by decide +kernel
theorem d_Ne_gainOfCellAt_7 : decode c_Ne_gainOfCellAt 7 = .ok (.iaload, 1) := by decide +kernel
theorem d_Ne_gainOfCellAt_8 : decode c_Ne_gainOfCellAt 8 = .ok (.istore 4, 2) := by decide +kernel
theorem d_Ne_gainOfCellAt_10 : decode c_Ne_gainOfCellAt 10 = .ok (.iconst 0, 1) := by decide +kernel
theorem d_Ne_gainOfCellAt_11 : decode c_Ne_gainOfCellAt 11 = .ok (.istore 5, 2) := by decide +kernel
theorem d_Ne_gainOfCellAt_13 : decode c_Ne_gainOfCellAt 13 = .ok (.iload 5, 2) := by decide +kernel
theorem d_Ne_gainOfCellAt_15 : decode c_Ne_gainOfCellAt 15 = .ok (.bipush 80, 2) := by decide +kernel
theorem d_Ne_gainOfCellAt_17 : decode c_Ne_gainOfCellAt 17 = .ok (.if_icmp .ge 65, 3) := by decide +kernel
theorem d_Ne_gainOfCellAt_20 : decode c_Ne_gainOfCellAt 20 = .ok (.iload 4, 2) := by decide +kernel
theorem d_Ne_gainOfCellAt_22 : decode c_Ne_gainOfCellAt 22 = .ok (.iconst (-1), 1) := by decide +kernel
theorem d_Ne_gainOfCellAt_23 : decode c_Ne_gainOfCellAt 23 = .ok (.if_icmp .eq 59, 3) := by decide +kernel
theorem d_Ne_gainOfCellAt_26 : decode c_Ne_gainOfCellAt 26 = .ok (.aload_n 0, 1) := by decide +kernel
theorem d_Ne_gainOfCellAt_27 : decode c_Ne_gainOfCellAt 27 = .ok (.getfield 9, 3) := by decide +kernel
theorem d_Ne_gainOfCellAt_30 : decode c_Ne_gainOfCellAt 30 = .ok (.iload 4, 2) := by decide +kernel
theorem d_Ne_gainOfCellAt_32 : decode c_Ne_gainOfCellAt 32 = .ok (.iconst 1, 1) := by decide +kernel
theorem d_Ne_gainOfCellAt_33 : decode c_Ne_gainOfCellAt 33 = .ok (.ixor, 1) := by decide +kernel
theorem d_Ne_gainOfCellAt_34 : decode c_Ne_gainOfCellAt 34 = .ok (.iaload, 1) := by decide +kernel
theorem d_Ne_gainOfCellAt_35 : decode c_Ne_gainOfCellAt 35 = .ok (.istore 6, 2) := by decide +kernel
theorem d_Ne_gainOfCellAt_37 : decode c_Ne_gainOfCellAt 37 = .ok (.iload 6, 2) := by decide +kernel
theorem d_Ne_gainOfCellAt_39 : decode c_Ne_gainOfCellAt 39 = .ok (.iload_n 2, 1) := by decide +kernel
theorem d_Ne_gainOfCellAt_40 : decode c_Ne_gainOfCellAt 40 = .ok (.if_icmp .eq 27, 3) := by decide +kernel
theorem d_Ne_gainOfCellAt_43 : decode c_Ne_gainOfCellAt 43 = .ok (.iload_n 3, 1) := by decide +kernel
theorem d_Ne_gainOfCellAt_44 : decode c_Ne_gainOfCellAt 44 = .ok (.aload_n 0, 1) := by decide +kernel
theorem d_Ne_gainOfCellAt_45 : decode c_Ne_gainOfCellAt 45 = .ok (.getfield 21, 3) := by decide +kernel
theorem d_Ne_gainOfCellAt_48 : decode c_Ne_gainOfCellAt 48 = .ok (.iload_n 1, 1) := by decide +kernel
theorem d_Ne_gainOfCellAt_49 : decode c_Ne_gainOfCellAt 49 = .ok (.iload 6, 2) := by decide +kernel
theorem d_Ne_gainOfCellAt_51 : decode c_Ne_gainOfCellAt 51 = .ok (.invokevirtual 33, 3) := by decide +kernel
theorem d_Ne_gainOfCellAt_54 : decode c_Ne_gainOfCellAt 54 = .ok (.aload_n 0, 1) := by decide +kernel
theorem d_Ne_gainOfCellAt_55 : decode c_Ne_gainOfCellAt 55 = .ok (.getfield 21, 3) := by decide +kernel
theorem d_Ne_gainOfCellAt_58 : decode c_Ne_gainOfCellAt 58 = .ok (.iload_n 2, 1) := by decide +kernel
theorem d_Ne_gainOfCellAt_59 : decode c_Ne_gainOfCellAt 59 = .ok (.iload 6, 2) := by decide +kernel
theorem d_Ne_gainOfCellAt_61 : decode c_Ne_gainOfCellAt 61 = .ok (.invokevirtual 33, 3) := by decide +kernel
theorem d_Ne_gainOfCellAt_64 : decode c_Ne_gainOfCellAt 64 = .ok (.isub, 1) := by decide +kernel
theorem d_Ne_gainOfCellAt_65 : decode c_Ne_gainOfCellAt 65 = .ok (.iadd, 1) := by decide +kernel
theorem d_Ne_gainOfCellAt_66 : decode c_Ne_gainOfCellAt 66 = .ok (.istore_n 3, 1) := by decide +kernel
theorem d_Ne_gainOfCellAt_67 : decode c_Ne_gainOfCellAt 67 = .ok (.aload_n 0, 1) := by decide +kernel
theorem d_Ne_gainOfCellAt_68 : decode c_Ne_gainOfCellAt 68 = .ok (.getfield 15, 3) := by decide +kernel
theorem d_Ne_gainOfCellAt_71 : decode c_Ne_gainOfCellAt 71 = .ok (.iload 4, 2) := by decide +kernel
theorem d_Ne_gainOfCellAt_73 : decode c_Ne_gainOfCellAt 73 = .ok (.iaload, 1) := by decide +kernel
theorem d_Ne_gainOfCellAt_74 : decode c_Ne_gainOfCellAt 74 = .ok (.istore 4, 2) := by decide +kernel
theorem d_Ne_gainOfCellAt_76 : decode c_Ne_gainOfCellAt 76 = .ok (.iinc 5 1, 3) := by decide +kernel
theorem d_Ne_gainOfCellAt_79 : decode c_Ne_gainOfCellAt 79 = .ok (.goto (-66), 3) := by decide +kernel
theorem d_Ne_gainOfCellAt_82 : decode c_Ne_gainOfCellAt 82 = .ok (.iload_n 3, 1) := by decide +kernel
theorem d_Ne_gainOfCellAt_83 : decode c_Ne_gainOfCellAt 83 = .ok (.ireturn, 1) := by decide +kernel

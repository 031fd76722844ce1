theorem d_Fi_init_0 : decode c_Fi_init 0 = .ok (.aload_n 0, 1) := by decide +kernel
theorem d_Fi_init_1 : decode c_Fi_init 1 = .ok (.invokespecial 3, 3) := by decide +kernel
theorem d_Fi_init_4 : decode c_Fi_init 4 = .ok (.aload_n 0, 1) := by decide +kernel
theorem d_Fi_init_5 : decode c_Fi_init 5 = .ok (.bipush 60, 2) := by decide +kernel
theorem d_Fi_init_7 : decode c_Fi_init 7 = .ok (.newarray .int, 2) := by decide +kernel
theorem d_Fi_init_9 : decode c_Fi_init 9 = .ok (.putfield 9, 3) := by decide +kernel
theorem d_Fi_init_12 : decode c_Fi_init 12 = .ok (.aload_n 0, 1) := by decide +kernel
theorem d_Fi_init_13 : decode c_Fi_init 13 = .ok (.bipush 60, 2) := by decide +kernel
theorem d_Fi_init_15 : decode c_Fi_init 15 = .ok (.newarray .int, 2) := by decide +kernel
theorem d_Fi_init_17 : decode c_Fi_init 17 = .ok (.putfield 15, 3) := by decide +kernel
theorem d_Fi_init_20 : decode c_Fi_init 20 = .ok (.aload_n 0, 1) := by decide +kernel
theorem d_Fi_init_21 : decode c_Fi_init 21 = .ok (.aload_n 1, 1) := by decide +kernel
theorem d_Fi_init_22 : decode c_Fi_init 22 = .ok (.putfield 18, 3) := by decide +kernel
theorem d_Fi_init_25 : decode c_Fi_init 25 = .ok (.aload_n 0, 1) := by decide +kernel
theorem d_Fi_init_26 : decode c_Fi_init 26 = .ok (.aload_n 2, 1) := by decide +kernel
theorem d_Fi_init_27 : decode c_Fi_init 27 = .ok (.putfield 22, 3) := by decide +kernel
theorem d_Fi_init_30 : decode c_Fi_init 30 = .ok (.aload_n 0, 1) := by decide +kernel
theorem d_Fi_init_31 : decode c_Fi_init 31 = .ok (.new 26, 3) := by decide +kernel
theorem d_Fi_init_34 : decode c_Fi_init 34 = .ok (.dup, 1) := by decide +kernel
theorem d_Fi_init_35 : decode c_Fi_init 35 = .ok (.aload_n 2, 1) := by decide +kernel
theorem d_Fi_init_36 : decode c_Fi_init 36 = .ok (.invokespecial 28, 3) := by decide +kernel
theorem d_Fi_init_39 : decode c_Fi_init 39 = .ok (.putfield 31, 3) := by decide +kernel
theorem d_Fi_init_42 : decode c_Fi_init 42 = .ok (.aload_n 1, 1) := by decide +kernel
theorem d_Fi_init_43 : decode c_Fi_init 43 = .ok (.getfield 35, 3) := by decide +kernel
theorem d_Fi_init_46 : decode c_Fi_init 46 = .ok (.arraylength, 1) := by decide +kernel
theorem d_Fi_init_47 : decode c_Fi_init 47 = .ok (.istore_n 3, 1) := by decide +kernel
theorem d_Fi_init_48 : decode c_Fi_init 48 = .ok (.aload_n 0, 1) := by decide +kernel
theorem d_Fi_init_49 : decode c_Fi_init 49 = .ok (.iload_n 3, 1) := by decide +kernel
theorem d_Fi_init_50 : decode c_Fi_init 50 = .ok (.newarray .int, 2) := by decide +kernel
theorem d_Fi_init_52 : decode c_Fi_init 52 = .ok (.putfield 40, 3) := by decide +kernel
theorem d_Fi_init_55 : decode c_Fi_init 55 = .ok (.aload_n 0, 1) := by decide +kernel
theorem d_Fi_init_56 : decode c_Fi_init 56 = .ok (.iload_n 3, 1) := by decide +kernel
theorem d_Fi_init_57 : decode c_Fi_init 57 = .ok (.newarray .int, 2) := by decide +kernel
theorem d_Fi_init_59 : decode c_Fi_init 59 = .ok (.putfield 43, 3) := by decide +kernel
theorem d_Fi_init_62 : decode c_Fi_init 62 = .ok (.aload_n 0, 1) := by decide +kernel
theorem d_Fi_init_63 : decode c_Fi_init 63 = .ok (.iload_n 3, 1) := by decide +kernel
theorem d_Fi_init_64 : decode c_Fi_init 64 = .ok (.newarray .int, 2) := by decide +kernel
theorem d_Fi_init_66 : decode c_Fi_init 66 = .ok (.putfield 46, 3) := by decide +kernel
theorem d_Fi_init_69 : decode c_Fi_init 69 = .ok (.return_, 1) := by decide +kernel
theorem d_Fi_placeAll_0 : decode c_Fi_placeAll 0 = .ok (.aload_n 0, 1) := by decide +kernel
theorem d_Fi_placeAll_1 : decode c_Fi_placeAll 1 = .ok (.invokevirtual 49, 3) := by decide +kernel
theorem d_Fi_placeAll_4 : decode c_Fi_placeAll 4 = .ok (.aload_n 0, 1) := by decide +kernel
theorem d_Fi_placeAll_5 : decode c_Fi_placeAll 5 = .ok (.invokevirtual 52, 3) := by decide +kernel
theorem d_Fi_placeAll_8 : decode c_Fi_placeAll 8 = .ok (.iconst 0, 1) := by decide +kernel
theorem d_Fi_placeAll_9 : decode c_Fi_placeAll 9 = .ok (.istore_n 1, 1) := by decide +kernel
theorem d_Fi_placeAll_10 : decode c_Fi_placeAll 10 = .ok (.iload_n 1, 1) := by decide +kernel
theorem d_Fi_placeAll_11 : decode c_Fi_placeAll 11 = .ok (.aload_n 0, 1) := by decide +kernel
theorem d_Fi_placeAll_12 : decode c_Fi_placeAll 12 = .ok (.getfield 22, 3) := by decide +kernel
theorem d_Fi_placeAll_15 : decode c_Fi_placeAll 15 = .ok (.getfield 55, 3) := by decide +kernel
theorem d_Fi_placeAll_18 : decode c_Fi_placeAll 18 = .ok (.if_icmp .ge 48, 3) := by decide +kernel
theorem d_Fi_placeAll_21 : decode c_Fi_placeAll 21 = .ok (.aload_n 0, 1) := by decide +kernel
theorem d_Fi_placeAll_22 : decode c_Fi_placeAll 22 = .ok (.aload_n 0, 1) := by decide +kernel
theorem d_Fi_placeAll_23 : decode c_Fi_placeAll 23 = .ok (.getfield 9, 3) := by decide +kernel
theorem d_Fi_placeAll_26 : decode c_Fi_placeAll 26 = .ok (.iload_n 1, 1) := by decide +kernel
theorem d_Fi_placeAll_27 : decode c_Fi_placeAll 27 = .ok (.iaload, 1) := by decide +kernel
theorem d_Fi_placeAll_28 : decode c_Fi_placeAll 28 = .ok (.invokevirtual 61, 3) := by decide +kernel
theorem d_Fi_placeAll_31 : decode c_Fi_placeAll 31 = .ok (.istore_n 2, 1) := by decide +kernel
theorem d_Fi_placeAll_32 : decode c_Fi_placeAll 32 = .ok (.iload_n 2, 1) := by decide +kernel
theorem d_Fi_placeAll_33 : decode c_Fi_placeAll 33 = .ok (.iconst (-1), 1) := by decide +kernel
theorem d_Fi_placeAll_34 : decode c_Fi_placeAll 34 = .ok (.if_icmp .ne 10, 3) := by decide +kernel
theorem d_Fi_placeAll_37 : decode c_Fi_placeAll 37 = .ok (.aload_n 0, 1) := by decide +kernel
theorem d_Fi_placeAll_38 : decode c_Fi_placeAll 38 = .ok (.getfield 9, 3) := by decide +kernel
theorem d_Fi_placeAll_41 : decode c_Fi_placeAll 41 = .ok (.iload_n 1, 1) := by decide +kernel
theorem d_Fi_placeAll_42 : decode c_Fi_placeAll 42 = .ok (.iaload, 1) := by decide +kernel
theorem d_Fi_placeAll_43 : decode c_Fi_placeAll 43 = .ok (.ireturn, 1) := by decide +kernel
theorem d_Fi_placeAll_44 : decode c_Fi_placeAll 44 = .ok (.aload_n 0, 1) := by decide +kernel
theorem d_Fi_placeAll_45 : decode c_Fi_placeAll 45 = .ok (.aload_n 0, 1) := by decide +kernel
theorem d_Fi_placeAll_46 : decode c_Fi_placeAll 46 = .ok (.getfield 9, 3) := by decide +kernel
theorem d_Fi_placeAll_49 : decode c_Fi_placeAll 49 = .ok (.iload_n 1, 1) := by decide +kernel
theorem d_Fi_placeAll_50 : decode c_Fi_placeAll 50 = .ok (.iaload, 1) := by decide +kernel
theorem d_Fi_placeAll_51 : decode c_Fi_placeAll 51 = .ok (.iload_n 2, 1) := by decide +kernel
theorem d_Fi_placeAll_52 : decode c_Fi_placeAll 52 = .ok (.invokevirtual 65, 3) := by decide +kernel
theorem d_Fi_placeAll_55 : decode c_Fi_placeAll 55 = .ok (.aload_n 0, 1) := by decide +kernel
theorem d_Fi_placeAll_56 : decode c_Fi_placeAll 56 = .ok (.iload_n 2, 1) := by decide +kernel
theorem d_Fi_placeAll_57 : decode c_Fi_placeAll 57 = .ok (.invokevirtual 69, 3) := by decide +kernel
theorem d_Fi_placeAll_60 : decode c_Fi_placeAll 60 = .ok (.iinc 1 1, 3) := by decide +kernel
theorem d_Fi_placeAll_63 : decode c_Fi_placeAll 63 = .ok (.goto (-53), 3) := by decide +kernel
theorem d_Fi_placeAll_66 : decode c_Fi_placeAll 66 = .ok (.iconst (-1), 1) := by decide +kernel
theorem d_Fi_placeAll_67 : decode c_Fi_placeAll 67 = .ok (.ireturn, 1) := by decide +kernel
theorem d_Fi_emptyParts_0 : decode c_Fi_emptyParts 0 = .ok (.iconst 0, 1) := by decide +kernel
theorem d_Fi_emptyParts_1 : decode c_Fi_emptyParts 1 = .ok (.istore_n 1, 1) := by decide +kernel
theorem d_Fi_emptyParts_2 : decode c_Fi_emptyParts 2 = .ok (.iload_n 1, 1) := by decide +kernel
theorem d_Fi_emptyParts_3 : decode c_Fi_emptyParts 3 = .ok (.aload_n 0, 1) := by decide +kernel
theorem d_Fi_emptyParts_4 : decode c_Fi_emptyParts 4 = .ok (.getfield 18, 3) := by decide +kernel
theorem d_Fi_emptyParts_7 : decode c_Fi_emptyParts 7 = .ok (.getfield 73, 3) := by decide +kernel
theorem d_Fi_emptyParts_10 : decode c_Fi_emptyParts 10 = .ok (.if_icmp .ge 30, 3) := by decide +kernel
theorem d_Fi_emptyParts_13 : decode c_Fi_emptyParts 13 = .ok (.aload_n 0, 1) := by decide +kernel
theorem d_Fi_emptyParts_14 : decode c_Fi_emptyParts 14 = .ok (.getfield 40, 3) := by decide +kernel
theorem d_Fi_emptyParts_17 : decode c_Fi_emptyParts 17 = .ok (.iload_n 1, 1) := by decide +kernel
theorem d_Fi_emptyParts_18 : decode c_Fi_emptyParts 18 = .ok (.iconst (-1), 1) := by decide +kernel
theorem d_Fi_emptyParts_19 : decode c_Fi_emptyParts 19 = .ok (.iastore, 1) := by decide +kernel
theorem d_Fi_emptyParts_20 : decode c_Fi_emptyParts 20 = .ok (.aload_n 0, 1) := by decide +kernel
theorem d_Fi_emptyParts_21 : decode c_Fi_emptyParts 21 = .ok (.getfield 43, 3) := by decide +kernel
theorem d_Fi_emptyParts_24 : decode c_Fi_emptyParts 24 = .ok (.iload_n 1, 1) := by decide +kernel
theorem d_Fi_emptyParts_25 : decode c_Fi_emptyParts 25 = .ok (.iconst (-1), 1) := by decide +kernel
theorem d_Fi_emptyParts_26 : decode c_Fi_emptyParts 26 = .ok (.iastore, 1) := by decide +kernel
theorem d_Fi_emptyParts_27 : decode c_Fi_emptyParts 27 = .ok (.aload_n 0, 1) := by decide +kernel
theorem d_Fi_emptyParts_28 : decode c_Fi_emptyParts 28 = .ok (.getfield 46, 3) := by decide +kernel
theorem d_Fi_emptyParts_31 : decode c_Fi_emptyParts 31 = .ok (.iload_n 1, 1) := by decide +kernel
theorem d_Fi_emptyParts_32 : decode c_Fi_emptyParts 32 = .ok (.iconst 0, 1) := by decide +kernel
theorem d_Fi_emptyParts_33 : decode c_Fi_emptyParts 33 = .ok (.iastore, 1) := by decide +kernel
theorem d_Fi_emptyParts_34 : decode c_Fi_emptyParts 34 = .ok (.iinc 1 1, 3) := by decide +kernel
theorem d_Fi_emptyParts_37 : decode c_Fi_emptyParts 37 = .ok (.goto (-35), 3) := by decide +kernel
theorem d_Fi_emptyParts_40 : decode c_Fi_emptyParts 40 = .ok (.return_, 1) := by decide +kernel
theorem d_Fi_orderCells_0 : decode c_Fi_orderCells 0 = .ok (.iconst 0, 1) := by decide +kernel
theorem d_Fi_orderCells_1 : decode c_Fi_orderCells 1 = .ok (.istore_n 1, 1) := by decide +kernel
theorem d_Fi_orderCells_2 : decode c_Fi_orderCells 2 = .ok (.iload_n 1, 1) := by decide +kernel
theorem d_Fi_orderCells_3 : decode c_Fi_orderCells 3 = .ok (.aload_n 0, 1) := by decide +kernel
theorem d_Fi_orderCells_4 : decode c_Fi_orderCells 4 = .ok (.getfield 22, 3) := by decide +kernel
theorem d_Fi_orderCells_7 : decode c_Fi_orderCells 7 = .ok (.getfield 55, 3) := by decide +kernel
theorem d_Fi_orderCells_10 : decode c_Fi_orderCells 10 = .ok (.if_icmp .ge 70, 3) := by decide +kernel
theorem d_Fi_orderCells_13 : decode c_Fi_orderCells 13 = .ok (.iload_n 1, 1) := by decide +kernel
theorem d_Fi_orderCells_14 : decode c_Fi_orderCells 14 = .ok (.istore_n 2, 1) := by decide +kernel
theorem d_Fi_orderCells_15 : decode c_Fi_orderCells 15 = .ok (.iload_n 2, 1) := by decide +kernel
theorem d_Fi_orderCells_16 : decode c_Fi_orderCells 16 = .ok (.ifCond .le 51, 3) := by decide +kernel
theorem d_Fi_orderCells_19 : decode c_Fi_orderCells 19 = .ok (.aload_n 0, 1) := by decide +kernel
theorem d_Fi_orderCells_20 : decode c_Fi_orderCells 20 = .ok (.getfield 22, 3) := by decide +kernel
theorem d_Fi_orderCells_23 : decode c_Fi_orderCells 23 = .ok (.getfield 76, 3) := by decide +kernel
theorem d_Fi_orderCells_26 : decode c_Fi_orderCells 26 = .ok (.aload_n 0, 1) := by decide +kernel
theorem d_Fi_orderCells_27 : decode c_Fi_orderCells 27 = .ok (.getfield 9, 3) := by decide +kernel
theorem d_Fi_orderCells_30 : decode c_Fi_orderCells 30 = .ok (.iload_n 2, 1) := by decide +kernel
theorem d_Fi_orderCells_31 : decode c_Fi_orderCells 31 = .ok (.iconst 1, 1) := by decide +kernel
theorem d_Fi_orderCells_32 : decode c_Fi_orderCells 32 = .ok (.isub, 1) := by decide +kernel
theorem d_Fi_orderCells_33 : decode c_Fi_orderCells 33 = .ok (.iaload, 1) := by decide +kernel
theorem d_Fi_orderCells_34 : decode c_Fi_orderCells 34 = .ok (.iaload, 1) := by decide +kernel
theorem d_Fi_orderCells_35 : decode c_Fi_orderCells 35 = .ok (.aload_n 0, 1) := by decide +kernel
theorem d_Fi_orderCells_36 : decode c_Fi_orderCells 36 = .ok (.getfield 22, 3) := by decide +kernel
theorem d_Fi_orderCells_39 : decode c_Fi_orderCells 39 = .ok (.getfield 76, 3) := by decide +kernel
theorem d_Fi_orderCells_42 : decode c_Fi_orderCells 42 = .ok (.iload_n 1, 1) := by decide +kernel
theorem d_Fi_orderCells_43 : decode c_Fi_orderCells 43 = .ok (.iaload, 1) := by decide +kernel
theorem d_Fi_orderCells_44 : decode c_Fi_orderCells 44 = .ok (.if_icmp .le 23, 3) := by decide +kernel
theorem d_Fi_orderCells_47 : decode c_Fi_orderCells 47 = .ok (.aload_n 0, 1) := by decide +kernel
theorem d_Fi_orderCells_48 : decode c_Fi_orderCells 48 = .ok (.getfield 9, 3) := by decide +kernel
theorem d_Fi_orderCells_51 : decode c_Fi_orderCells 51 = .ok (.iload_n 2, 1) := by decide +kernel
theorem d_Fi_orderCells_52 : decode c_Fi_orderCells 52 = .ok (.aload_n 0, 1) := by decide +kernel
theorem d_Fi_orderCells_53 : decode c_Fi_orderCells 53 = .ok (.getfield 9, 3) := by decide +kernel
theorem d_Fi_orderCells_56 : decode c_Fi_orderCells 56 = .ok (.iload_n 2, 1) := by decide +kernel
theorem d_Fi_orderCells_57 : decode c_Fi_orderCells 57 = .ok (.iconst 1, 1) := by decide +kernel
theorem d_Fi_orderCells_58 : decode c_Fi_orderCells 58 = .ok (.isub, 1) := by decide +kernel
theorem d_Fi_orderCells_59 : decode c_Fi_orderCells 59 = .ok (.iaload, 1) := by decide +kernel
theorem d_Fi_orderCells_60 : decode c_Fi_orderCells 60 = .ok (.iastore, 1) := by decide +kernel
theorem d_Fi_orderCells_61 : decode c_Fi_orderCells 61 = .ok (.iinc 2 (-1), 3) := by decide +kernel
theorem d_Fi_orderCells_64 : decode c_Fi_orderCells 64 = .ok (.goto (-49), 3) := by decide +kernel
theorem d_Fi_orderCells_67 : decode c_Fi_orderCells 67 = .ok (.aload_n 0, 1) := by decide +kernel
theorem d_Fi_orderCells_68 : decode c_Fi_orderCells 68 = .ok (.getfield 9, 3) := by decide +kernel
theorem d_Fi_orderCells_71 : decode c_Fi_orderCells 71 = .ok (.iload_n 2, 1) := by decide +kernel
theorem d_Fi_orderCells_72 : decode c_Fi_orderCells 72 = .ok (.iload_n 1, 1) := by decide +kernel
theorem d_Fi_orderCells_73 : decode c_Fi_orderCells 73 = .ok (.iastore, 1) := by decide +kernel
theorem d_Fi_orderCells_74 : decode c_Fi_orderCells 74 = .ok (.iinc 1 1, 3) := by decide +kernel
theorem d_Fi_orderCells_77 : decode c_Fi_orderCells 77 = .ok (.goto (-75), 3) := by decide +kernel
theorem d_Fi_orderCells_80 : decode c_Fi_orderCells 80 = .ok (.return_, 1) := by decide +kernel
theorem d_Fi_cheapestPart_0 : decode c_Fi_cheapestPart 0 = .ok (.iconst (-1), 1) := by decide +kernel
theorem d_Fi_cheapestPart_1 : decode c_Fi_cheapestPart 1 = .ok (.istore_n 2, 1) := by decide +kernel
theorem d_Fi_cheapestPart_2 : decode c_Fi_cheapestPart 2 = .ok (.iconst 0, 1) := by decide +kernel
theorem d_Fi_cheapestPart_3 : decode c_Fi_cheapestPart 3 = .ok (.istore_n 3, 1) := by decide +kernel
theorem d_Fi_cheapestPart_4 : decode c_Fi_cheapestPart 4 = .ok (.iconst 0, 1) := by decide +kernel
theorem d_Fi_cheapestPart_5 : decode c_Fi_cheapestPart 5 = .ok (.istore 4, 2) := by decide +kernel
theorem d_Fi_cheapestPart_7 : decode c_Fi_cheapestPart 7 = .ok (.iload 4, 2) := by decide +kernel
theorem d_Fi_cheapestPart_9 : decode c_Fi_cheapestPart 9 = .ok (.aload_n 0, 1) := by decide +kernel
theorem d_Fi_cheapestPart_10 : decode c_Fi_cheapestPart 10 = .ok (.getfield 18, 3) := by decide +kernel
theorem d_Fi_cheapestPart_13 : decode c_Fi_cheapestPart 13 = .ok (.getfield 73, 3) := by decide +kernel
theorem d_Fi_cheapestPart_16 : decode c_Fi_cheapestPart 16 = .ok (.if_icmp .ge 91, 3) := by decide +kernel
theorem d_Fi_cheapestPart_19 : decode c_Fi_cheapestPart 19 = .ok (.iload_n 2, 1) := by decide +kernel
theorem d_Fi_cheapestPart_20 : decode c_Fi_cheapestPart 20 = .ok (.iconst (-1), 1) := by decide +kernel
theorem d_Fi_cheapestPart_21 : decode c_Fi_cheapestPart 21 = .ok (.if_icmp .eq 17, 3) := by decide +kernel
theorem d_Fi_cheapestPart_24 : decode c_Fi_cheapestPart 24 = .ok (.aload_n 0, 1) := by decide +kernel
theorem d_Fi_cheapestPart_25 : decode c_Fi_cheapestPart 25 = .ok (.iload_n 1, 1) := by decide +kernel
theorem d_Fi_cheapestPart_26 : decode c_Fi_cheapestPart 26 = .ok (.iload 4, 2) := by decide +kernel
theorem d_Fi_cheapestPart_28 : decode c_Fi_cheapestPart 28 = .ok (.invokevirtual 79, 3) := by decide +kernel
theorem d_Fi_cheapestPart_31 : decode c_Fi_cheapestPart 31 = .ok (.iload_n 3, 1) := by decide +kernel
theorem d_Fi_cheapestPart_32 : decode c_Fi_cheapestPart 32 = .ok (.if_icmp .lt 6, 3) := by decide +kernel
theorem d_Fi_cheapestPart_35 : decode c_Fi_cheapestPart 35 = .ok (.goto 66, 3) := by decide +kernel
theorem d_Fi_cheapestPart_38 : decode c_Fi_cheapestPart 38 = .ok (.aload_n 0, 1) := by decide +kernel
theorem d_Fi_cheapestPart_39 : decode c_Fi_cheapestPart 39 = .ok (.iload_n 1, 1) := by decide +kernel
theorem d_Fi_cheapestPart_40 : decode c_Fi_cheapestPart 40 = .ok (.iload 4, 2) := by decide +kernel
theorem d_Fi_cheapestPart_42 : decode c_Fi_cheapestPart 42 = .ok (.invokevirtual 83, 3) := by decide +kernel
theorem d_Fi_cheapestPart_45 : decode c_Fi_cheapestPart 45 = .ok (.ifCond .eq 56, 3) := by decide +kernel
theorem d_Fi_cheapestPart_48 : decode c_Fi_cheapestPart 48 = .ok (.aload_n 0, 1) := by decide +kernel
theorem d_Fi_cheapestPart_49 : decode c_Fi_cheapestPart 49 = .ok (.getfield 31, 3) := by decide +kernel
theorem d_Fi_cheapestPart_52 : decode c_Fi_cheapestPart 52 = .ok (.getfield 87, 3) := by decide +kernel
theorem d_Fi_cheapestPart_55 : decode c_Fi_cheapestPart 55 = .ok (.aload_n 0, 1) := by decide +kernel
theorem d_Fi_cheapestPart_56 : decode c_Fi_cheapestPart 56 = .ok (.getfield 46, 3) := by decide +kernel
theorem d_Fi_cheapestPart_59 : decode c_Fi_cheapestPart 59 = .ok (.iload 4, 2) := by decide +kernel
theorem d_Fi_cheapestPart_61 : decode c_Fi_cheapestPart 61 = .ok (.iaload, 1) := by decide +kernel
theorem d_Fi_cheapestPart_62 : decode c_Fi_cheapestPart 62 = .ok (.isub, 1) := by decide +kernel
theorem d_Fi_cheapestPart_63 : decode c_Fi_cheapestPart 63 = .ok (.aload_n 0, 1) := by decide +kernel
theorem d_Fi_cheapestPart_64 : decode c_Fi_cheapestPart 64 = .ok (.getfield 22, 3) := by decide +kernel
theorem d_Fi_cheapestPart_67 : decode c_Fi_cheapestPart 67 = .ok (.iload_n 1, 1) := by decide +kernel
theorem d_Fi_cheapestPart_68 : decode c_Fi_cheapestPart 68 = .ok (.aload_n 0, 1) := by decide +kernel
theorem d_Fi_cheapestPart_69 : decode c_Fi_cheapestPart 69 = .ok (.getfield 18, 3) := by decide +kernel
theorem d_Fi_cheapestPart_72 : decode c_Fi_cheapestPart 72 = .ok (.getfield 35, 3) := by decide +kernel
theorem d_Fi_cheapestPart_75 : decode c_Fi_cheapestPart 75 = .ok (.iload 4, 2) := by decide +kernel
theorem d_Fi_cheapestPart_77 : decode c_Fi_cheapestPart 77 = .ok (.iaload, 1) := by decide +kernel
theorem d_Fi_cheapestPart_78 : decode c_Fi_cheapestPart 78 = .ok (.invokevirtual 89, 3) := by decide +kernel
theorem d_Fi_cheapestPart_81 : decode c_Fi_cheapestPart 81 = .ok (.iadd, 1) := by decide +kernel
theorem d_Fi_cheapestPart_82 : decode c_Fi_cheapestPart 82 = .ok (.istore 5, 2) := by decide +kernel
theorem d_Fi_cheapestPart_84 : decode c_Fi_cheapestPart 84 = .ok (.iload_n 2, 1) := by decide +kernel
theorem d_Fi_cheapestPart_85 : decode c_Fi_cheapestPart 85 = .ok (.iconst (-1), 1) := by decide +kernel
theorem d_Fi_cheapestPart_86 : decode c_Fi_cheapestPart 86 = .ok (.if_icmp .eq 9, 3) := by decide +kernel
theorem d_Fi_cheapestPart_89 : decode c_Fi_cheapestPart 89 = .ok (.iload 5, 2) := by decide +kernel
theorem d_Fi_cheapestPart_91 : decode c_Fi_cheapestPart 91 = .ok (.iload_n 3, 1) := by decide +kernel
theorem d_Fi_cheapestPart_92 : decode c_Fi_cheapestPart 92 = .ok (.if_icmp .ge 9, 3) := by decide +kernel
theorem d_Fi_cheapestPart_95 : decode c_Fi_cheapestPart 95 = .ok (.iload 4, 2) := by decide +kernel
theorem d_Fi_cheapestPart_97 : decode c_Fi_cheapestPart 97 = .ok (.istore_n 2, 1) := by decide +kernel
theorem d_Fi_cheapestPart_98 : decode c_Fi_cheapestPart 98 = .ok (.iload 5, 2) := by decide +kernel
theorem d_Fi_cheapestPart_100 : decode c_Fi_cheapestPart 100 = .ok (.istore_n 3, 1) := by decide +kernel
theorem d_Fi_cheapestPart_101 : decode c_Fi_cheapestPart 101 = .ok (.iinc 4 1, 3) := by decide +kernel
theorem d_Fi_cheapestPart_104 : decode c_Fi_cheapestPart 104 = .ok (.goto (-97), 3) := by decide +kernel
theorem d_Fi_cheapestPart_107 : decode c_Fi_cheapestPart 107 = .ok (.iload_n 2, 1) := by decide +kernel
theorem d_Fi_cheapestPart_108 : decode c_Fi_cheapestPart 108 = .ok (.ireturn, 1) := by decide +kernel
theorem d_Fi_costAtLeast_0 : decode c_Fi_costAtLeast 0 = .ok (.aload_n 0, 1) := by decide +kernel
theorem d_Fi_costAtLeast_1 : decode c_Fi_costAtLeast 1 = .ok (.getfield 22, 3) := by decide +kernel
theorem d_Fi_costAtLeast_4 : decode c_Fi_costAtLeast 4 = .ok (.getfield 76, 3) := by decide +kernel
theorem d_Fi_costAtLeast_7 : decode c_Fi_costAtLeast 7 = .ok (.iload_n 1, 1) := by decide +kernel
theorem d_Fi_costAtLeast_8 : decode c_Fi_costAtLeast 8 = .ok (.iaload, 1) := by decide +kernel
theorem d_Fi_costAtLeast_9 : decode c_Fi_costAtLeast 9 = .ok (.istore_n 3, 1) := by decide +kernel
theorem d_Fi_costAtLeast_10 : decode c_Fi_costAtLeast 10 = .ok (.aload_n 0, 1) := by decide +kernel
theorem d_Fi_costAtLeast_11 : decode c_Fi_costAtLeast 11 = .ok (.getfield 18, 3) := by decide +kernel
theorem d_Fi_costAtLeast_14 : decode c_Fi_costAtLeast 14 = .ok (.getfield 92, 3) := by decide +kernel
theorem d_Fi_costAtLeast_17 : decode c_Fi_costAtLeast 17 = .ok (.iload_n 2, 1) := by decide +kernel
theorem d_Fi_costAtLeast_18 : decode c_Fi_costAtLeast 18 = .ok (.iaload, 1) := by decide +kernel
theorem d_Fi_costAtLeast_19 : decode c_Fi_costAtLeast 19 = .ok (.iload_n 3, 1) := by decide +kernel
theorem d_Fi_costAtLeast_20 : decode c_Fi_costAtLeast 20 = .ok (.isub, 1) := by decide +kernel
theorem d_Fi_costAtLeast_21 : decode c_Fi_costAtLeast 21 = .ok (.istore 4, 2) := by decide +kernel
theorem d_Fi_costAtLeast_23 : decode c_Fi_costAtLeast 23 = .ok (.iload_n 3, 1) := by decide +kernel
theorem d_Fi_costAtLeast_24 : decode c_Fi_costAtLeast 24 = .ok (.aload_n 0, 1) := by decide +kernel
theorem d_Fi_costAtLeast_25 : decode c_Fi_costAtLeast 25 = .ok (.getfield 22, 3) := by decide +kernel
theorem d_Fi_costAtLeast_28 : decode c_Fi_costAtLeast 28 = .ok (.getfield 95, 3) := by decide +kernel
theorem d_Fi_costAtLeast_31 : decode c_Fi_costAtLeast 31 = .ok (.iload_n 1, 1) := by decide +kernel
theorem d_Fi_costAtLeast_32 : decode c_Fi_costAtLeast 32 = .ok (.iaload, 1) := by decide +kernel
theorem d_Fi_costAtLeast_33 : decode c_Fi_costAtLeast 33 = .ok (.iadd, 1) := by decide +kernel
theorem d_Fi_costAtLeast_34 : decode c_Fi_costAtLeast 34 = .ok (.aload_n 0, 1) := by decide +kernel
theorem d_Fi_costAtLeast_35 : decode c_Fi_costAtLeast 35 = .ok (.getfield 18, 3) := by decide +kernel
theorem d_Fi_costAtLeast_38 : decode c_Fi_costAtLeast 38 = .ok (.getfield 98, 3) := by decide +kernel
theorem d_Fi_costAtLeast_41 : decode c_Fi_costAtLeast 41 = .ok (.iload_n 2, 1) := by decide +kernel
theorem d_Fi_costAtLeast_42 : decode c_Fi_costAtLeast 42 = .ok (.iaload, 1) := by decide +kernel
theorem d_Fi_costAtLeast_43 : decode c_Fi_costAtLeast 43 = .ok (.isub, 1) := by decide +kernel
theorem d_Fi_costAtLeast_44 : decode c_Fi_costAtLeast 44 = .ok (.istore 5, 2) := by decide +kernel
theorem d_Fi_costAtLeast_46 : decode c_Fi_costAtLeast 46 = .ok (.iconst 0, 1) := by decide +kernel
theorem d_Fi_costAtLeast_47 : decode c_Fi_costAtLeast 47 = .ok (.iload 4, 2) := by decide +kernel
theorem d_Fi_costAtLeast_49 : decode c_Fi_costAtLeast 49 = .ok (.iload 5, 2) := by decide +kernel
theorem d_Fi_costAtLeast_51 : decode c_Fi_costAtLeast 51 = .ok (.invokestatic 101, 3) := by decide +kernel
theorem d_Fi_costAtLeast_54 : decode c_Fi_costAtLeast 54 = .ok (.invokestatic 101, 3) := by decide +kernel
theorem d_Fi_costAtLeast_57 : decode c_Fi_costAtLeast 57 = .ok (.istore 6, 2) := by decide +kernel
theorem d_Fi_costAtLeast_59 : decode c_Fi_costAtLeast 59 = .ok (.iload 6, 2) := by decide +kernel
theorem d_Fi_costAtLeast_61 : decode c_Fi_costAtLeast 61 = .ok (.aload_n 0, 1) := by decide +kernel
theorem d_Fi_costAtLeast_62 : decode c_Fi_costAtLeast 62 = .ok (.getfield 22, 3) := by decide +kernel
theorem d_Fi_costAtLeast_65 : decode c_Fi_costAtLeast 65 = .ok (.iload_n 1, 1) := by decide +kernel
theorem d_Fi_costAtLeast_66 : decode c_Fi_costAtLeast 66 = .ok (.aload_n 0, 1) := by decide +kernel
theorem d_Fi_costAtLeast_67 : decode c_Fi_costAtLeast 67 = .ok (.getfield 18, 3) := by decide +kernel
theorem d_Fi_costAtLeast_70 : decode c_Fi_costAtLeast 70 = .ok (.getfield 35, 3) := by decide +kernel
theorem d_Fi_costAtLeast_73 : decode c_Fi_costAtLeast 73 = .ok (.iload_n 2, 1) := by decide +kernel
theorem d_Fi_costAtLeast_74 : decode c_Fi_costAtLeast 74 = .ok (.iaload, 1) := by decide +kernel
theorem d_Fi_costAtLeast_75 : decode c_Fi_costAtLeast 75 = .ok (.invokevirtual 89, 3) := by decide +kernel
theorem d_Fi_costAtLeast_78 : decode c_Fi_costAtLeast 78 = .ok (.iadd, 1) := by decide +kernel
theorem d_Fi_costAtLeast_79 : decode c_Fi_costAtLeast 79 = .ok (.ireturn, 1) := by decide +kernel
theorem d_Fi_append_0 : decode c_Fi_append 0 = .ok (.aload_n 0, 1) := by decide +kernel
theorem d_Fi_append_1 : decode c_Fi_append 1 = .ok (.getfield 43, 3) := by decide +kernel
theorem d_Fi_append_4 : decode c_Fi_append 4 = .ok (.iload_n 2, 1) := by decide +kernel
theorem d_Fi_append_5 : decode c_Fi_append 5 = .ok (.iaload, 1) := by decide +kernel
theorem d_Fi_append_6 : decode c_Fi_append 6 = .ok (.iconst (-1), 1) := by decide +kernel
theorem d_Fi_append_7 : decode c_Fi_append 7 = .ok (.if_icmp .ne 13, 3) := by decide +kernel
theorem d_Fi_append_10 : decode c_Fi_append 10 = .ok (.aload_n 0, 1) := by decide +kernel
theorem d_Fi_append_11 : decode c_Fi_append 11 = .ok (.getfield 40, 3) := by decide +kernel
theorem d_Fi_append_14 : decode c_Fi_append 14 = .ok (.iload_n 2, 1) := by decide +kernel
theorem d_Fi_append_15 : decode c_Fi_append 15 = .ok (.iload_n 1, 1) := by decide +kernel
theorem d_Fi_append_16 : decode c_Fi_append 16 = .ok (.iastore, 1) := by decide +kernel
theorem d_Fi_append_17 : decode c_Fi_append 17 = .ok (.goto 15, 3) := by decide +kernel
theorem d_Fi_append_20 : decode c_Fi_append 20 = .ok (.aload_n 0, 1) := by decide +kernel
theorem d_Fi_append_21 : decode c_Fi_append 21 = .ok (.getfield 15, 3) := by decide +kernel
theorem d_Fi_append_24 : decode c_Fi_append 24 = .ok (.aload_n 0, 1) := by decide +kernel
theorem d_Fi_append_25 : decode c_Fi_append 25 = .ok (.getfield 43, 3) := by decide +kernel
theorem d_Fi_append_28 : decode c_Fi_append 28 = .ok (.iload_n 2, 1) := by decide +kernel
theorem d_Fi_append_29 : decode c_Fi_append 29 = .ok (.iaload, 1) := by decide +kernel
theorem d_Fi_append_30 : decode c_Fi_append 30 = .ok (.iload_n 1, 1) := by decide +kernel
theorem d_Fi_append_31 : decode c_Fi_append 31 = .ok (.iastore, 1) := by decide +kernel
theorem d_Fi_append_32 : decode c_Fi_append 32 = .ok (.aload_n 0, 1) := by decide +kernel
theorem d_Fi_append_33 : decode c_Fi_append 33 = .ok (.getfield 43, 3) := by decide +kernel
theorem d_Fi_append_36 : decode c_Fi_append 36 = .ok (.iload_n 2, 1) := by decide +kernel
theorem d_Fi_append_37 : decode c_Fi_append 37 = .ok (.iload_n 1, 1) := by decide +kernel
theorem d_Fi_append_38 : decode c_Fi_append 38 = .ok (.iastore, 1) := by decide +kernel
theorem d_Fi_append_39 : decode c_Fi_append 39 = .ok (.aload_n 0, 1) := by decide +kernel
theorem d_Fi_append_40 : decode c_Fi_append 40 = .ok (.getfield 15, 3) := by decide +kernel
theorem d_Fi_append_43 : decode c_Fi_append 43 = .ok (.iload_n 1, 1) := by decide +kernel
theorem d_Fi_append_44 : decode c_Fi_append 44 = .ok (.iconst (-1), 1) := by decide +kernel
theorem d_Fi_append_45 : decode c_Fi_append 45 = .ok (.iastore, 1) := by decide +kernel
theorem d_Fi_append_46 : decode c_Fi_append 46 = .ok (.return_, 1) := by decide +kernel
theorem d_Fi_layWith_0 : decode c_Fi_layWith 0 = .ok (.aload_n 0, 1) := by decide +kernel
theorem d_Fi_layWith_1 : decode c_Fi_layWith 1 = .ok (.iload_n 2, 1) := by decide +kernel
theorem d_Fi_layWith_2 : decode c_Fi_layWith 2 = .ok (.invokevirtual 106, 3) := by decide +kernel
theorem d_Fi_layWith_5 : decode c_Fi_layWith 5 = .ok (.aload_n 0, 1) := by decide +kernel
theorem d_Fi_layWith_6 : decode c_Fi_layWith 6 = .ok (.getfield 31, 3) := by decide +kernel
theorem d_Fi_layWith_9 : decode c_Fi_layWith 9 = .ok (.iload_n 1, 1) := by decide +kernel
theorem d_Fi_layWith_10 : decode c_Fi_layWith 10 = .ok (.invokevirtual 109, 3) := by decide +kernel
theorem d_Fi_layWith_13 : decode c_Fi_layWith 13 = .ok (.aload_n 0, 1) := by decide +kernel
theorem d_Fi_layWith_14 : decode c_Fi_layWith 14 = .ok (.getfield 31, 3) := by decide +kernel
theorem d_Fi_layWith_17 : decode c_Fi_layWith 17 = .ok (.aload_n 0, 1) := by decide +kernel
theorem d_Fi_layWith_18 : decode c_Fi_layWith 18 = .ok (.getfield 18, 3) := by decide +kernel
theorem d_Fi_layWith_21 : decode c_Fi_layWith 21 = .ok (.getfield 92, 3) := by decide +kernel
theorem d_Fi_layWith_24 : decode c_Fi_layWith 24 = .ok (.iload_n 2, 1) := by decide +kernel
theorem d_Fi_layWith_25 : decode c_Fi_layWith 25 = .ok (.iaload, 1) := by decide +kernel
theorem d_Fi_layWith_26 : decode c_Fi_layWith 26 = .ok (.aload_n 0, 1) := by decide +kernel
theorem d_Fi_layWith_27 : decode c_Fi_layWith 27 = .ok (.getfield 18, 3) := by decide +kernel
theorem d_Fi_layWith_30 : decode c_Fi_layWith 30 = .ok (.getfield 98, 3) := by decide +kernel
theorem d_Fi_layWith_33 : decode c_Fi_layWith 33 = .ok (.iload_n 2, 1) := by decide +kernel
theorem d_Fi_layWith_34 : decode c_Fi_layWith 34 = .ok (.iaload, 1) := by decide +kernel
theorem d_Fi_layWith_35 : decode c_Fi_layWith 35 = .ok (.invokevirtual 112, 3) := by decide +kernel
theorem d_Fi_layWith_38 : decode c_Fi_layWith 38 = .ok (.ireturn, 1) := by decide +kernel
theorem d_Fi_gather_0 : decode c_Fi_gather 0 = .ok (.aload_n 0, 1) := by decide +kernel
theorem d_Fi_gather_1 : decode c_Fi_gather 1 = .ok (.getfield 31, 3) := by decide +kernel
theorem d_Fi_gather_4 : decode c_Fi_gather 4 = .ok (.invokevirtual 115, 3) := by decide +kernel
theorem d_Fi_gather_7 : decode c_Fi_gather 7 = .ok (.aload_n 0, 1) := by decide +kernel
theorem d_Fi_gather_8 : decode c_Fi_gather 8 = .ok (.getfield 40, 3) := by decide +kernel
theorem d_Fi_gather_11 : decode c_Fi_gather 11 = .ok (.iload_n 1, 1) := by decide +kernel
theorem d_Fi_gather_12 : decode c_Fi_gather 12 = .ok (.iaload, 1) := by decide +kernel
theorem d_Fi_gather_13 : decode c_Fi_gather 13 = .ok (.istore_n 2, 1) := by decide +kernel
theorem d_Fi_gather_14 : decode c_Fi_gather 14 = .ok (.iconst 0, 1) := by decide +kernel
theorem d_Fi_gather_15 : decode c_Fi_gather 15 = .ok (.istore_n 3, 1) := by decide +kernel
theorem d_Fi_gather_16 : decode c_Fi_gather 16 = .ok (.iload_n 3, 1) := by decide +kernel
theorem d_Fi_gather_17 : decode c_Fi_gather 17 = .ok (.bipush 60, 2) := by decide +kernel
theorem d_Fi_gather_19 : decode c_Fi_gather 19 = .ok (.if_icmp .ge 29, 3) := by decide +kernel
theorem d_Fi_gather_22 : decode c_Fi_gather 22 = .ok (.iload_n 2, 1) := by decide +kernel
theorem d_Fi_gather_23 : decode c_Fi_gather 23 = .ok (.iconst (-1), 1) := by decide +kernel
theorem d_Fi_gather_24 : decode c_Fi_gather 24 = .ok (.if_icmp .eq 24, 3) := by decide +kernel
theorem d_Fi_gather_27 : decode c_Fi_gather 27 = .ok (.aload_n 0, 1) := by decide +kernel
theorem d_Fi_gather_28 : decode c_Fi_gather 28 = .ok (.getfield 31, 3) := by decide +kernel
theorem d_Fi_gather_31 : decode c_Fi_gather 31 = .ok (.iload_n 2, 1) := by decide +kernel
theorem d_Fi_gather_32 : decode c_Fi_gather 32 = .ok (.invokevirtual 109, 3) := by decide +kernel
theorem d_Fi_gather_35 : decode c_Fi_gather 35 = .ok (.aload_n 0, 1) := by decide +kernel
theorem d_Fi_gather_36 : decode c_Fi_gather 36 = .ok (.getfield 15, 3) := by decide +kernel
theorem d_Fi_gather_39 : decode c_Fi_gather 39 = .ok (.iload_n 2, 1) := by decide +kernel
theorem d_Fi_gather_40 : decode c_Fi_gather 40 = .ok (.iaload, 1) := by decide +kernel
theorem d_Fi_gather_41 : decode c_Fi_gather 41 = .ok (.istore_n 2, 1) := by decide +kernel
theorem d_Fi_gather_42 : decode c_Fi_gather 42 = .ok (.iinc 3 1, 3) := by decide +kernel
theorem d_Fi_gather_45 : decode c_Fi_gather 45 = .ok (.goto (-29), 3) := by decide +kernel
theorem d_Fi_gather_48 : decode c_Fi_gather 48 = .ok (.return_, 1) := by decide +kernel
theorem d_Fi_settle_0 : decode c_Fi_settle 0 = .ok (.aload_n 0, 1) := by decide +kernel
theorem d_Fi_settle_1 : decode c_Fi_settle 1 = .ok (.iload_n 1, 1) := by decide +kernel
theorem d_Fi_settle_2 : decode c_Fi_settle 2 = .ok (.invokevirtual 106, 3) := by decide +kernel
theorem d_Fi_settle_5 : decode c_Fi_settle 5 = .ok (.aload_n 0, 1) := by decide +kernel
theorem d_Fi_settle_6 : decode c_Fi_settle 6 = .ok (.getfield 31, 3) := by decide +kernel
theorem d_Fi_settle_9 : decode c_Fi_settle 9 = .ok (.aload_n 0, 1) := by decide +kernel
theorem d_Fi_settle_10 : decode c_Fi_settle 10 = .ok (.getfield 18, 3) := by decide +kernel
theorem d_Fi_settle_13 : decode c_Fi_settle 13 = .ok (.getfield 92, 3) := by decide +kernel
theorem d_Fi_settle_16 : decode c_Fi_settle 16 = .ok (.iload_n 1, 1) := by decide +kernel
theorem d_Fi_settle_17 : decode c_Fi_settle 17 = .ok (.iaload, 1) := by decide +kernel
theorem d_Fi_settle_18 : decode c_Fi_settle 18 = .ok (.aload_n 0, 1) := by decide +kernel
theorem d_Fi_settle_19 : decode c_Fi_settle 19 = .ok (.getfield 18, 3) := by decide +kernel
theorem d_Fi_settle_22 : decode c_Fi_settle 22 = .ok (.getfield 98, 3) := by decide +kernel
theorem d_Fi_settle_25 : decode c_Fi_settle 25 = .ok (.iload_n 1, 1) := by decide +kernel
theorem d_Fi_settle_26 : decode c_Fi_settle 26 = .ok (.iaload, 1) := by decide +kernel
theorem d_Fi_settle_27 : decode c_Fi_settle 27 = .ok (.invokevirtual 112, 3) := by decide +kernel
theorem d_Fi_settle_30 : decode c_Fi_settle 30 = .ok (.ifCond .eq 32, 3) := by decide +kernel
theorem d_Fi_settle_33 : decode c_Fi_settle 33 = .ok (.aload_n 0, 1) := by decide +kernel
theorem d_Fi_settle_34 : decode c_Fi_settle 34 = .ok (.getfield 46, 3) := by decide +kernel
theorem d_Fi_settle_37 : decode c_Fi_settle 37 = .ok (.iload_n 1, 1) := by decide +kernel
theorem d_Fi_settle_38 : decode c_Fi_settle 38 = .ok (.aload_n 0, 1) := by decide +kernel
theorem d_Fi_settle_39 : decode c_Fi_settle 39 = .ok (.getfield 31, 3) := by decide +kernel
theorem d_Fi_settle_42 : decode c_Fi_settle 42 = .ok (.getfield 87, 3) := by decide +kernel
theorem d_Fi_settle_45 : decode c_Fi_settle 45 = .ok (.iastore, 1) := by decide +kernel
theorem d_Fi_settle_46 : decode c_Fi_settle 46 = .ok (.aload_n 0, 1) := by decide +kernel
theorem d_Fi_settle_47 : decode c_Fi_settle 47 = .ok (.getfield 31, 3) := by decide +kernel
theorem d_Fi_settle_50 : decode c_Fi_settle 50 = .ok (.aload_n 0, 1) := by decide +kernel
theorem d_Fi_settle_51 : decode c_Fi_settle 51 = .ok (.getfield 18, 3) := by decide +kernel
theorem d_Fi_settle_54 : decode c_Fi_settle 54 = .ok (.getfield 35, 3) := by decide +kernel
theorem d_Fi_settle_57 : decode c_Fi_settle 57 = .ok (.iload_n 1, 1) := by decide +kernel
theorem d_Fi_settle_58 : decode c_Fi_settle 58 = .ok (.iaload, 1) := by decide +kernel
theorem d_Fi_settle_59 : decode c_Fi_settle 59 = .ok (.invokevirtual 118, 3) := by decide +kernel
theorem d_Fi_settle_62 : decode c_Fi_settle 62 = .ok (.return_, 1) := by decide +kernel
theorem d_Li_init_0 : decode c_Li_init 0 = .ok (.aload_n 0, 1) := by decide +kernel
theorem d_Li_init_1 : decode c_Li_init 1 = .ok (.invokespecial 3, 3) := by decide +kernel
theorem d_Li_init_4 : decode c_Li_init 4 = .ok (.aload_n 0, 1) := by decide +kernel
theorem d_Li_init_5 : decode c_Li_init 5 = .ok (.bipush 60, 2) := by decide +kernel
theorem d_Li_init_7 : decode c_Li_init 7 = .ok (.newarray .int, 2) := by decide +kernel
theorem d_Li_init_9 : decode c_Li_init 9 = .ok (.putfield 9, 3) := by decide +kernel
theorem d_Li_init_12 : decode c_Li_init 12 = .ok (.aload_n 0, 1) := by decide +kernel
theorem d_Li_init_13 : decode c_Li_init 13 = .ok (.bipush 60, 2) := by decide +kernel
theorem d_Li_init_15 : decode c_Li_init 15 = .ok (.newarray .int, 2) := by decide +kernel
theorem d_Li_init_17 : decode c_Li_init 17 = .ok (.putfield 15, 3) := by decide +kernel
theorem d_Li_init_20 : decode c_Li_init 20 = .ok (.aload_n 0, 1) := by decide +kernel
theorem d_Li_init_21 : decode c_Li_init 21 = .ok (.bipush 60, 2) := by decide +kernel
theorem d_Li_init_23 : decode c_Li_init 23 = .ok (.newarray .int, 2) := by decide +kernel
theorem d_Li_init_25 : decode c_Li_init 25 = .ok (.putfield 18, 3) := by decide +kernel
theorem d_Li_init_28 : decode c_Li_init 28 = .ok (.aload_n 0, 1) := by decide +kernel
theorem d_Li_init_29 : decode c_Li_init 29 = .ok (.bipush 60, 2) := by decide +kernel
theorem d_Li_init_31 : decode c_Li_init 31 = .ok (.newarray .int, 2) := by decide +kernel
theorem d_Li_init_33 : decode c_Li_init 33 = .ok (.putfield 21, 3) := by decide +kernel
theorem d_Li_init_36 : decode c_Li_init 36 = .ok (.aload_n 0, 1) := by decide +kernel
theorem d_Li_init_37 : decode c_Li_init 37 = .ok (.bipush 61, 2) := by decide +kernel
theorem d_Li_init_39 : decode c_Li_init 39 = .ok (.newarray .int, 2) := by decide +kernel
theorem d_Li_init_41 : decode c_Li_init 41 = .ok (.putfield 24, 3) := by decide +kernel
theorem d_Li_init_44 : decode c_Li_init 44 = .ok (.aload_n 0, 1) := by decide +kernel
theorem d_Li_init_45 : decode c_Li_init 45 = .ok (.aload_n 1, 1) := by decide +kernel
theorem d_Li_init_46 : decode c_Li_init 46 = .ok (.putfield 27, 3) := by decide +kernel
theorem d_Li_init_49 : decode c_Li_init 49 = .ok (.return_, 1) := by decide +kernel
theorem d_Li_clear_0 : decode c_Li_clear 0 = .ok (.aload_n 0, 1) := by decide +kernel
theorem d_Li_clear_1 : decode c_Li_clear 1 = .ok (.iconst 0, 1) := by decide +kernel
theorem d_Li_clear_2 : decode c_Li_clear 2 = .ok (.putfield 31, 3) := by decide +kernel
theorem d_Li_clear_5 : decode c_Li_clear 5 = .ok (.aload_n 0, 1) := by decide +kernel
theorem d_Li_clear_6 : decode c_Li_clear 6 = .ok (.iconst 0, 1) := by decide +kernel
theorem d_Li_clear_7 : decode c_Li_clear 7 = .ok (.putfield 35, 3) := by decide +kernel
theorem d_Li_clear_10 : decode c_Li_clear 10 = .ok (.return_, 1) := by decide +kernel
theorem d_Li_add_0 : decode c_Li_add 0 = .ok (.aload_n 0, 1) := by decide +kernel
theorem d_Li_add_1 : decode c_Li_add 1 = .ok (.getfield 31, 3) := by decide +kernel
theorem d_Li_add_4 : decode c_Li_add 4 = .ok (.bipush 60, 2) := by decide +kernel
theorem d_Li_add_6 : decode c_Li_add 6 = .ok (.if_icmp .lt 4, 3) := by decide +kernel
theorem d_Li_add_9 : decode c_Li_add 9 = .ok (.return_, 1) := by decide +kernel
theorem d_Li_add_10 : decode c_Li_add 10 = .ok (.aload_n 0, 1) := by decide +kernel
theorem d_Li_add_11 : decode c_Li_add 11 = .ok (.getfield 31, 3) := by decide +kernel
theorem d_Li_add_14 : decode c_Li_add 14 = .ok (.ifCond .le 31, 3) := by decide +kernel
theorem d_Li_add_17 : decode c_Li_add 17 = .ok (.aload_n 0, 1) := by decide +kernel
theorem d_Li_add_18 : decode c_Li_add 18 = .ok (.dup, 1) := by decide +kernel
theorem d_Li_add_19 : decode c_Li_add 19 = .ok (.getfield 35, 3) := by decide +kernel
theorem d_Li_add_22 : decode c_Li_add 22 = .ok (.aload_n 0, 1) := by decide +kernel
theorem d_Li_add_23 : decode c_Li_add 23 = .ok (.getfield 27, 3) := by decide +kernel
theorem d_Li_add_26 : decode c_Li_add 26 = .ok (.aload_n 0, 1) := by decide +kernel
theorem d_Li_add_27 : decode c_Li_add 27 = .ok (.getfield 9, 3) := by decide +kernel
theorem d_Li_add_30 : decode c_Li_add 30 = .ok (.aload_n 0, 1) := by decide +kernel
theorem d_Li_add_31 : decode c_Li_add 31 = .ok (.getfield 31, 3) := by decide +kernel
theorem d_Li_add_34 : decode c_Li_add 34 = .ok (.iconst 1, 1) := by decide +kernel
theorem d_Li_add_35 : decode c_Li_add 35 = .ok (.isub, 1) := by decide +kernel
theorem d_Li_add_36 : decode c_Li_add 36 = .ok (.iaload, 1) := by decide +kernel
theorem d_Li_add_37 : decode c_Li_add 37 = .ok (.iload_n 1, 1) := by decide +kernel
theorem d_Li_add_38 : decode c_Li_add 38 = .ok (.invokevirtual 38, 3) := by decide +kernel
theorem d_Li_add_41 : decode c_Li_add 41 = .ok (.iadd, 1) := by decide +kernel
theorem d_Li_add_42 : decode c_Li_add 42 = .ok (.putfield 35, 3) := by decide +kernel
theorem d_Li_add_45 : decode c_Li_add 45 = .ok (.aload_n 0, 1) := by decide +kernel
theorem d_Li_add_46 : decode c_Li_add 46 = .ok (.getfield 9, 3) := by decide +kernel
theorem d_Li_add_49 : decode c_Li_add 49 = .ok (.aload_n 0, 1) := by decide +kernel
theorem d_Li_add_50 : decode c_Li_add 50 = .ok (.getfield 31, 3) := by decide +kernel
theorem d_Li_add_53 : decode c_Li_add 53 = .ok (.iload_n 1, 1) := by decide +kernel
theorem d_Li_add_54 : decode c_Li_add 54 = .ok (.iastore, 1) := by decide +kernel
theorem d_Li_add_55 : decode c_Li_add 55 = .ok (.aload_n 0, 1) := by decide +kernel
theorem d_Li_add_56 : decode c_Li_add 56 = .ok (.getfield 15, 3) := by decide +kernel
theorem d_Li_add_59 : decode c_Li_add 59 = .ok (.aload_n 0, 1) := by decide +kernel
theorem d_Li_add_60 : decode c_Li_add 60 = .ok (.getfield 31, 3) := by decide +kernel
theorem d_Li_add_63 : decode c_Li_add 63 = .ok (.aload_n 0, 1) := by decide +kernel
theorem d_Li_add_64 : decode c_Li_add 64 = .ok (.getfield 35, 3) := by decide +kernel
theorem d_Li_add_67 : decode c_Li_add 67 = .ok (.iastore, 1) := by decide +kernel
theorem d_Li_add_68 : decode c_Li_add 68 = .ok (.aload_n 0, 1) := by decide +kernel
theorem d_Li_add_69 : decode c_Li_add 69 = .ok (.dup, 1) := by decide +kernel
theorem d_Li_add_70 : decode c_Li_add 70 = .ok (.getfield 35, 3) := by decide +kernel
theorem d_Li_add_73 : decode c_Li_add 73 = .ok (.aload_n 0, 1) := by decide +kernel
theorem d_Li_add_74 : decode c_Li_add 74 = .ok (.getfield 27, 3) := by decide +kernel
theorem d_Li_add_77 : decode c_Li_add 77 = .ok (.getfield 44, 3) := by decide +kernel
theorem d_Li_add_80 : decode c_Li_add 80 = .ok (.iload_n 1, 1) := by decide +kernel
theorem d_Li_add_81 : decode c_Li_add 81 = .ok (.iaload, 1) := by decide +kernel
theorem d_Li_add_82 : decode c_Li_add 82 = .ok (.iadd, 1) := by decide +kernel
theorem d_Li_add_83 : decode c_Li_add 83 = .ok (.putfield 35, 3) := by decide +kernel
theorem d_Li_add_86 : decode c_Li_add 86 = .ok (.aload_n 0, 1) := by decide +kernel
theorem d_Li_add_87 : decode c_Li_add 87 = .ok (.dup, 1) := by decide +kernel
theorem d_Li_add_88 : decode c_Li_add 88 = .ok (.getfield 31, 3) := by decide +kernel
theorem d_Li_add_91 : decode c_Li_add 91 = .ok (.iconst 1, 1) := by decide +kernel
theorem d_Li_add_92 : decode c_Li_add 92 = .ok (.iadd, 1) := by decide +kernel
theorem d_Li_add_93 : decode c_Li_add 93 = .ok (.putfield 31, 3) := by decide +kernel
theorem d_Li_add_96 : decode c_Li_add 96 = .ok (.return_, 1) := by decide +kernel
theorem d_Li_layIn_0 : decode c_Li_layIn 0 = .ok (.iload_n 2, 1) := by decide +kernel
theorem d_Li_layIn_1 : decode c_Li_layIn 1 = .ok (.iload_n 1, 1) := by decide +kernel
theorem d_Li_layIn_2 : decode c_Li_layIn 2 = .ok (.isub, 1) := by decide +kernel
theorem d_Li_layIn_3 : decode c_Li_layIn 3 = .ok (.aload_n 0, 1) := by decide +kernel
theorem d_Li_layIn_4 : decode c_Li_layIn 4 = .ok (.getfield 35, 3) := by decide +kernel
theorem d_Li_layIn_7 : decode c_Li_layIn 7 = .ok (.isub, 1) := by decide +kernel
theorem d_Li_layIn_8 : decode c_Li_layIn 8 = .ok (.istore_n 3, 1) := by decide +kernel
theorem d_Li_layIn_9 : decode c_Li_layIn 9 = .ok (.iload_n 3, 1) := by decide +kernel
theorem d_Li_layIn_10 : decode c_Li_layIn 10 = .ok (.ifCond .ge 5, 3) := by decide +kernel
theorem d_Li_layIn_13 : decode c_Li_layIn 13 = .ok (.iconst 0, 1) := by decide +kernel
theorem d_Li_layIn_14 : decode c_Li_layIn 14 = .ok (.ireturn, 1) := by decide +kernel
theorem d_Li_layIn_15 : decode c_Li_layIn 15 = .ok (.aload_n 0, 1) := by decide +kernel
theorem d_Li_layIn_16 : decode c_Li_layIn 16 = .ok (.iload_n 1, 1) := by decide +kernel
theorem d_Li_layIn_17 : decode c_Li_layIn 17 = .ok (.iload_n 3, 1) := by decide +kernel
theorem d_Li_layIn_18 : decode c_Li_layIn 18 = .ok (.invokevirtual 47, 3) := by decide +kernel
theorem d_Li_layIn_21 : decode c_Li_layIn 21 = .ok (.aload_n 0, 1) := by decide +kernel
theorem d_Li_layIn_22 : decode c_Li_layIn 22 = .ok (.iload_n 1, 1) := by decide +kernel
theorem d_Li_layIn_23 : decode c_Li_layIn 23 = .ok (.iload_n 3, 1) := by decide +kernel
theorem d_Li_layIn_24 : decode c_Li_layIn 24 = .ok (.invokevirtual 51, 3) := by decide +kernel
theorem d_Li_layIn_27 : decode c_Li_layIn 27 = .ok (.iconst 1, 1) := by decide +kernel
theorem d_Li_layIn_28 : decode c_Li_layIn 28 = .ok (.ireturn, 1) := by decide +kernel
theorem d_Li_findBestShifts_0 : decode c_Li_findBestShifts 0 = .ok (.aload_n 0, 1) := by decide +kernel
theorem d_Li_findBestShifts_1 : decode c_Li_findBestShifts 1 = .ok (.iconst 0, 1) := by decide +kernel
theorem d_Li_findBestShifts_2 : decode c_Li_findBestShifts 2 = .ok (.putfield 54, 3) := by decide +kernel
theorem d_Li_findBestShifts_5 : decode c_Li_findBestShifts 5 = .ok (.iconst 0, 1) := by decide +kernel
theorem d_Li_findBestShifts_6 : decode c_Li_findBestShifts 6 = .ok (.istore_n 3, 1) := by decide +kernel
theorem d_Li_findBestShifts_7 : decode c_Li_findBestShifts 7 = .ok (.iload_n 3, 1) := by decide +kernel
theorem d_Li_findBestShifts_8 : decode c_Li_findBestShifts 8 = .ok (.aload_n 0, 1) := by decide +kernel
theorem d_Li_findBestShifts_9 : decode c_Li_findBestShifts 9 = .ok (.getfield 31, 3) := by decide +kernel
theorem d_Li_findBestShifts_12 : decode c_Li_findBestShifts 12 = .ok (.if_icmp .ge 85, 3) := by decide +kernel
theorem d_Li_findBestShifts_15 : decode c_Li_findBestShifts 15 = .ok (.aload_n 0, 1) := by decide +kernel
theorem d_Li_findBestShifts_16 : decode c_Li_findBestShifts 16 = .ok (.getfield 27, 3) := by decide +kernel
theorem d_Li_findBestShifts_19 : decode c_Li_findBestShifts 19 = .ok (.getfield 57, 3) := by decide +kernel
theorem d_Li_findBestShifts_22 : decode c_Li_findBestShifts 22 = .ok (.aload_n 0, 1) := by decide +kernel
theorem d_Li_findBestShifts_23 : decode c_Li_findBestShifts 23 = .ok (.getfield 9, 3) := by decide +kernel
theorem d_Li_findBestShifts_26 : decode c_Li_findBestShifts 26 = .ok (.iload_n 3, 1) := by decide +kernel
theorem d_Li_findBestShifts_27 : decode c_Li_findBestShifts 27 = .ok (.iaload, 1) := by decide +kernel
theorem d_Li_findBestShifts_28 : decode c_Li_findBestShifts 28 = .ok (.iaload, 1) := by decide +kernel
theorem d_Li_findBestShifts_29 : decode c_Li_findBestShifts 29 = .ok (.aload_n 0, 1) := by decide +kernel
theorem d_Li_findBestShifts_30 : decode c_Li_findBestShifts 30 = .ok (.getfield 15, 3) := by decide +kernel
theorem d_Li_findBestShifts_33 : decode c_Li_findBestShifts 33 = .ok (.iload_n 3, 1) := by decide +kernel
theorem d_Li_findBestShifts_34 : decode c_Li_findBestShifts 34 = .ok (.iaload, 1) := by decide +kernel
theorem d_Li_findBestShifts_35 : decode c_Li_findBestShifts 35 = .ok (.isub, 1) := by decide +kernel
theorem d_Li_findBestShifts_36 : decode c_Li_findBestShifts 36 = .ok (.iload_n 1, 1) := by decide +kernel
theorem d_Li_findBestShifts_37 : decode c_Li_findBestShifts 37 = .ok (.isub, 1) := by decide +kernel
theorem d_Li_findBestShifts_38 : decode c_Li_findBestShifts 38 = .ok (.istore 4, 2) := by decide +kernel
theorem d_Li_findBestShifts_40 : decode c_Li_findBestShifts 40 = .ok (.iconst 0, 1) := by decide +kernel
theorem d_Li_findBestShifts_41 : decode c_Li_findBestShifts 41 = .ok (.iload_n 2, 1) := by decide +kernel
theorem d_Li_findBestShifts_42 : decode c_Li_findBestShifts 42 = .ok (.iload 4, 2) := by decide +kernel
theorem d_Li_findBestShifts_44 : decode c_Li_findBestShifts 44 = .ok (.invokestatic 60, 3) := by decide +kernel
theorem d_Li_findBestShifts_47 : decode c_Li_findBestShifts 47 = .ok (.invokestatic 65, 3) := by decide +kernel
theorem d_Li_findBestShifts_50 : decode c_Li_findBestShifts 50 = .ok (.istore 5, 2) := by decide +kernel
theorem d_Li_findBestShifts_52 : decode c_Li_findBestShifts 52 = .ok (.aload_n 0, 1) := by decide +kernel
theorem d_Li_findBestShifts_53 : decode c_Li_findBestShifts 53 = .ok (.iload 5, 2) := by decide +kernel
theorem d_Li_findBestShifts_55 : decode c_Li_findBestShifts 55 = .ok (.invokevirtual 68, 3) := by decide +kernel
theorem d_Li_findBestShifts_58 : decode c_Li_findBestShifts 58 = .ok (.aload_n 0, 1) := by decide +kernel
theorem d_Li_findBestShifts_59 : decode c_Li_findBestShifts 59 = .ok (.iload 5, 2) := by decide +kernel
theorem d_Li_findBestShifts_61 : decode c_Li_findBestShifts 61 = .ok (.invokevirtual 68, 3) := by decide +kernel
theorem d_Li_findBestShifts_64 : decode c_Li_findBestShifts 64 = .ok (.aload_n 0, 1) := by decide +kernel
theorem d_Li_findBestShifts_65 : decode c_Li_findBestShifts 65 = .ok (.dup, 1) := by decide +kernel
theorem d_Li_findBestShifts_66 : decode c_Li_findBestShifts 66 = .ok (.getfield 54, 3) := by decide +kernel
theorem d_Li_findBestShifts_69 : decode c_Li_findBestShifts 69 = .ok (.iconst 1, 1) := by decide +kernel
theorem d_Li_findBestShifts_70 : decode c_Li_findBestShifts 70 = .ok (.isub, 1) := by decide +kernel
theorem d_Li_findBestShifts_71 : decode c_Li_findBestShifts 71 = .ok (.putfield 54, 3) := by decide +kernel
theorem d_Li_findBestShifts_74 : decode c_Li_findBestShifts 74 = .ok (.aload_n 0, 1) := by decide +kernel
theorem d_Li_findBestShifts_75 : decode c_Li_findBestShifts 75 = .ok (.getfield 18, 3) := by decide +kernel
theorem d_Li_findBestShifts_78 : decode c_Li_findBestShifts 78 = .ok (.iload_n 3, 1) := by decide +kernel
theorem d_Li_findBestShifts_79 : decode c_Li_findBestShifts 79 = .ok (.aload_n 0, 1) := by decide +kernel
theorem d_Li_findBestShifts_80 : decode c_Li_findBestShifts 80 = .ok (.getfield 24, 3) := by decide +kernel
theorem d_Li_findBestShifts_83 : decode c_Li_findBestShifts 83 = .ok (.aload_n 0, 1) := by decide +kernel
theorem d_Li_findBestShifts_84 : decode c_Li_findBestShifts 84 = .ok (.getfield 54, 3) := by decide +kernel
theorem d_Li_findBestShifts_87 : decode c_Li_findBestShifts 87 = .ok (.iconst 1, 1) := by decide +kernel
theorem d_Li_findBestShifts_88 : decode c_Li_findBestShifts 88 = .ok (.isub, 1) := by decide +kernel
theorem d_Li_findBestShifts_89 : decode c_Li_findBestShifts 89 = .ok (.iaload, 1) := by decide +kernel
theorem d_Li_findBestShifts_90 : decode c_Li_findBestShifts 90 = .ok (.iastore, 1) := by decide +kernel
theorem d_Li_findBestShifts_91 : decode c_Li_findBestShifts 91 = .ok (.iinc 3 1, 3) := by decide +kernel
theorem d_Li_findBestShifts_94 : decode c_Li_findBestShifts 94 = .ok (.goto (-87), 3) := by decide +kernel
theorem d_Li_findBestShifts_97 : decode c_Li_findBestShifts 97 = .ok (.return_, 1) := by decide +kernel
theorem d_Li_insertBend_0 : decode c_Li_insertBend 0 = .ok (.aload_n 0, 1) := by decide +kernel
theorem d_Li_insertBend_1 : decode c_Li_insertBend 1 = .ok (.getfield 54, 3) := by decide +kernel
theorem d_Li_insertBend_4 : decode c_Li_insertBend 4 = .ok (.aload_n 0, 1) := by decide +kernel
theorem d_Li_insertBend_5 : decode c_Li_insertBend 5 = .ok (.getfield 24, 3) := by decide +kernel
theorem d_Li_insertBend_8 : decode c_Li_insertBend 8 = .ok (.arraylength, 1) := by decide +kernel
theorem d_Li_insertBend_9 : decode c_Li_insertBend 9 = .ok (.if_icmp .lt 4, 3) := by decide +kernel
theorem d_Li_insertBend_12 : decode c_Li_insertBend 12 = .ok (.return_, 1) := by decide +kernel
theorem d_Li_insertBend_13 : decode c_Li_insertBend 13 = .ok (.aload_n 0, 1) := by decide +kernel
theorem d_Li_insertBend_14 : decode c_Li_insertBend 14 = .ok (.getfield 54, 3) := by decide +kernel
theorem d_Li_insertBend_17 : decode c_Li_insertBend 17 = .ok (.istore_n 2, 1) := by decide +kernel
theorem d_Li_insertBend_18 : decode c_Li_insertBend 18 = .ok (.iload_n 2, 1) := by decide +kernel
theorem d_Li_insertBend_19 : decode c_Li_insertBend 19 = .ok (.ifCond .le 35, 3) := by decide +kernel
theorem d_Li_insertBend_22 : decode c_Li_insertBend 22 = .ok (.aload_n 0, 1) := by decide +kernel
theorem d_Li_insertBend_23 : decode c_Li_insertBend 23 = .ok (.getfield 24, 3) := by decide +kernel
theorem d_Li_insertBend_26 : decode c_Li_insertBend 26 = .ok (.iload_n 2, 1) := by decide +kernel
theorem d_Li_insertBend_27 : decode c_Li_insertBend 27 = .ok (.iconst 1, 1) := by decide +kernel
theorem d_Li_insertBend_28 : decode c_Li_insertBend 28 = .ok (.isub, 1) := by decide +kernel
theorem d_Li_insertBend_29 : decode c_Li_insertBend 29 = .ok (.iaload, 1) := by decide +kernel
theorem d_Li_insertBend_30 : decode c_Li_insertBend 30 = .ok (.iload_n 1, 1) := by decide +kernel
theorem d_Li_insertBend_31 : decode c_Li_insertBend 31 = .ok (.if_icmp .le 23, 3) := by decide +kernel
theorem d_Li_insertBend_34 : decode c_Li_insertBend 34 = .ok (.aload_n 0, 1) := by decide +kernel
theorem d_Li_insertBend_35 : decode c_Li_insertBend 35 = .ok (.getfield 24, 3) := by decide +kernel
theorem d_Li_insertBend_38 : decode c_Li_insertBend 38 = .ok (.iload_n 2, 1) := by decide +kernel
theorem d_Li_insertBend_39 : decode c_Li_insertBend 39 = .ok (.aload_n 0, 1) := by decide +kernel
theorem d_Li_insertBend_40 : decode c_Li_insertBend 40 = .ok (.getfield 24, 3) := by decide +kernel
theorem d_Li_insertBend_43 : decode c_Li_insertBend 43 = .ok (.iload_n 2, 1) := by decide +kernel
theorem d_Li_insertBend_44 : decode c_Li_insertBend 44 = .ok (.iconst 1, 1) := by decide +kernel
theorem d_Li_insertBend_45 : decode c_Li_insertBend 45 = .ok (.isub, 1) := by decide +kernel
theorem d_Li_insertBend_46 : decode c_Li_insertBend 46 = .ok (.iaload, 1) := by decide +kernel
theorem d_Li_insertBend_47 : decode c_Li_insertBend 47 = .ok (.iastore, 1) := by decide +kernel
theorem d_Li_insertBend_48 : decode c_Li_insertBend 48 = .ok (.iinc 2 (-1), 3) := by decide +kernel
theorem d_Li_insertBend_51 : decode c_Li_insertBend 51 = .ok (.goto (-33), 3) := by decide +kernel
theorem d_Li_insertBend_54 : decode c_Li_insertBend 54 = .ok (.aload_n 0, 1) := by decide +kernel
theorem d_Li_insertBend_55 : decode c_Li_insertBend 55 = .ok (.getfield 24, 3) := by decide +kernel
theorem d_Li_insertBend_58 : decode c_Li_insertBend 58 = .ok (.iload_n 2, 1) := by decide +kernel
theorem d_Li_insertBend_59 : decode c_Li_insertBend 59 = .ok (.iload_n 1, 1) := by decide +kernel
theorem d_Li_insertBend_60 : decode c_Li_insertBend 60 = .ok (.iastore, 1) := by decide +kernel
theorem d_Li_insertBend_61 : decode c_Li_insertBend 61 = .ok (.aload_n 0, 1) := by decide +kernel
theorem d_Li_insertBend_62 : decode c_Li_insertBend 62 = .ok (.dup, 1) := by decide +kernel
theorem d_Li_insertBend_63 : decode c_Li_insertBend 63 = .ok (.getfield 54, 3) := by decide +kernel
theorem d_Li_insertBend_66 : decode c_Li_insertBend 66 = .ok (.iconst 1, 1) := by decide +kernel
theorem d_Li_insertBend_67 : decode c_Li_insertBend 67 = .ok (.iadd, 1) := by decide +kernel
theorem d_Li_insertBend_68 : decode c_Li_insertBend 68 = .ok (.putfield 54, 3) := by decide +kernel
theorem d_Li_insertBend_71 : decode c_Li_insertBend 71 = .ok (.return_, 1) := by decide +kernel
theorem d_Li_setSites_0 : decode c_Li_setSites 0 = .ok (.iload_n 2, 1) := by decide +kernel
theorem d_Li_setSites_1 : decode c_Li_setSites 1 = .ok (.istore_n 3, 1) := by decide +kernel
theorem d_Li_setSites_2 : decode c_Li_setSites 2 = .ok (.aload_n 0, 1) := by decide +kernel
theorem d_Li_setSites_3 : decode c_Li_setSites 3 = .ok (.iconst 0, 1) := by decide +kernel
theorem d_Li_setSites_4 : decode c_Li_setSites 4 = .ok (.putfield 72, 3) := by decide +kernel
theorem d_Li_setSites_7 : decode c_Li_setSites 7 = .ok (.aload_n 0, 1) := by decide +kernel
theorem d_Li_setSites_8 : decode c_Li_setSites 8 = .ok (.getfield 31, 3) := by decide +kernel
theorem d_Li_setSites_11 : decode c_Li_setSites 11 = .ok (.iconst 1, 1) := by decide +kernel
theorem d_Li_setSites_12 : decode c_Li_setSites 12 = .ok (.isub, 1) := by decide +kernel
theorem d_Li_setSites_13 : decode c_Li_setSites 13 = .ok (.istore 4, 2) := by decide +kernel
theorem d_Li_setSites_15 : decode c_Li_setSites 15 = .ok (.iload 4, 2) := by decide +kernel
theorem d_Li_setSites_17 : decode c_Li_setSites 17 = .ok (.ifCond .lt 74, 3) := by decide +kernel
theorem d_Li_setSites_20 : decode c_Li_setSites 20 = .ok (.iload_n 3, 1) := by decide +kernel
theorem d_Li_setSites_21 : decode c_Li_setSites 21 = .ok (.aload_n 0, 1) := by decide +kernel
theorem d_Li_setSites_22 : decode c_Li_setSites 22 = .ok (.getfield 18, 3) := by decide +kernel
theorem d_Li_setSites_25 : decode c_Li_setSites 25 = .ok (.iload 4, 2) := by decide +kernel
theorem d_Li_setSites_27 : decode c_Li_setSites 27 = .ok (.iaload, 1) := by decide +kernel
theorem d_Li_setSites_28 : decode c_Li_setSites 28 = .ok (.invokestatic 60, 3) := by decide +kernel
theorem d_Li_setSites_31 : decode c_Li_setSites 31 = .ok (.istore_n 3, 1) := by decide +kernel
theorem d_Li_setSites_32 : decode c_Li_setSites 32 = .ok (.aload_n 0, 1) := by decide +kernel
theorem d_Li_setSites_33 : decode c_Li_setSites 33 = .ok (.getfield 21, 3) := by decide +kernel
theorem d_Li_setSites_36 : decode c_Li_setSites 36 = .ok (.iload 4, 2) := by decide +kernel
theorem d_Li_setSites_38 : decode c_Li_setSites 38 = .ok (.iload_n 1, 1) := by decide +kernel
theorem d_Li_setSites_39 : decode c_Li_setSites 39 = .ok (.aload_n 0, 1) := by decide +kernel
theorem d_Li_setSites_40 : decode c_Li_setSites 40 = .ok (.getfield 15, 3) := by decide +kernel
theorem d_Li_setSites_43 : decode c_Li_setSites 43 = .ok (.iload 4, 2) := by decide +kernel
theorem d_Li_setSites_45 : decode c_Li_setSites 45 = .ok (.iaload, 1) := by decide +kernel
theorem d_Li_setSites_46 : decode c_Li_setSites 46 = .ok (.iadd, 1) := by decide +kernel
theorem d_Li_setSites_47 : decode c_Li_setSites 47 = .ok (.iload_n 3, 1) := by decide +kernel
theorem d_Li_setSites_48 : decode c_Li_setSites 48 = .ok (.iadd, 1) := by decide +kernel
theorem d_Li_setSites_49 : decode c_Li_setSites 49 = .ok (.iastore, 1) := by decide +kernel
theorem d_Li_setSites_50 : decode c_Li_setSites 50 = .ok (.aload_n 0, 1) := by decide +kernel
theorem d_Li_setSites_51 : decode c_Li_setSites 51 = .ok (.dup, 1) := by decide +kernel
theorem d_Li_setSites_52 : decode c_Li_setSites 52 = .ok (.getfield 72, 3) := by decide +kernel
theorem d_Li_setSites_55 : decode c_Li_setSites 55 = .ok (.aload_n 0, 1) := by decide +kernel
theorem d_Li_setSites_56 : decode c_Li_setSites 56 = .ok (.getfield 21, 3) := by decide +kernel
theorem d_Li_setSites_59 : decode c_Li_setSites 59 = .ok (.iload 4, 2) := by decide +kernel
theorem d_Li_setSites_61 : decode c_Li_setSites 61 = .ok (.iaload, 1) := by decide +kernel
theorem d_Li_setSites_62 : decode c_Li_setSites 62 = .ok (.aload_n 0, 1) := by decide +kernel
theorem d_Li_setSites_63 : decode c_Li_setSites 63 = .ok (.getfield 27, 3) := by decide +kernel
theorem d_Li_setSites_66 : decode c_Li_setSites 66 = .ok (.getfield 57, 3) := by decide +kernel
theorem d_Li_setSites_69 : decode c_Li_setSites 69 = .ok (.aload_n 0, 1) := by decide +kernel
theorem d_Li_setSites_70 : decode c_Li_setSites 70 = .ok (.getfield 9, 3) := by decide +kernel
theorem d_Li_setSites_73 : decode c_Li_setSites 73 = .ok (.iload 4, 2) := by decide +kernel
theorem d_Li_setSites_75 : decode c_Li_setSites 75 = .ok (.iaload, 1) := by decide +kernel
theorem d_Li_setSites_76 : decode c_Li_setSites 76 = .ok (.iaload, 1) := by decide +kernel
theorem d_Li_setSites_77 : decode c_Li_setSites 77 = .ok (.isub, 1) := by decide +kernel
theorem d_Li_setSites_78 : decode c_Li_setSites 78 = .ok (.invokestatic 75, 3) := by decide +kernel
theorem d_Li_setSites_81 : decode c_Li_setSites 81 = .ok (.iadd, 1) := by decide +kernel
theorem d_Li_setSites_82 : decode c_Li_setSites 82 = .ok (.putfield 72, 3) := by decide +kernel
theorem d_Li_setSites_85 : decode c_Li_setSites 85 = .ok (.iinc 4 (-1), 3) := by decide +kernel
theorem d_Li_setSites_88 : decode c_Li_setSites 88 = .ok (.goto (-73), 3) := by decide +kernel
theorem d_Li_setSites_91 : decode c_Li_setSites 91 = .ok (.return_, 1) := by decide +kernel
theorem d_Li_putCells_0 : decode c_Li_putCells 0 = .ok (.iconst 0, 1) := by decide +kernel
theorem d_Li_putCells_1 : decode c_Li_putCells 1 = .ok (.istore_n 2, 1) := by decide +kernel
theorem d_Li_putCells_2 : decode c_Li_putCells 2 = .ok (.iload_n 2, 1) := by decide +kernel
theorem d_Li_putCells_3 : decode c_Li_putCells 3 = .ok (.aload_n 0, 1) := by decide +kernel
theorem d_Li_putCells_4 : decode c_Li_putCells 4 = .ok (.getfield 31, 3) := by decide +kernel
theorem d_Li_putCells_7 : decode c_Li_putCells 7 = .ok (.if_icmp .ge 29, 3) := by decide +kernel
theorem d_Li_putCells_10 : decode c_Li_putCells 10 = .ok (.aload_n 0, 1) := by decide +kernel
theorem d_Li_putCells_11 : decode c_Li_putCells 11 = .ok (.getfield 27, 3) := by decide +kernel
theorem d_Li_putCells_14 : decode c_Li_putCells 14 = .ok (.aload_n 0, 1) := by decide +kernel
theorem d_Li_putCells_15 : decode c_Li_putCells 15 = .ok (.getfield 9, 3) := by decide +kernel
theorem d_Li_putCells_18 : decode c_Li_putCells 18 = .ok (.iload_n 2, 1) := by decide +kernel
theorem d_Li_putCells_19 : decode c_Li_putCells 19 = .ok (.iaload, 1) := by decide +kernel
theorem d_Li_putCells_20 : decode c_Li_putCells 20 = .ok (.aload_n 0, 1) := by decide +kernel
theorem d_Li_putCells_21 : decode c_Li_putCells 21 = .ok (.getfield 21, 3) := by decide +kernel
theorem d_Li_putCells_24 : decode c_Li_putCells 24 = .ok (.iload_n 2, 1) := by decide +kernel
theorem d_Li_putCells_25 : decode c_Li_putCells 25 = .ok (.iaload, 1) := by decide +kernel
theorem d_Li_putCells_26 : decode c_Li_putCells 26 = .ok (.iload_n 1, 1) := by decide +kernel
theorem d_Li_putCells_27 : decode c_Li_putCells 27 = .ok (.invokevirtual 79, 3) := by decide +kernel
theorem d_Li_putCells_30 : decode c_Li_putCells 30 = .ok (.iinc 2 1, 3) := by decide +kernel
theorem d_Li_putCells_33 : decode c_Li_putCells 33 = .ok (.goto (-31), 3) := by decide +kernel
theorem d_Li_putCells_36 : decode c_Li_putCells 36 = .ok (.return_, 1) := by decide +kernel
